set_option maxRecDepth 100000 in
set_option maxHeartbeats 4000000 in
theorem wX12_reads_171 {J : Nat → Lv → List AV → Obs → Lay → Nat → Nat → Mem → Mem → Prop} (hJ : Cl RX12 cX12_reads 2 2 44 0 0 none false J) {Sc S' : Mem} (hR : Rk cX12_reads none none wl0 L0 0 0 Sc S' J) : ∀ (n : Nat) (S : Mem), fX12_reads_171 n S = some (S') → J 171 [some (vr 12 0), none] [] wl0 L0 0 0 Sc S := by
  intro n
  induction n with
  | zero =>
    intro  S hF
    rw [fX12_reads_171] at hF
    cases hF
  | succ n ih =>
    intro  S hF
    rw [fX12_reads_171] at hF
    refine hJ.aload_n (pc := 171) dX12_reads_171 rfl ?_
    refine hJ.aload_n (pc := 172) dX12_reads_172 rfl ?_
    refine hJ.aload_n (pc := 173) dX12_reads_173 rfl ?_
    refine hJ.gM (pc := 174) dX12_reads_174 fi_X12_153 ?_
    obtain ⟨r14, h13, hF⟩ := bn_some hF
    refine hJ.cV (pc := 177) [vi (S 12 0 22)] [vr 12 0] [vi r14, vr 12 0] dX12_reads_177 lk_X12_156 (ctX12_raw (S 12 0 22) _ _ _ h13) rfl rfl rfl rfl ?_
    refine hJ.cV (pc := 180) [vi r14] [] [vi (fX12_isDigit r14)] dX12_reads_180 lk_X12_176 (ctX12_isDigit r14 _ _ (fX12_isDigit r14) rfl) rfl rfl rfl rfl ?_
    refine hJ.if_eq (pc := 183) 239 dX12_reads_183 (by decide) (fun h15 => ?_) (fun h15 => ?_)
    · rw [if_pos h15] at hF
      refine hJ.aload_n (pc := 239) dX12_reads_239 rfl ?_
      refine hJ.gM (pc := 240) dX12_reads_240 fi_X12_153 ?_
      refine hJ.aload_n (pc := 243) dX12_reads_243 rfl ?_
      refine hJ.gM (pc := 244) dX12_reads_244 fi_X12_160 ?_
      refine hJ.isub (pc := 247) dX12_reads_247 ?_
      refine hJ.iconst (pc := 248) 5 dX12_reads_248 ic_5 ?_
      refine hJ.icmp_ge (pc := 249) 273 dX12_reads_249 (by decide) (fun h16 => ?_) (fun h16 => ?_)
      · rw [if_pos h16] at hF
        cases hF
        exact hR.v (pc := 273) dX12_reads_273
      · rw [if_neg h16] at hF
        refine hJ.aload_n (pc := 252) dX12_reads_252 rfl ?_
        refine hJ.iconst (pc := 253) 3 dX12_reads_253 ic_3 ?_
        refine hJ.pIM (pc := 254) dX12_reads_254 fp_X12_163 ?_
        refine hJ.goto (pc := 257) 273 dX12_reads_257 (by decide) ?_
        cases hF
        exact hR.v (pc := 273) dX12_reads_273
    · rw [if_neg h15] at hF
      refine hJ.aload_n (pc := 186) dX12_reads_186 rfl ?_
      refine hJ.aload_n (pc := 187) dX12_reads_187 rfl ?_
      refine hJ.gM (pc := 188) dX12_reads_188 fi_X12_166 ?_
      refine hJ.sipush (pc := 191) 10000 dX12_reads_191 sc_10000 ?_
      refine hJ.icmp_ge (pc := 194) 219 dX12_reads_194 (by decide) (fun h17 => ?_) (fun h17 => ?_)
      · rw [if_pos h17] at hF
        refine hJ.aload_n (pc := 219) dX12_reads_219 rfl ?_
        refine hJ.gM (pc := 220) dX12_reads_220 fi_X12_166 ?_
        refine hJ.pIM (pc := 223) dX12_reads_223 fp_X12_166 ?_
        refine hJ.aload_n (pc := 226) dX12_reads_226 rfl ?_
        refine hJ.aload_n (pc := 227) dX12_reads_227 rfl ?_
        refine hJ.gM (pc := 228) dX12_reads_228 fi_X12_153 ?_
        refine hJ.iconst (pc := 231) 1 dX12_reads_231 ic_1 ?_
        refine hJ.iadd (pc := 232) dX12_reads_232 ?_
        refine hJ.pIM (pc := 233) dX12_reads_233 fp_X12_153 ?_
        refine hJ.goto (pc := 236) 171 dX12_reads_236 (by decide) ?_
        exact ih (up (up S 12 0 25 (S 12 0 25)) 12 0 22 (((up S 12 0 25 (S 12 0 25)) 12 0 22) + 1)) hF
      · rw [if_neg h17] at hF
        refine hJ.bipush (pc := 197) 10 dX12_reads_197 bc_10 ?_
        refine hJ.aload_n (pc := 199) dX12_reads_199 rfl ?_
        refine hJ.gM (pc := 200) dX12_reads_200 fi_X12_166 ?_
        refine hJ.imul (pc := 203) dX12_reads_203 ?_
        refine hJ.aload_n (pc := 204) dX12_reads_204 rfl ?_
        refine hJ.aload_n (pc := 205) dX12_reads_205 rfl ?_
        refine hJ.gM (pc := 206) dX12_reads_206 fi_X12_153 ?_
        obtain ⟨r19, h18, hF⟩ := bn_some hF
        refine hJ.cV (pc := 209) [vi (S 12 0 22)] [vi (10 * (S 12 0 25)), vr 12 0] [vi r19, vi (10 * (S 12 0 25)), vr 12 0] dX12_reads_209 lk_X12_156 (ctX12_raw (S 12 0 22) _ _ _ h18) rfl rfl rfl rfl ?_
        refine hJ.iadd (pc := 212) dX12_reads_212 ?_
        refine hJ.bipush (pc := 213) 48 dX12_reads_213 bc_48 ?_
        refine hJ.isub (pc := 215) dX12_reads_215 ?_
        refine hJ.goto (pc := 216) 223 dX12_reads_216 (by decide) ?_
        refine hJ.pIM (pc := 223) dX12_reads_223 fp_X12_166 ?_
        refine hJ.aload_n (pc := 226) dX12_reads_226 rfl ?_
        refine hJ.aload_n (pc := 227) dX12_reads_227 rfl ?_
        refine hJ.gM (pc := 228) dX12_reads_228 fi_X12_153 ?_
        refine hJ.iconst (pc := 231) 1 dX12_reads_231 ic_1 ?_
        refine hJ.iadd (pc := 232) dX12_reads_232 ?_
        refine hJ.pIM (pc := 233) dX12_reads_233 fp_X12_153 ?_
        refine hJ.goto (pc := 236) 171 dX12_reads_236 (by decide) ?_
        exact ih (up (up S 12 0 25 (((10 * (S 12 0 25)) + r19) - 48)) 12 0 22 (((up S 12 0 25 (((10 * (S 12 0 25)) + r19) - 48)) 12 0 22) + 1)) hF
set_option maxRecDepth 100000 in
set_option maxHeartbeats 4000000 in
theorem wX12_reads_95 {J : Nat → Lv → List AV → Obs → Lay → Nat → Nat → Mem → Mem → Prop} (hJ : Cl RX12 cX12_reads 2 2 44 0 0 none false J) {Sc S' : Mem} (hR : Rk cX12_reads none none wl0 L0 0 0 Sc S' J) : ∀ (n : Nat) (S : Mem), fX12_reads_95 n S = some (S') → J 95 [some (vr 12 0), none] [] wl0 L0 0 0 Sc S := by
  intro n
  induction n with
  | zero =>
    intro  S hF
    rw [fX12_reads_95] at hF
    cases hF
  | succ n ih =>
    intro  S hF
    rw [fX12_reads_95] at hF
    refine hJ.aload_n (pc := 95) dX12_reads_95 rfl ?_
    refine hJ.aload_n (pc := 96) dX12_reads_96 rfl ?_
    refine hJ.aload_n (pc := 97) dX12_reads_97 rfl ?_
    refine hJ.gM (pc := 98) dX12_reads_98 fi_X12_153 ?_
    obtain ⟨r21, h20, hF⟩ := bn_some hF
    refine hJ.cV (pc := 101) [vi (S 12 0 22)] [vr 12 0] [vi r21, vr 12 0] dX12_reads_101 lk_X12_156 (ctX12_raw (S 12 0 22) _ _ _ h20) rfl rfl rfl rfl ?_
    refine hJ.cV (pc := 104) [vi r21] [] [vi (fX12_isLetter r21)] dX12_reads_104 lk_X12_169 (ctX12_isLetter r21 _ _ (fX12_isLetter r21) rfl) rfl rfl rfl rfl ?_
    refine hJ.if_eq (pc := 107) 123 dX12_reads_107 (by decide) (fun h22 => ?_) (fun h22 => ?_)
    · rw [if_pos h22] at hF
      refine hJ.aload_n (pc := 123) dX12_reads_123 rfl ?_
      refine hJ.aload_n (pc := 124) dX12_reads_124 rfl ?_
      refine hJ.aload_n (pc := 125) dX12_reads_125 rfl ?_
      refine hJ.gM (pc := 126) dX12_reads_126 fi_X12_160 ?_
      refine hJ.aload_n (pc := 129) dX12_reads_129 rfl ?_
      refine hJ.gM (pc := 130) dX12_reads_130 fi_X12_153 ?_
      obtain ⟨r24, h23, hF⟩ := bn_some hF
      refine hJ.cV (pc := 133) [vi (S 12 0 23), vi (S 12 0 22)] [vr 12 0] [vi r24, vr 12 0] dX12_reads_133 lk_X12_172 (ctX12_wordAt (S 12 0 23) (S 12 0 22) _ _ _ h23) rfl rfl rfl rfl ?_
      refine hJ.pIM (pc := 136) dX12_reads_136 fp_X12_166 ?_
      refine hJ.aload_n (pc := 139) dX12_reads_139 rfl ?_
      refine hJ.gM (pc := 140) dX12_reads_140 fi_X12_166 ?_
      refine hJ.iconst (pc := 143) (-1) dX12_reads_143 ic_m1 ?_
      refine hJ.icmp_eq (pc := 144) 273 dX12_reads_144 (by decide) (fun h25 => ?_) (fun h25 => ?_)
      · rw [if_pos h25] at hF
        cases hF
        exact hR.v (pc := 273) dX12_reads_273
      · rw [if_neg h25] at hF
        refine hJ.aload_n (pc := 147) dX12_reads_147 rfl ?_
        refine hJ.iconst (pc := 148) 2 dX12_reads_148 ic_2 ?_
        refine hJ.pIM (pc := 149) dX12_reads_149 fp_X12_163 ?_
        refine hJ.goto (pc := 152) 273 dX12_reads_152 (by decide) ?_
        cases hF
        exact hR.v (pc := 273) dX12_reads_273
    · rw [if_neg h22] at hF
      refine hJ.aload_n (pc := 110) dX12_reads_110 rfl ?_
      refine hJ.aload_n (pc := 111) dX12_reads_111 rfl ?_
      refine hJ.gM (pc := 112) dX12_reads_112 fi_X12_153 ?_
      refine hJ.iconst (pc := 115) 1 dX12_reads_115 ic_1 ?_
      refine hJ.iadd (pc := 116) dX12_reads_116 ?_
      refine hJ.pIM (pc := 117) dX12_reads_117 fp_X12_153 ?_
      refine hJ.goto (pc := 120) 95 dX12_reads_120 (by decide) ?_
      exact ih (up S 12 0 22 ((S 12 0 22) + 1)) hF
set_option maxRecDepth 100000 in
set_option maxHeartbeats 4000000 in
theorem wX12_reads_0 {J : Nat → Lv → List AV → Obs → Lay → Nat → Nat → Mem → Mem → Prop} (hJ : Cl RX12 cX12_reads 2 2 44 0 0 none false J) {Sc S' : Mem} (hR : Rk cX12_reads none none wl0 L0 0 0 Sc S' J) : ∀ (n : Nat) (S : Mem), fX12_reads_0 n S = some (S') → J 0 [some (vr 12 0), none] [] wl0 L0 0 0 Sc S := by
  intro n
  induction n with
  | zero =>
    intro  S hF
    rw [fX12_reads_0] at hF
    cases hF
  | succ n ih =>
    intro  S hF
    rw [fX12_reads_0] at hF
    refine hJ.aload_n (pc := 0) dX12_reads_0 rfl ?_
    refine hJ.aload_n (pc := 1) dX12_reads_1 rfl ?_
    refine hJ.gM (pc := 2) dX12_reads_2 fi_X12_153 ?_
    obtain ⟨r2, h1, hF⟩ := bn_some hF
    refine hJ.cV (pc := 5) [vi (S 12 0 22)] [] [vi r2] dX12_reads_5 lk_X12_156 (ctX12_raw (S 12 0 22) _ _ _ h1) rfl rfl rfl rfl ?_
    refine hJ.bipush (pc := 8) 32 dX12_reads_8 bc_32 ?_
    refine hJ.icmp_eq (pc := 10) 26 dX12_reads_10 (by decide) (fun h3 => ?_) (fun h3 => ?_)
    · rw [if_pos h3] at hF
      refine hJ.aload_n (pc := 26) dX12_reads_26 rfl ?_
      refine hJ.aload_n (pc := 27) dX12_reads_27 rfl ?_
      refine hJ.gM (pc := 28) dX12_reads_28 fi_X12_153 ?_
      refine hJ.iconst (pc := 31) 1 dX12_reads_31 ic_1 ?_
      refine hJ.iadd (pc := 32) dX12_reads_32 ?_
      refine hJ.pIM (pc := 33) dX12_reads_33 fp_X12_153 ?_
      refine hJ.goto (pc := 36) 0 dX12_reads_36 (by decide) ?_
      exact ih (up S 12 0 22 ((S 12 0 22) + 1)) hF
    · rw [if_neg h3] at hF
      refine hJ.aload_n (pc := 13) dX12_reads_13 rfl ?_
      refine hJ.aload_n (pc := 14) dX12_reads_14 rfl ?_
      refine hJ.gM (pc := 15) dX12_reads_15 fi_X12_153 ?_
      obtain ⟨r5, h4, hF⟩ := bn_some hF
      refine hJ.cV (pc := 18) [vi (S 12 0 22)] [] [vi r5] dX12_reads_18 lk_X12_156 (ctX12_raw (S 12 0 22) _ _ _ h4) rfl rfl rfl rfl ?_
      refine hJ.bipush (pc := 21) 10 dX12_reads_21 bc_10 ?_
      refine hJ.icmp_ne (pc := 23) 39 dX12_reads_23 (by decide) (fun h6 => ?_) (fun h6 => ?_)
      · rw [if_neg h6] at hF
        refine hJ.aload_n (pc := 39) dX12_reads_39 rfl ?_
        refine hJ.aload_n (pc := 40) dX12_reads_40 rfl ?_
        refine hJ.gM (pc := 41) dX12_reads_41 fi_X12_153 ?_
        refine hJ.pIM (pc := 44) dX12_reads_44 fp_X12_160 ?_
        refine hJ.aload_n (pc := 47) dX12_reads_47 rfl ?_
        refine hJ.iconst (pc := 48) 1 dX12_reads_48 ic_1 ?_
        refine hJ.pIM (pc := 49) dX12_reads_49 fp_X12_163 ?_
        refine hJ.aload_n (pc := 52) dX12_reads_52 rfl ?_
        refine hJ.aload_n (pc := 53) dX12_reads_53 rfl ?_
        refine hJ.gM (pc := 54) dX12_reads_54 fi_X12_153 ?_
        obtain ⟨r8, h7, hF⟩ := bn_some hF
        refine hJ.cV (pc := 57) [vi ((up (up S 12 0 23 (S 12 0 22)) 12 0 24 1) 12 0 22)] [] [vi r8] dX12_reads_57 lk_X12_156 (ctX12_raw ((up (up S 12 0 23 (S 12 0 22)) 12 0 24 1) 12 0 22) _ _ _ h7) rfl rfl rfl rfl ?_
        refine hJ.istore_n (pc := 60) [some (vr 12 0), some (vi r8)] dX12_reads_60 (by decide) rfl ?_
        refine hJ.iload_n (pc := 61) dX12_reads_61 rfl ?_
        refine hJ.iconst (pc := 62) (-1) dX12_reads_62 ic_m1 ?_
        refine hJ.icmp_ne (pc := 63) 72 dX12_reads_63 (by decide) (fun h9 => ?_) (fun h9 => ?_)
        · rw [if_neg h9] at hF
          refine hJ.aload_n (pc := 72) dX12_reads_72 rfl ?_
          refine hJ.aload_n (pc := 73) dX12_reads_73 rfl ?_
          refine hJ.gM (pc := 74) dX12_reads_74 fi_X12_153 ?_
          refine hJ.iconst (pc := 77) 1 dX12_reads_77 ic_1 ?_
          refine hJ.iadd (pc := 78) dX12_reads_78 ?_
          refine hJ.pIM (pc := 79) dX12_reads_79 fp_X12_153 ?_
          refine hJ.aload_n (pc := 82) dX12_reads_82 rfl ?_
          refine hJ.iload_n (pc := 83) dX12_reads_83 rfl ?_
          refine hJ.pIM (pc := 84) dX12_reads_84 fp_X12_166 ?_
          refine hJ.aload_n (pc := 87) dX12_reads_87 rfl ?_
          refine hJ.iload_n (pc := 88) dX12_reads_88 rfl ?_
          refine hJ.cV (pc := 89) [vi r8] [] [vi (fX12_isLetter r8)] dX12_reads_89 lk_X12_169 (ctX12_isLetter r8 _ _ (fX12_isLetter r8) rfl) rfl rfl rfl rfl ?_
          refine hJ.if_eq (pc := 92) 155 dX12_reads_92 (by decide) (fun h10 => ?_) (fun h10 => ?_)
          · rw [if_pos h10] at hF
            refine hJ.aload_n (pc := 155) dX12_reads_155 rfl ?_
            refine hJ.iload_n (pc := 156) dX12_reads_156 rfl ?_
            refine hJ.cV (pc := 157) [vi r8] [] [vi (fX12_isDigit r8)] dX12_reads_157 lk_X12_176 (ctX12_isDigit r8 _ _ (fX12_isDigit r8) rfl) rfl rfl rfl rfl ?_
            refine hJ.if_eq (pc := 160) 260 dX12_reads_160 (by decide) (fun h11 => ?_) (fun h11 => ?_)
            · rw [if_pos h11] at hF
              refine hJ.aload_n (pc := 260) dX12_reads_260 rfl ?_
              refine hJ.iload_n (pc := 261) dX12_reads_261 rfl ?_
              refine hJ.cV (pc := 262) [vi r8] [] [vi (fX12_isMarkSign r8)] dX12_reads_262 lk_X12_179 (ctX12_isMarkSign r8 _ _ (fX12_isMarkSign r8) rfl) rfl rfl rfl rfl ?_
              refine hJ.if_eq (pc := 265) 273 dX12_reads_265 (by decide) (fun h12 => ?_) (fun h12 => ?_)
              · rw [if_pos h12] at hF
                cases hF
                exact hR.v (pc := 273) dX12_reads_273
              · rw [if_neg h12] at hF
                refine hJ.aload_n (pc := 268) dX12_reads_268 rfl ?_
                refine hJ.iconst (pc := 269) 4 dX12_reads_269 ic_4 ?_
                refine hJ.pIM (pc := 270) dX12_reads_270 fp_X12_163 ?_
                cases hF
                exact hR.v (pc := 273) dX12_reads_273
            · rw [if_neg h11] at hF
              refine hJ.aload_n (pc := 163) dX12_reads_163 rfl ?_
              refine hJ.iload_n (pc := 164) dX12_reads_164 rfl ?_
              refine hJ.bipush (pc := 165) 48 dX12_reads_165 bc_48 ?_
              refine hJ.isub (pc := 167) dX12_reads_167 ?_
              refine hJ.pIM (pc := 168) dX12_reads_168 fp_X12_166 ?_
              refine hJ.weak [some (vr 12 0), none] ⟨rfl, trivial⟩ ?_
              exact wX12_reads_171 hJ hR 5000 (up (up (up (up (up S 12 0 23 (S 12 0 22)) 12 0 24 1) 12 0 22 (((up (up S 12 0 23 (S 12 0 22)) 12 0 24 1) 12 0 22) + 1)) 12 0 25 r8) 12 0 25 (r8 - 48)) hF
          · rw [if_neg h10] at hF
            refine hJ.weak [some (vr 12 0), none] ⟨rfl, trivial⟩ ?_
            exact wX12_reads_95 hJ hR 5000 (up (up (up (up S 12 0 23 (S 12 0 22)) 12 0 24 1) 12 0 22 (((up (up S 12 0 23 (S 12 0 22)) 12 0 24 1) 12 0 22) + 1)) 12 0 25 r8) hF
        · rw [if_pos h9] at hF
          refine hJ.aload_n (pc := 66) dX12_reads_66 rfl ?_
          refine hJ.iconst (pc := 67) 0 dX12_reads_67 ic_0 ?_
          refine hJ.pIM (pc := 68) dX12_reads_68 fp_X12_163 ?_
          cases hF
          exact hR.v (pc := 71) dX12_reads_71
      · rw [if_pos h6] at hF
        refine hJ.aload_n (pc := 26) dX12_reads_26 rfl ?_
        refine hJ.aload_n (pc := 27) dX12_reads_27 rfl ?_
        refine hJ.gM (pc := 28) dX12_reads_28 fi_X12_153 ?_
        refine hJ.iconst (pc := 31) 1 dX12_reads_31 ic_1 ?_
        refine hJ.iadd (pc := 32) dX12_reads_32 ?_
        refine hJ.pIM (pc := 33) dX12_reads_33 fp_X12_153 ?_
        refine hJ.goto (pc := 36) 0 dX12_reads_36 (by decide) ?_
        exact ih (up S 12 0 22 ((S 12 0 22) + 1)) hF
set_option maxRecDepth 100000 in
set_option maxHeartbeats 4000000 in
theorem ctX12_reads (Sc S : Mem) (S' : Mem) (hF : fX12_reads S = some (S')) : Ct yX12_reads cX12_reads 2 none 2 44 0 0 [vr 12 0] wl0 L0 Sc S none wl0 L0 Sc S' := by
  refine Ct.of RX12 false (by decide) rfl (fun h => by cases h) (Nat.le_of_ble_eq_true rfl) (fun J hJ hR => ?_)
  rw [fX12_reads] at hF
  show J 0 [some (vr 12 0), none] [] wl0 L0 0 0 Sc S
  exact wX12_reads_0 hJ hR 5000 S hF
set_option maxRecDepth 100000 in
set_option maxHeartbeats 4000000 in
theorem ctX12_isWord (p0 : Int32) (Sc S : Mem) (r : Int32) (hF : fX12_isWord p0 S = r) : Ct yX12_isWord cX12_isWord 2 (some .boolean) 0 0 0 0 [vr 12 0, vi p0] wl0 L0 Sc S (some (vi r)) wl0 L0 Sc S := by
  refine Ct.of RX12 false (by decide) rfl (fun h => by cases h) (Nat.le_of_ble_eq_true rfl) (fun J hJ hR => ?_)
  rw [fX12_isWord] at hF
  show J 0 [some (vr 12 0), some (vi p0)] [] wl0 L0 0 0 Sc S
  refine hJ.aload_n (pc := 0) dX12_isWord_0 rfl ?_
  refine hJ.gM (pc := 1) dX12_isWord_1 fi_X12_163 ?_
  refine hJ.iconst (pc := 4) 2 dX12_isWord_4 ic_2 ?_
  refine hJ.icmp_ne (pc := 5) 20 dX12_isWord_5 (by decide) (fun h1 => ?_) (fun h1 => ?_)
  · rw [if_neg h1] at hF
    refine hJ.iconst (pc := 20) 0 dX12_isWord_20 ic_0 ?_
    cases hF
    exact hR.n (pc := 21) (by decide) dX12_isWord_21
  · rw [if_pos h1] at hF
    refine hJ.aload_n (pc := 8) dX12_isWord_8 rfl ?_
    refine hJ.gM (pc := 9) dX12_isWord_9 fi_X12_166 ?_
    refine hJ.iload_n (pc := 12) dX12_isWord_12 rfl ?_
    refine hJ.icmp_ne (pc := 13) 20 dX12_isWord_13 (by decide) (fun h2 => ?_) (fun h2 => ?_)
    · rw [if_neg h2] at hF
      refine hJ.iconst (pc := 20) 0 dX12_isWord_20 ic_0 ?_
      cases hF
      exact hR.n (pc := 21) (by decide) dX12_isWord_21
    · rw [if_pos h2] at hF
      refine hJ.iconst (pc := 16) 1 dX12_isWord_16 ic_1 ?_
      refine hJ.goto (pc := 17) 21 dX12_isWord_17 (by decide) ?_
      cases hF
      exact hR.n (pc := 21) (by decide) dX12_isWord_21
set_option maxRecDepth 100000 in
set_option maxHeartbeats 4000000 in
theorem ctX12_errs (p0 : Int32) (Sc S : Mem) (r : Int32) (S' : Mem) (hF : fX12_errs p0 S = (r, S')) : Ct yX12_errs cX12_errs 2 (some .int) 0 0 0 0 [vr 12 0, vi p0] wl0 L0 Sc S (some (vi r)) wl0 L0 Sc S' := by
  refine Ct.of RX12 false (by decide) rfl (fun h => by cases h) (Nat.le_of_ble_eq_true rfl) (fun J hJ hR => ?_)
  rw [fX12_errs] at hF
  show J 0 [some (vr 12 0), some (vi p0)] [] wl0 L0 0 0 Sc S
  refine hJ.aload_n (pc := 0) dX12_errs_0 rfl ?_
  refine hJ.iload_n (pc := 1) dX12_errs_1 rfl ?_
  refine hJ.pIM (pc := 2) dX12_errs_2 fp_X12_182 ?_
  refine hJ.aload_n (pc := 5) dX12_errs_5 rfl ?_
  refine hJ.aload_n (pc := 6) dX12_errs_6 rfl ?_
  refine hJ.gM (pc := 7) dX12_errs_7 fi_X12_160 ?_
  refine hJ.pIM (pc := 10) dX12_errs_10 fp_X12_185 ?_
  refine hJ.iconst (pc := 13) (-1) dX12_errs_13 ic_m1 ?_
  cases hF
  exact hR.i (pc := 14) dX12_errs_14
set_option maxRecDepth 100000 in
set_option maxHeartbeats 4000000 in
theorem ctX12_emits (p0 : Int32) (p1 : Int32) (Sc S : Mem) (S' : Mem) (hF : fX12_emits p0 p1 S = some (S')) : Ct yX12_emits cX12_emits 3 none 0 0 0 0 [vr 12 0, vi p0, vi p1] wl0 L0 Sc S none wl0 L0 Sc S' := by
  refine Ct.of RX12 false (by decide) rfl (fun h => by cases h) (Nat.le_of_ble_eq_true rfl) (fun J hJ hR => ?_)
  rw [fX12_emits] at hF
  show J 0 [some (vr 12 0), some (vi p0), some (vi p1)] [] wl0 L0 0 0 Sc S
  refine hJ.aload_n (pc := 0) dX12_emits_0 rfl ?_
  refine hJ.gR (pc := 1) (k' := 78) (i' := 0) dX12_emits_1 fr_X12_64 rfl ?_
  refine hJ.sipush (pc := 4) 400 dX12_emits_4 sc_400 ?_
  refine hJ.aload_n (pc := 7) dX12_emits_7 rfl ?_
  refine hJ.gM (pc := 8) dX12_emits_8 fi_X12_188 ?_
  refine hJ.iadd (pc := 11) dX12_emits_11 ?_
  refine hJ.iload_n (pc := 12) dX12_emits_12 rfl ?_
  obtain ⟨j1, h2, hF⟩ := bn_some hF
  refine hJ.siastM (pc := 13) dX12_emits_13 al_78 h2 ?_
  refine hJ.aload_n (pc := 14) dX12_emits_14 rfl ?_
  refine hJ.gR (pc := 15) (k' := 79) (i' := 0) dX12_emits_15 fr_X12_67 rfl ?_
  refine hJ.sipush (pc := 18) 400 dX12_emits_18 sc_400 ?_
  refine hJ.aload_n (pc := 21) dX12_emits_21 rfl ?_
  refine hJ.gM (pc := 22) dX12_emits_22 fi_X12_188 ?_
  refine hJ.iadd (pc := 25) dX12_emits_25 ?_
  refine hJ.iload_n (pc := 26) dX12_emits_26 rfl ?_
  obtain ⟨j3, h4, hF⟩ := bn_some hF
  refine hJ.siastM (pc := 27) dX12_emits_27 al_79 h4 ?_
  refine hJ.aload_n (pc := 28) dX12_emits_28 rfl ?_
  refine hJ.aload_n (pc := 29) dX12_emits_29 rfl ?_
  refine hJ.gM (pc := 30) dX12_emits_30 fi_X12_188 ?_
  refine hJ.iconst (pc := 33) 1 dX12_emits_33 ic_1 ?_
  refine hJ.iadd (pc := 34) dX12_emits_34 ?_
  refine hJ.pIM (pc := 35) dX12_emits_35 fp_X12_188 ?_
  cases hF
  exact hR.v (pc := 38) dX12_emits_38
set_option maxRecDepth 100000 in
set_option maxHeartbeats 4000000 in
theorem wX12_readUnit_50 {J : Nat → Lv → List AV → Obs → Lay → Nat → Nat → Mem → Mem → Prop} (hJ : Cl RX12 cX12_readUnit 2 3 65 0 0 none false J) {r : Int32} {Sc S' : Mem} (hR : Rk cX12_readUnit (some .int) (some (vi r)) wl0 L0 0 0 Sc S' J) (x1 : Int32) (y0 : Int32) (S : Mem) (hF : fX12_readUnit_50 x1 y0 S = some (r, S')) : J 50 [some (vr 12 0), some (vi x1)] [vi y0, vr 12 0] wl0 L0 0 0 Sc S := by
  rw [fX12_readUnit_50] at hF
  refine hJ.iload_n (pc := 50) dX12_readUnit_50 rfl ?_
  refine hJ.if_eq (pc := 51) 63 dX12_readUnit_51 (by decide) (fun h6 => ?_) (fun h6 => ?_)
  · rw [if_pos h6] at hF
    refine hJ.aload_n (pc := 63) dX12_readUnit_63 rfl ?_
    refine hJ.gM (pc := 64) dX12_readUnit_64 fi_X12_166 ?_
    obtain ⟨S8, h7, hF⟩ := bn_some hF
    refine hJ.cV (pc := 67) [vi y0, vi (S 12 0 25)] [] [] dX12_readUnit_67 lk_X12_194 (ctX12_emits y0 (S 12 0 25) _ _ _ h7) rfl rfl rfl rfl ?_
    refine hJ.aload_n (pc := 70) dX12_readUnit_70 rfl ?_
    obtain ⟨S10, h9, hF⟩ := bn_some hF
    refine hJ.cV (pc := 71) [] [] [] dX12_readUnit_71 lk_X12_198 (ctX12_reads _ _ _ h9) rfl rfl rfl rfl ?_
    refine hJ.iconst (pc := 74) 0 dX12_readUnit_74 ic_0 ?_
    cases hF
    exact hR.i (pc := 75) dX12_readUnit_75
  · rw [if_neg h6] at hF
    refine hJ.aload_n (pc := 54) dX12_readUnit_54 rfl ?_
    refine hJ.gM (pc := 55) dX12_readUnit_55 fi_X12_166 ?_
    refine hJ.iconst (pc := 58) 5 dX12_readUnit_58 ic_5 ?_
    refine hJ.isub (pc := 59) dX12_readUnit_59 ?_
    refine hJ.goto (pc := 60) 67 dX12_readUnit_60 (by decide) ?_
    obtain ⟨S12, h11, hF⟩ := bn_some hF
    refine hJ.cV (pc := 67) [vi y0, vi ((S 12 0 25) - 5)] [] [] dX12_readUnit_67 lk_X12_194 (ctX12_emits y0 ((S 12 0 25) - 5) _ _ _ h11) rfl rfl rfl rfl ?_
    refine hJ.aload_n (pc := 70) dX12_readUnit_70 rfl ?_
    obtain ⟨S14, h13, hF⟩ := bn_some hF
    refine hJ.cV (pc := 71) [] [] [] dX12_readUnit_71 lk_X12_198 (ctX12_reads _ _ _ h13) rfl rfl rfl rfl ?_
    refine hJ.iconst (pc := 74) 0 dX12_readUnit_74 ic_0 ?_
    cases hF
    exact hR.i (pc := 75) dX12_readUnit_75
set_option maxRecDepth 100000 in
set_option maxHeartbeats 4000000 in
theorem wX12_readUnit_40 {J : Nat → Lv → List AV → Obs → Lay → Nat → Nat → Mem → Mem → Prop} (hJ : Cl RX12 cX12_readUnit 2 3 65 0 0 none false J) {r : Int32} {Sc S' : Mem} (hR : Rk cX12_readUnit (some .int) (some (vi r)) wl0 L0 0 0 Sc S' J) (x1 : Int32) (S : Mem) (hF : fX12_readUnit_40 x1 S = some (r, S')) : J 40 [some (vr 12 0), some (vi x1)] [] wl0 L0 0 0 Sc S := by
  rw [fX12_readUnit_40] at hF
  refine hJ.aload_n (pc := 40) dX12_readUnit_40 rfl ?_
  refine hJ.iload_n (pc := 41) dX12_readUnit_41 rfl ?_
  refine hJ.if_eq (pc := 42) 49 dX12_readUnit_42 (by decide) (fun h5 => ?_) (fun h5 => ?_)
  · rw [if_pos h5] at hF
    refine hJ.iconst (pc := 49) 0 dX12_readUnit_49 ic_0 ?_
    exact wX12_readUnit_50 hJ hR x1 0 S hF
  · rw [if_neg h5] at hF
    refine hJ.iconst (pc := 45) 1 dX12_readUnit_45 ic_1 ?_
    refine hJ.goto (pc := 46) 50 dX12_readUnit_46 (by decide) ?_
    exact wX12_readUnit_50 hJ hR x1 1 S hF
set_option maxRecDepth 100000 in
set_option maxHeartbeats 4000000 in
theorem wX12_readUnit_21 {J : Nat → Lv → List AV → Obs → Lay → Nat → Nat → Mem → Mem → Prop} (hJ : Cl RX12 cX12_readUnit 2 3 65 0 0 none false J) {r : Int32} {Sc S' : Mem} (hR : Rk cX12_readUnit (some .int) (some (vi r)) wl0 L0 0 0 Sc S' J) (y0 : Int32) (S : Mem) (hF : fX12_readUnit_21 y0 S = some (r, S')) : J 21 [some (vr 12 0), none] [vi y0] wl0 L0 0 0 Sc S := by
  rw [fX12_readUnit_21] at hF
  refine hJ.istore_n (pc := 21) [some (vr 12 0), some (vi y0)] dX12_readUnit_21 (by decide) rfl ?_
  refine hJ.iload_n (pc := 22) dX12_readUnit_22 rfl ?_
  refine hJ.if_ne (pc := 23) 40 dX12_readUnit_23 (by decide) (fun h3 => ?_) (fun h3 => ?_)
  · rw [if_neg h3] at hF
    exact wX12_readUnit_40 hJ hR y0 S hF
  · rw [if_pos h3] at hF
    refine hJ.aload_n (pc := 26) dX12_readUnit_26 rfl ?_
    refine hJ.gM (pc := 27) dX12_readUnit_27 fi_X12_163 ?_
    refine hJ.iconst (pc := 30) 3 dX12_readUnit_30 ic_3 ?_
    refine hJ.icmp_eq (pc := 31) 40 dX12_readUnit_31 (by decide) (fun h4 => ?_) (fun h4 => ?_)
    · rw [if_pos h4] at hF
      exact wX12_readUnit_40 hJ hR y0 S hF
    · rw [if_neg h4] at hF
      refine hJ.aload_n (pc := 34) dX12_readUnit_34 rfl ?_
      refine hJ.iconst (pc := 35) 1 dX12_readUnit_35 ic_1 ?_
      refine hJ.cV (pc := 36) [vi 1] [] [vi (fX12_errs 1 S).1] dX12_readUnit_36 lk_X12_191 (ctX12_errs 1 _ _ (fX12_errs 1 S).1 (fX12_errs 1 S).2 rfl) rfl rfl rfl rfl ?_
      cases hF
      exact hR.i (pc := 39) dX12_readUnit_39
set_option maxRecDepth 100000 in
set_option maxHeartbeats 4000000 in
theorem wX12_readUnit_20 {J : Nat → Lv → List AV → Obs → Lay → Nat → Nat → Mem → Mem → Prop} (hJ : Cl RX12 cX12_readUnit 2 3 65 0 0 none false J) {r : Int32} {Sc S' : Mem} (hR : Rk cX12_readUnit (some .int) (some (vi r)) wl0 L0 0 0 Sc S' J) (S : Mem) (hF : fX12_readUnit_20 S = some (r, S')) : J 20 [some (vr 12 0), none] [] wl0 L0 0 0 Sc S := by
  rw [fX12_readUnit_20] at hF
  refine hJ.iconst (pc := 20) 0 dX12_readUnit_20 ic_0 ?_
  exact wX12_readUnit_21 hJ hR 0 S hF
set_option maxRecDepth 100000 in
set_option maxHeartbeats 4000000 in
theorem ctX12_readUnit (Sc S : Mem) (r : Int32) (S' : Mem) (hF : fX12_readUnit S = some (r, S')) : Ct yX12_readUnit cX12_readUnit 2 (some .int) 3 65 0 0 [vr 12 0] wl0 L0 Sc S (some (vi r)) wl0 L0 Sc S' := by
  refine Ct.of RX12 false (by decide) rfl (fun h => by cases h) (Nat.le_of_ble_eq_true rfl) (fun J hJ hR => ?_)
  rw [fX12_readUnit] at hF
  show J 0 [some (vr 12 0), none] [] wl0 L0 0 0 Sc S
  refine hJ.aload_n (pc := 0) dX12_readUnit_0 rfl ?_
  refine hJ.gM (pc := 1) dX12_readUnit_1 fi_X12_163 ?_
  refine hJ.iconst (pc := 4) 2 dX12_readUnit_4 ic_2 ?_
  refine hJ.icmp_ne (pc := 5) 20 dX12_readUnit_5 (by decide) (fun h1 => ?_) (fun h1 => ?_)
  · rw [if_neg h1] at hF
    exact wX12_readUnit_20 hJ hR S hF
  · rw [if_pos h1] at hF
    refine hJ.aload_n (pc := 8) dX12_readUnit_8 rfl ?_
    refine hJ.gM (pc := 9) dX12_readUnit_9 fi_X12_166 ?_
    refine hJ.iconst (pc := 12) 5 dX12_readUnit_12 ic_5 ?_
    refine hJ.icmp_lt (pc := 13) 20 dX12_readUnit_13 (by decide) (fun h2 => ?_) (fun h2 => ?_)
    · rw [if_pos h2] at hF
      exact wX12_readUnit_20 hJ hR S hF
    · rw [if_neg h2] at hF
      refine hJ.iconst (pc := 16) 1 dX12_readUnit_16 ic_1 ?_
      refine hJ.goto (pc := 17) 21 dX12_readUnit_17 (by decide) ?_
      exact wX12_readUnit_21 hJ hR 1 S hF
set_option maxRecDepth 100000 in
set_option maxHeartbeats 4000000 in
theorem ctX12_isSign (p0 : Int32) (Sc S : Mem) (r : Int32) (hF : fX12_isSign p0 S = r) : Ct yX12_isSign cX12_isSign 2 (some .boolean) 0 0 0 0 [vr 12 0, vi p0] wl0 L0 Sc S (some (vi r)) wl0 L0 Sc S := by
  refine Ct.of RX12 false (by decide) rfl (fun h => by cases h) (Nat.le_of_ble_eq_true rfl) (fun J hJ hR => ?_)
  rw [fX12_isSign] at hF
  show J 0 [some (vr 12 0), some (vi p0)] [] wl0 L0 0 0 Sc S
  refine hJ.aload_n (pc := 0) dX12_isSign_0 rfl ?_
  refine hJ.gM (pc := 1) dX12_isSign_1 fi_X12_163 ?_
  refine hJ.iconst (pc := 4) 4 dX12_isSign_4 ic_4 ?_
  refine hJ.icmp_ne (pc := 5) 20 dX12_isSign_5 (by decide) (fun h1 => ?_) (fun h1 => ?_)
  · rw [if_neg h1] at hF
    refine hJ.iconst (pc := 20) 0 dX12_isSign_20 ic_0 ?_
    cases hF
    exact hR.n (pc := 21) (by decide) dX12_isSign_21
  · rw [if_pos h1] at hF
    refine hJ.aload_n (pc := 8) dX12_isSign_8 rfl ?_
    refine hJ.gM (pc := 9) dX12_isSign_9 fi_X12_166 ?_
    refine hJ.iload_n (pc := 12) dX12_isSign_12 rfl ?_
    refine hJ.icmp_ne (pc := 13) 20 dX12_isSign_13 (by decide) (fun h2 => ?_) (fun h2 => ?_)
    · rw [if_neg h2] at hF
      refine hJ.iconst (pc := 20) 0 dX12_isSign_20 ic_0 ?_
      cases hF
      exact hR.n (pc := 21) (by decide) dX12_isSign_21
    · rw [if_pos h2] at hF
      refine hJ.iconst (pc := 16) 1 dX12_isSign_16 ic_1 ?_
      refine hJ.goto (pc := 17) 21 dX12_isSign_17 (by decide) ?_
      cases hF
      exact hR.n (pc := 21) (by decide) dX12_isSign_21
set_option maxRecDepth 100000 in
set_option maxHeartbeats 4000000 in
theorem wX12_readProduct_10 {J : Nat → Lv → List AV → Obs → Lay → Nat → Nat → Mem → Mem → Prop} (hJ : Cl RX12 cX12_readProduct 2 4 86 0 0 none false J) {r : Int32} {Sc S' : Mem} (hR : Rk cX12_readProduct (some .int) (some (vi r)) wl0 L0 0 0 Sc S' J) : ∀ (n : Nat) (S : Mem), fX12_readProduct_10 n S = some (r, S') → J 10 [some (vr 12 0), none] [] wl0 L0 0 0 Sc S := by
  intro n
  induction n with
  | zero =>
    intro  S hF
    rw [fX12_readProduct_10] at hF
    cases hF
  | succ n ih =>
    intro  S hF
    rw [fX12_readProduct_10] at hF
    refine hJ.aload_n (pc := 10) dX12_readProduct_10 rfl ?_
    refine hJ.bipush (pc := 11) 42 dX12_readProduct_11 bc_42 ?_
    refine hJ.cV (pc := 13) [vi 42] [] [vi (fX12_isSign 42 S)] dX12_readProduct_13 lk_X12_205 (ctX12_isSign 42 _ _ (fX12_isSign 42 S) rfl) rfl rfl rfl rfl ?_
    refine hJ.if_ne (pc := 16) 28 dX12_readProduct_16 (by decide) (fun h5 => ?_) (fun h5 => ?_)
    · rw [if_neg h5] at hF
      refine hJ.aload_n (pc := 28) dX12_readProduct_28 rfl ?_
      refine hJ.bipush (pc := 29) 42 dX12_readProduct_29 bc_42 ?_
      refine hJ.cV (pc := 31) [vi 42] [] [vi (fX12_isSign 42 S)] dX12_readProduct_31 lk_X12_205 (ctX12_isSign 42 _ _ (fX12_isSign 42 S) rfl) rfl rfl rfl rfl ?_
      refine hJ.istore_n (pc := 34) [some (vr 12 0), some (vi (fX12_isSign 42 S))] dX12_readProduct_34 (by decide) rfl ?_
      refine hJ.aload_n (pc := 35) dX12_readProduct_35 rfl ?_
      obtain ⟨S18, h17, hF⟩ := bn_some hF
      refine hJ.cV (pc := 36) [] [] [] dX12_readProduct_36 lk_X12_198 (ctX12_reads _ _ _ h17) rfl rfl rfl rfl ?_
      refine hJ.iload_n (pc := 39) dX12_readProduct_39 rfl ?_
      refine hJ.if_ne (pc := 40) 57 dX12_readProduct_40 (by decide) (fun _ => ?_) (fun h0 => absurd h0 h5)
      refine hJ.iload_n (pc := 57) dX12_readProduct_57 rfl ?_
      refine hJ.if_ne (pc := 58) 74 dX12_readProduct_58 (by decide) (fun _ => ?_) (fun h0 => absurd h0 h5)
      refine hJ.aload_n (pc := 74) dX12_readProduct_74 rfl ?_
      obtain ⟨r21, S20, h19, hF⟩ := bd_some hF
      refine hJ.cV (pc := 75) [] [] [vi r21] dX12_readProduct_75 lk_X12_201 (ctX12_readUnit _ _ _ _ h19) rfl rfl rfl rfl ?_
      refine hJ.iconst (pc := 78) (-1) dX12_readProduct_78 ic_m1 ?_
      refine hJ.icmp_ne (pc := 79) 84 dX12_readProduct_79 (by decide) (fun h22 => ?_) (fun h22 => ?_)
      · rw [if_neg h22] at hF
        refine hJ.aload_n (pc := 84) dX12_readProduct_84 rfl ?_
        refine hJ.iload_n (pc := 85) dX12_readProduct_85 rfl ?_
        refine hJ.if_eq (pc := 86) 93 dX12_readProduct_86 (by decide) (fun h0 => absurd h0 h5) (fun _ => ?_)
        refine hJ.iconst (pc := 89) 4 dX12_readProduct_89 ic_4 ?_
        refine hJ.goto (pc := 90) 94 dX12_readProduct_90 (by decide) ?_
        refine hJ.iconst (pc := 94) 0 dX12_readProduct_94 ic_0 ?_
        obtain ⟨S24, h23, hF⟩ := bn_some hF
        refine hJ.cV (pc := 95) [vi 4, vi 0] [] [] dX12_readProduct_95 lk_X12_194 (ctX12_emits 4 0 _ _ _ h23) rfl rfl rfl rfl ?_
        refine hJ.goto (pc := 98) 10 dX12_readProduct_98 (by decide) ?_
        refine hJ.weak [some (vr 12 0), none] ⟨rfl, trivial⟩ ?_
        exact ih S24 hF
      · rw [if_pos h22] at hF
        refine hJ.iconst (pc := 82) (-1) dX12_readProduct_82 ic_m1 ?_
        cases hF
        exact hR.i (pc := 83) dX12_readProduct_83
    · rw [if_pos h5] at hF
      refine hJ.aload_n (pc := 19) dX12_readProduct_19 rfl ?_
      refine hJ.bipush (pc := 20) 47 dX12_readProduct_20 bc_47 ?_
      refine hJ.cV (pc := 22) [vi 47] [] [vi (fX12_isSign 47 S)] dX12_readProduct_22 lk_X12_205 (ctX12_isSign 47 _ _ (fX12_isSign 47 S) rfl) rfl rfl rfl rfl ?_
      refine hJ.if_eq (pc := 25) 101 dX12_readProduct_25 (by decide) (fun h6 => ?_) (fun h6 => ?_)
      · rw [if_pos h6] at hF
        refine hJ.iconst (pc := 101) 0 dX12_readProduct_101 ic_0 ?_
        cases hF
        exact hR.i (pc := 102) dX12_readProduct_102
      · rw [if_neg h6] at hF
        refine hJ.aload_n (pc := 28) dX12_readProduct_28 rfl ?_
        refine hJ.bipush (pc := 29) 42 dX12_readProduct_29 bc_42 ?_
        refine hJ.cV (pc := 31) [vi 42] [] [vi (fX12_isSign 42 S)] dX12_readProduct_31 lk_X12_205 (ctX12_isSign 42 _ _ (fX12_isSign 42 S) rfl) rfl rfl rfl rfl ?_
        refine hJ.istore_n (pc := 34) [some (vr 12 0), some (vi (fX12_isSign 42 S))] dX12_readProduct_34 (by decide) rfl ?_
        refine hJ.aload_n (pc := 35) dX12_readProduct_35 rfl ?_
        obtain ⟨S8, h7, hF⟩ := bn_some hF
        refine hJ.cV (pc := 36) [] [] [] dX12_readProduct_36 lk_X12_198 (ctX12_reads _ _ _ h7) rfl rfl rfl rfl ?_
        refine hJ.iload_n (pc := 39) dX12_readProduct_39 rfl ?_
        refine hJ.if_ne (pc := 40) 57 dX12_readProduct_40 (by decide) (fun h0 => absurd h5 h0) (fun _ => ?_)
        refine hJ.aload_n (pc := 43) dX12_readProduct_43 rfl ?_
        refine hJ.gM (pc := 44) dX12_readProduct_44 fi_X12_163 ?_
        refine hJ.iconst (pc := 47) 3 dX12_readProduct_47 ic_3 ?_
        refine hJ.icmp_eq (pc := 48) 57 dX12_readProduct_48 (by decide) (fun h9 => ?_) (fun h9 => ?_)
        · rw [if_pos h9] at hF
          refine hJ.iload_n (pc := 57) dX12_readProduct_57 rfl ?_
          refine hJ.if_ne (pc := 58) 74 dX12_readProduct_58 (by decide) (fun h0 => absurd h5 h0) (fun _ => ?_)
          refine hJ.aload_n (pc := 61) dX12_readProduct_61 rfl ?_
          refine hJ.gM (pc := 62) dX12_readProduct_62 fi_X12_166 ?_
          refine hJ.if_ne (pc := 65) 74 dX12_readProduct_65 (by decide) (fun h10 => ?_) (fun h10 => ?_)
          · rw [if_neg h10] at hF
            refine hJ.aload_n (pc := 74) dX12_readProduct_74 rfl ?_
            obtain ⟨r13, S12, h11, hF⟩ := bd_some hF
            refine hJ.cV (pc := 75) [] [] [vi r13] dX12_readProduct_75 lk_X12_201 (ctX12_readUnit _ _ _ _ h11) rfl rfl rfl rfl ?_
            refine hJ.iconst (pc := 78) (-1) dX12_readProduct_78 ic_m1 ?_
            refine hJ.icmp_ne (pc := 79) 84 dX12_readProduct_79 (by decide) (fun h14 => ?_) (fun h14 => ?_)
            · rw [if_neg h14] at hF
              refine hJ.aload_n (pc := 84) dX12_readProduct_84 rfl ?_
              refine hJ.iload_n (pc := 85) dX12_readProduct_85 rfl ?_
              refine hJ.if_eq (pc := 86) 93 dX12_readProduct_86 (by decide) (fun _ => ?_) (fun h0 => absurd h5 h0)
              refine hJ.iconst (pc := 93) 5 dX12_readProduct_93 ic_5 ?_
              refine hJ.iconst (pc := 94) 0 dX12_readProduct_94 ic_0 ?_
              obtain ⟨S16, h15, hF⟩ := bn_some hF
              refine hJ.cV (pc := 95) [vi 5, vi 0] [] [] dX12_readProduct_95 lk_X12_194 (ctX12_emits 5 0 _ _ _ h15) rfl rfl rfl rfl ?_
              refine hJ.goto (pc := 98) 10 dX12_readProduct_98 (by decide) ?_
              refine hJ.weak [some (vr 12 0), none] ⟨rfl, trivial⟩ ?_
              exact ih S16 hF
            · rw [if_pos h14] at hF
              refine hJ.iconst (pc := 82) (-1) dX12_readProduct_82 ic_m1 ?_
              cases hF
              exact hR.i (pc := 83) dX12_readProduct_83
          · rw [if_pos h10] at hF
            refine hJ.aload_n (pc := 68) dX12_readProduct_68 rfl ?_
            refine hJ.iconst (pc := 69) 2 dX12_readProduct_69 ic_2 ?_
            refine hJ.cV (pc := 70) [vi 2] [] [vi (fX12_errs 2 S8).1] dX12_readProduct_70 lk_X12_191 (ctX12_errs 2 _ _ (fX12_errs 2 S8).1 (fX12_errs 2 S8).2 rfl) rfl rfl rfl rfl ?_
            cases hF
            exact hR.i (pc := 73) dX12_readProduct_73
        · rw [if_neg h9] at hF
          refine hJ.aload_n (pc := 51) dX12_readProduct_51 rfl ?_
          refine hJ.iconst (pc := 52) 1 dX12_readProduct_52 ic_1 ?_
          refine hJ.cV (pc := 53) [vi 1] [] [vi (fX12_errs 1 S8).1] dX12_readProduct_53 lk_X12_191 (ctX12_errs 1 _ _ (fX12_errs 1 S8).1 (fX12_errs 1 S8).2 rfl) rfl rfl rfl rfl ?_
          cases hF
          exact hR.i (pc := 56) dX12_readProduct_56
set_option maxRecDepth 100000 in
set_option maxHeartbeats 4000000 in
theorem ctX12_readProduct (Sc S : Mem) (r : Int32) (S' : Mem) (hF : fX12_readProduct S = some (r, S')) : Ct yX12_readProduct cX12_readProduct 2 (some .int) 4 86 0 0 [vr 12 0] wl0 L0 Sc S (some (vi r)) wl0 L0 Sc S' := by
  refine Ct.of RX12 false (by decide) rfl (fun h => by cases h) (Nat.le_of_ble_eq_true rfl) (fun J hJ hR => ?_)
  rw [fX12_readProduct] at hF
  show J 0 [some (vr 12 0), none] [] wl0 L0 0 0 Sc S
  refine hJ.aload_n (pc := 0) dX12_readProduct_0 rfl ?_
  obtain ⟨r3, S2, h1, hF⟩ := bd_some hF
  refine hJ.cV (pc := 1) [] [] [vi r3] dX12_readProduct_1 lk_X12_201 (ctX12_readUnit _ _ _ _ h1) rfl rfl rfl rfl ?_
  refine hJ.iconst (pc := 4) (-1) dX12_readProduct_4 ic_m1 ?_
  refine hJ.icmp_ne (pc := 5) 10 dX12_readProduct_5 (by decide) (fun h4 => ?_) (fun h4 => ?_)
  · rw [if_neg h4] at hF
    exact wX12_readProduct_10 hJ hR 5000 S2 hF
  · rw [if_pos h4] at hF
    refine hJ.iconst (pc := 8) (-1) dX12_readProduct_8 ic_m1 ?_
    cases hF
    exact hR.i (pc := 9) dX12_readProduct_9
set_option maxRecDepth 100000 in
set_option maxHeartbeats 4000000 in
theorem wX12_readSum_10 {J : Nat → Lv → List AV → Obs → Lay → Nat → Nat → Mem → Mem → Prop} (hJ : Cl RX12 cX12_readSum 2 5 107 0 0 none false J) {r : Int32} {Sc S' : Mem} (hR : Rk cX12_readSum (some .int) (some (vi r)) wl0 L0 0 0 Sc S' J) : ∀ (n : Nat) (S : Mem), fX12_readSum_10 n S = some (r, S') → J 10 [some (vr 12 0), none] [] wl0 L0 0 0 Sc S := by
  intro n
  induction n with
  | zero =>
    intro  S hF
    rw [fX12_readSum_10] at hF
    cases hF
  | succ n ih =>
    intro  S hF
    rw [fX12_readSum_10] at hF
    refine hJ.aload_n (pc := 10) dX12_readSum_10 rfl ?_
    refine hJ.bipush (pc := 11) 43 dX12_readSum_11 bc_43 ?_
    refine hJ.cV (pc := 13) [vi 43] [] [vi (fX12_isSign 43 S)] dX12_readSum_13 lk_X12_205 (ctX12_isSign 43 _ _ (fX12_isSign 43 S) rfl) rfl rfl rfl rfl ?_
    refine hJ.if_ne (pc := 16) 28 dX12_readSum_16 (by decide) (fun h5 => ?_) (fun h5 => ?_)
    · rw [if_neg h5] at hF
      refine hJ.aload_n (pc := 28) dX12_readSum_28 rfl ?_
      refine hJ.gM (pc := 29) dX12_readSum_29 fi_X12_166 ?_
      refine hJ.bipush (pc := 32) 43 dX12_readSum_32 bc_43 ?_
      refine hJ.icmp_ne (pc := 34) 41 dX12_readSum_34 (by decide) (fun h24 => ?_) (fun h24 => ?_)
      · rw [if_neg h24] at hF
        refine hJ.iconst (pc := 41) 3 dX12_readSum_41 ic_3 ?_
        refine hJ.istore_n (pc := 42) [some (vr 12 0), some (vi 3)] dX12_readSum_42 (by decide) rfl ?_
        refine hJ.aload_n (pc := 43) dX12_readSum_43 rfl ?_
        obtain ⟨S34, h33, hF⟩ := bn_some hF
        refine hJ.cV (pc := 44) [] [] [] dX12_readSum_44 lk_X12_198 (ctX12_reads _ _ _ h33) rfl rfl rfl rfl ?_
        refine hJ.aload_n (pc := 47) dX12_readSum_47 rfl ?_
        obtain ⟨r37, S36, h35, hF⟩ := bd_some hF
        refine hJ.cV (pc := 48) [] [] [vi r37] dX12_readSum_48 lk_X12_208 (ctX12_readProduct _ _ _ _ h35) rfl rfl rfl rfl ?_
        refine hJ.iconst (pc := 51) (-1) dX12_readSum_51 ic_m1 ?_
        refine hJ.icmp_ne (pc := 52) 57 dX12_readSum_52 (by decide) (fun h38 => ?_) (fun h38 => ?_)
        · rw [if_neg h38] at hF
          refine hJ.aload_n (pc := 57) dX12_readSum_57 rfl ?_
          refine hJ.iload_n (pc := 58) dX12_readSum_58 rfl ?_
          refine hJ.iconst (pc := 59) 0 dX12_readSum_59 ic_0 ?_
          obtain ⟨S40, h39, hF⟩ := bn_some hF
          refine hJ.cV (pc := 60) [vi 3, vi 0] [] [] dX12_readSum_60 lk_X12_194 (ctX12_emits 3 0 _ _ _ h39) rfl rfl rfl rfl ?_
          refine hJ.goto (pc := 63) 10 dX12_readSum_63 (by decide) ?_
          refine hJ.weak [some (vr 12 0), none] ⟨rfl, trivial⟩ ?_
          exact ih S40 hF
        · rw [if_pos h38] at hF
          refine hJ.iconst (pc := 55) (-1) dX12_readSum_55 ic_m1 ?_
          cases hF
          exact hR.i (pc := 56) dX12_readSum_56
      · rw [if_pos h24] at hF
        refine hJ.iconst (pc := 37) 2 dX12_readSum_37 ic_2 ?_
        refine hJ.goto (pc := 38) 42 dX12_readSum_38 (by decide) ?_
        refine hJ.istore_n (pc := 42) [some (vr 12 0), some (vi 2)] dX12_readSum_42 (by decide) rfl ?_
        refine hJ.aload_n (pc := 43) dX12_readSum_43 rfl ?_
        obtain ⟨S26, h25, hF⟩ := bn_some hF
        refine hJ.cV (pc := 44) [] [] [] dX12_readSum_44 lk_X12_198 (ctX12_reads _ _ _ h25) rfl rfl rfl rfl ?_
        refine hJ.aload_n (pc := 47) dX12_readSum_47 rfl ?_
        obtain ⟨r29, S28, h27, hF⟩ := bd_some hF
        refine hJ.cV (pc := 48) [] [] [vi r29] dX12_readSum_48 lk_X12_208 (ctX12_readProduct _ _ _ _ h27) rfl rfl rfl rfl ?_
        refine hJ.iconst (pc := 51) (-1) dX12_readSum_51 ic_m1 ?_
        refine hJ.icmp_ne (pc := 52) 57 dX12_readSum_52 (by decide) (fun h30 => ?_) (fun h30 => ?_)
        · rw [if_neg h30] at hF
          refine hJ.aload_n (pc := 57) dX12_readSum_57 rfl ?_
          refine hJ.iload_n (pc := 58) dX12_readSum_58 rfl ?_
          refine hJ.iconst (pc := 59) 0 dX12_readSum_59 ic_0 ?_
          obtain ⟨S32, h31, hF⟩ := bn_some hF
          refine hJ.cV (pc := 60) [vi 2, vi 0] [] [] dX12_readSum_60 lk_X12_194 (ctX12_emits 2 0 _ _ _ h31) rfl rfl rfl rfl ?_
          refine hJ.goto (pc := 63) 10 dX12_readSum_63 (by decide) ?_
          refine hJ.weak [some (vr 12 0), none] ⟨rfl, trivial⟩ ?_
          exact ih S32 hF
        · rw [if_pos h30] at hF
          refine hJ.iconst (pc := 55) (-1) dX12_readSum_55 ic_m1 ?_
          cases hF
          exact hR.i (pc := 56) dX12_readSum_56
    · rw [if_pos h5] at hF
      refine hJ.aload_n (pc := 19) dX12_readSum_19 rfl ?_
      refine hJ.bipush (pc := 20) 45 dX12_readSum_20 bc_45 ?_
      refine hJ.cV (pc := 22) [vi 45] [] [vi (fX12_isSign 45 S)] dX12_readSum_22 lk_X12_205 (ctX12_isSign 45 _ _ (fX12_isSign 45 S) rfl) rfl rfl rfl rfl ?_
      refine hJ.if_eq (pc := 25) 66 dX12_readSum_25 (by decide) (fun h6 => ?_) (fun h6 => ?_)
      · rw [if_pos h6] at hF
        refine hJ.iconst (pc := 66) 0 dX12_readSum_66 ic_0 ?_
        cases hF
        exact hR.i (pc := 67) dX12_readSum_67
      · rw [if_neg h6] at hF
        refine hJ.aload_n (pc := 28) dX12_readSum_28 rfl ?_
        refine hJ.gM (pc := 29) dX12_readSum_29 fi_X12_166 ?_
        refine hJ.bipush (pc := 32) 43 dX12_readSum_32 bc_43 ?_
        refine hJ.icmp_ne (pc := 34) 41 dX12_readSum_34 (by decide) (fun h7 => ?_) (fun h7 => ?_)
        · rw [if_neg h7] at hF
          refine hJ.iconst (pc := 41) 3 dX12_readSum_41 ic_3 ?_
          refine hJ.istore_n (pc := 42) [some (vr 12 0), some (vi 3)] dX12_readSum_42 (by decide) rfl ?_
          refine hJ.aload_n (pc := 43) dX12_readSum_43 rfl ?_
          obtain ⟨S17, h16, hF⟩ := bn_some hF
          refine hJ.cV (pc := 44) [] [] [] dX12_readSum_44 lk_X12_198 (ctX12_reads _ _ _ h16) rfl rfl rfl rfl ?_
          refine hJ.aload_n (pc := 47) dX12_readSum_47 rfl ?_
          obtain ⟨r20, S19, h18, hF⟩ := bd_some hF
          refine hJ.cV (pc := 48) [] [] [vi r20] dX12_readSum_48 lk_X12_208 (ctX12_readProduct _ _ _ _ h18) rfl rfl rfl rfl ?_
          refine hJ.iconst (pc := 51) (-1) dX12_readSum_51 ic_m1 ?_
          refine hJ.icmp_ne (pc := 52) 57 dX12_readSum_52 (by decide) (fun h21 => ?_) (fun h21 => ?_)
          · rw [if_neg h21] at hF
            refine hJ.aload_n (pc := 57) dX12_readSum_57 rfl ?_
            refine hJ.iload_n (pc := 58) dX12_readSum_58 rfl ?_
            refine hJ.iconst (pc := 59) 0 dX12_readSum_59 ic_0 ?_
            obtain ⟨S23, h22, hF⟩ := bn_some hF
            refine hJ.cV (pc := 60) [vi 3, vi 0] [] [] dX12_readSum_60 lk_X12_194 (ctX12_emits 3 0 _ _ _ h22) rfl rfl rfl rfl ?_
            refine hJ.goto (pc := 63) 10 dX12_readSum_63 (by decide) ?_
            refine hJ.weak [some (vr 12 0), none] ⟨rfl, trivial⟩ ?_
            exact ih S23 hF
          · rw [if_pos h21] at hF
            refine hJ.iconst (pc := 55) (-1) dX12_readSum_55 ic_m1 ?_
            cases hF
            exact hR.i (pc := 56) dX12_readSum_56
        · rw [if_pos h7] at hF
          refine hJ.iconst (pc := 37) 2 dX12_readSum_37 ic_2 ?_
          refine hJ.goto (pc := 38) 42 dX12_readSum_38 (by decide) ?_
          refine hJ.istore_n (pc := 42) [some (vr 12 0), some (vi 2)] dX12_readSum_42 (by decide) rfl ?_
          refine hJ.aload_n (pc := 43) dX12_readSum_43 rfl ?_
          obtain ⟨S9, h8, hF⟩ := bn_some hF
          refine hJ.cV (pc := 44) [] [] [] dX12_readSum_44 lk_X12_198 (ctX12_reads _ _ _ h8) rfl rfl rfl rfl ?_
          refine hJ.aload_n (pc := 47) dX12_readSum_47 rfl ?_
          obtain ⟨r12, S11, h10, hF⟩ := bd_some hF
          refine hJ.cV (pc := 48) [] [] [vi r12] dX12_readSum_48 lk_X12_208 (ctX12_readProduct _ _ _ _ h10) rfl rfl rfl rfl ?_
          refine hJ.iconst (pc := 51) (-1) dX12_readSum_51 ic_m1 ?_
          refine hJ.icmp_ne (pc := 52) 57 dX12_readSum_52 (by decide) (fun h13 => ?_) (fun h13 => ?_)
          · rw [if_neg h13] at hF
            refine hJ.aload_n (pc := 57) dX12_readSum_57 rfl ?_
            refine hJ.iload_n (pc := 58) dX12_readSum_58 rfl ?_
            refine hJ.iconst (pc := 59) 0 dX12_readSum_59 ic_0 ?_
            obtain ⟨S15, h14, hF⟩ := bn_some hF
            refine hJ.cV (pc := 60) [vi 2, vi 0] [] [] dX12_readSum_60 lk_X12_194 (ctX12_emits 2 0 _ _ _ h14) rfl rfl rfl rfl ?_
            refine hJ.goto (pc := 63) 10 dX12_readSum_63 (by decide) ?_
            refine hJ.weak [some (vr 12 0), none] ⟨rfl, trivial⟩ ?_
            exact ih S15 hF
          · rw [if_pos h13] at hF
            refine hJ.iconst (pc := 55) (-1) dX12_readSum_55 ic_m1 ?_
            cases hF
            exact hR.i (pc := 56) dX12_readSum_56
set_option maxRecDepth 100000 in
set_option maxHeartbeats 4000000 in
theorem ctX12_readSum (Sc S : Mem) (r : Int32) (S' : Mem) (hF : fX12_readSum S = some (r, S')) : Ct yX12_readSum cX12_readSum 2 (some .int) 5 107 0 0 [vr 12 0] wl0 L0 Sc S (some (vi r)) wl0 L0 Sc S' := by
  refine Ct.of RX12 false (by decide) rfl (fun h => by cases h) (Nat.le_of_ble_eq_true rfl) (fun J hJ hR => ?_)
  rw [fX12_readSum] at hF
  show J 0 [some (vr 12 0), none] [] wl0 L0 0 0 Sc S
  refine hJ.aload_n (pc := 0) dX12_readSum_0 rfl ?_
  obtain ⟨r3, S2, h1, hF⟩ := bd_some hF
  refine hJ.cV (pc := 1) [] [] [vi r3] dX12_readSum_1 lk_X12_208 (ctX12_readProduct _ _ _ _ h1) rfl rfl rfl rfl ?_
  refine hJ.iconst (pc := 4) (-1) dX12_readSum_4 ic_m1 ?_
  refine hJ.icmp_ne (pc := 5) 10 dX12_readSum_5 (by decide) (fun h4 => ?_) (fun h4 => ?_)
  · rw [if_neg h4] at hF
    exact wX12_readSum_10 hJ hR 5000 S2 hF
  · rw [if_pos h4] at hF
    refine hJ.iconst (pc := 8) (-1) dX12_readSum_8 ic_m1 ?_
    cases hF
    exact hR.i (pc := 9) dX12_readSum_9
set_option maxRecDepth 100000 in
set_option maxHeartbeats 4000000 in
theorem wX12_settles_0 {J : Nat → Lv → List AV → Obs → Lay → Nat → Nat → Mem → Mem → Prop} (hJ : Cl RX12 cX12_settles 2 1 22 0 0 none false J) {Sc S' : Mem} (hR : Rk cX12_settles none none wl0 L0 0 0 Sc S' J) : ∀ (n : Nat) (x1 : Int32) (S : Mem), fX12_settles_0 n x1 S = some (S') → J 0 [some (vr 12 0), some (vi x1)] [] wl0 L0 0 0 Sc S := by
  intro n
  induction n with
  | zero =>
    intro x1 S hF
    rw [fX12_settles_0] at hF
    cases hF
  | succ n ih =>
    intro x1 S hF
    rw [fX12_settles_0] at hF
    refine hJ.aload_n (pc := 0) dX12_settles_0 rfl ?_
    refine hJ.gM (pc := 1) dX12_settles_1 fi_X12_214 ?_
    refine hJ.if_le (pc := 4) 57 dX12_settles_4 (by decide) (fun h1 => ?_) (fun h1 => ?_)
    · rw [if_pos h1] at hF
      cases hF
      exact hR.v (pc := 57) dX12_settles_57
    · rw [if_neg h1] at hF
      refine hJ.aload_n (pc := 7) dX12_settles_7 rfl ?_
      refine hJ.gR (pc := 8) (k' := 80) (i' := 0) dX12_settles_8 fr_X12_70 rfl ?_
      refine hJ.aload_n (pc := 11) dX12_settles_11 rfl ?_
      refine hJ.gM (pc := 12) dX12_settles_12 fi_X12_214 ?_
      refine hJ.iconst (pc := 15) 1 dX12_settles_15 ic_1 ?_
      refine hJ.isub (pc := 16) dX12_settles_16 ?_
      obtain ⟨j2, h3, hF⟩ := bn_some hF
      refine hJ.lialdM (pc := 17) dX12_settles_17 al_80 h3 ?_
      refine hJ.iload_n (pc := 18) dX12_settles_18 rfl ?_
      refine hJ.icmp_ne (pc := 19) 57 dX12_settles_19 (by decide) (fun h4 => ?_) (fun h4 => ?_)
      · rw [if_neg h4] at hF
        cases hF
        exact hR.v (pc := 57) dX12_settles_57
      · rw [if_pos h4] at hF
        refine hJ.aload_n (pc := 22) dX12_settles_22 rfl ?_
        refine hJ.aload_n (pc := 23) dX12_settles_23 rfl ?_
        refine hJ.gM (pc := 24) dX12_settles_24 fi_X12_214 ?_
        refine hJ.iconst (pc := 27) 1 dX12_settles_27 ic_1 ?_
        refine hJ.isub (pc := 28) dX12_settles_28 ?_
        refine hJ.pIM (pc := 29) dX12_settles_29 fp_X12_214 ?_
        refine hJ.aload_n (pc := 32) dX12_settles_32 rfl ?_
        refine hJ.iload_n (pc := 33) dX12_settles_33 rfl ?_
        refine hJ.iconst (pc := 34) 0 dX12_settles_34 ic_0 ?_
        obtain ⟨S6, h5, hF⟩ := bn_some hF
        refine hJ.cV (pc := 35) [vi x1, vi 0] [] [] dX12_settles_35 lk_X12_194 (ctX12_emits x1 0 _ _ _ h5) rfl rfl rfl rfl ?_
        refine hJ.iload_n (pc := 38) dX12_settles_38 rfl ?_
        refine hJ.bipush (pc := 39) 9 dX12_settles_39 bc_9 ?_
        refine hJ.icmp_ne (pc := 41) 0 dX12_settles_41 (by decide) (fun h7 => ?_) (fun h7 => ?_)
        · rw [if_neg h7] at hF
          exact ih x1 S6 hF
        · rw [if_pos h7] at hF
          refine hJ.aload_n (pc := 44) dX12_settles_44 rfl ?_
          refine hJ.aload_n (pc := 45) dX12_settles_45 rfl ?_
          refine hJ.gM (pc := 46) dX12_settles_46 fi_X12_217 ?_
          refine hJ.iconst (pc := 49) 1 dX12_settles_49 ic_1 ?_
          refine hJ.isub (pc := 50) dX12_settles_50 ?_
          refine hJ.pIM (pc := 51) dX12_settles_51 fp_X12_217 ?_
          refine hJ.goto (pc := 54) 0 dX12_settles_54 (by decide) ?_
          exact ih x1 (up S6 12 0 34 ((S6 12 0 34) - 1)) hF
set_option maxRecDepth 100000 in
set_option maxHeartbeats 4000000 in
theorem ctX12_settles (p0 : Int32) (Sc S : Mem) (S' : Mem) (hF : fX12_settles p0 S = some (S')) : Ct yX12_settles cX12_settles 2 none 1 22 0 0 [vr 12 0, vi p0] wl0 L0 Sc S none wl0 L0 Sc S' := by
  refine Ct.of RX12 false (by decide) rfl (fun h => by cases h) (Nat.le_of_ble_eq_true rfl) (fun J hJ hR => ?_)
  rw [fX12_settles] at hF
  show J 0 [some (vr 12 0), some (vi p0)] [] wl0 L0 0 0 Sc S
  exact wX12_settles_0 hJ hR 5000 p0 S hF
set_option maxRecDepth 100000 in
set_option maxHeartbeats 4000000 in
theorem ctX12_waits (p0 : Int32) (Sc S : Mem) (S' : Mem) (hF : fX12_waits p0 S = some (S')) : Ct yX12_waits cX12_waits 2 none 0 0 0 0 [vr 12 0, vi p0] wl0 L0 Sc S none wl0 L0 Sc S' := by
  refine Ct.of RX12 false (by decide) rfl (fun h => by cases h) (Nat.le_of_ble_eq_true rfl) (fun J hJ hR => ?_)
  rw [fX12_waits] at hF
  show J 0 [some (vr 12 0), some (vi p0)] [] wl0 L0 0 0 Sc S
  refine hJ.aload_n (pc := 0) dX12_waits_0 rfl ?_
  refine hJ.gR (pc := 1) (k' := 80) (i' := 0) dX12_waits_1 fr_X12_70 rfl ?_
  refine hJ.aload_n (pc := 4) dX12_waits_4 rfl ?_
  refine hJ.gM (pc := 5) dX12_waits_5 fi_X12_214 ?_
  refine hJ.iload_n (pc := 8) dX12_waits_8 rfl ?_
  obtain ⟨j1, h2, hF⟩ := bn_some hF
  refine hJ.siastM (pc := 9) dX12_waits_9 al_80 h2 ?_
  refine hJ.aload_n (pc := 10) dX12_waits_10 rfl ?_
  refine hJ.aload_n (pc := 11) dX12_waits_11 rfl ?_
  refine hJ.gM (pc := 12) dX12_waits_12 fi_X12_214 ?_
  refine hJ.iconst (pc := 15) 1 dX12_waits_15 ic_1 ?_
  refine hJ.iadd (pc := 16) dX12_waits_16 ?_
  refine hJ.pIM (pc := 17) dX12_waits_17 fp_X12_214 ?_
  cases hF
  exact hR.v (pc := 20) dX12_waits_20
set_option maxRecDepth 100000 in
set_option maxHeartbeats 4000000 in
theorem wX12_readCompared_73 {J : Nat → Lv → List AV → Obs → Lay → Nat → Nat → Mem → Mem → Prop} (hJ : Cl RX12 cX12_readCompared 2 6 128 0 0 none false J) {r : Int32} {Sc S' : Mem} (hR : Rk cX12_readCompared (some .int) (some (vi r)) wl0 L0 0 0 Sc S' J) (y0 : Int32) (S : Mem) (hF : fX12_readCompared_73 y0 S = some (r, S')) : J 73 [some (vr 12 0), none] [vi y0] wl0 L0 0 0 Sc S := by
  rw [fX12_readCompared_73] at hF
  refine hJ.istore_n (pc := 73) [some (vr 12 0), some (vi y0)] dX12_readCompared_73 (by decide) rfl ?_
  refine hJ.aload_n (pc := 74) dX12_readCompared_74 rfl ?_
  obtain ⟨S10, h9, hF⟩ := bn_some hF
  refine hJ.cV (pc := 75) [] [] [] dX12_readCompared_75 lk_X12_198 (ctX12_reads _ _ _ h9) rfl rfl rfl rfl ?_
  refine hJ.aload_n (pc := 78) dX12_readCompared_78 rfl ?_
  obtain ⟨r13, S12, h11, hF⟩ := bd_some hF
  refine hJ.cV (pc := 79) [] [] [vi r13] dX12_readCompared_79 lk_X12_211 (ctX12_readSum _ _ _ _ h11) rfl rfl rfl rfl ?_
  refine hJ.iconst (pc := 82) (-1) dX12_readCompared_82 ic_m1 ?_
  refine hJ.icmp_ne (pc := 83) 88 dX12_readCompared_83 (by decide) (fun h14 => ?_) (fun h14 => ?_)
  · rw [if_neg h14] at hF
    refine hJ.aload_n (pc := 88) dX12_readCompared_88 rfl ?_
    refine hJ.iload_n (pc := 89) dX12_readCompared_89 rfl ?_
    refine hJ.iconst (pc := 90) 0 dX12_readCompared_90 ic_0 ?_
    obtain ⟨S16, h15, hF⟩ := bn_some hF
    refine hJ.cV (pc := 91) [vi y0, vi 0] [] [] dX12_readCompared_91 lk_X12_194 (ctX12_emits y0 0 _ _ _ h15) rfl rfl rfl rfl ?_
    refine hJ.iconst (pc := 94) 0 dX12_readCompared_94 ic_0 ?_
    cases hF
    exact hR.i (pc := 95) dX12_readCompared_95
  · rw [if_pos h14] at hF
    refine hJ.iconst (pc := 86) (-1) dX12_readCompared_86 ic_m1 ?_
    cases hF
    exact hR.i (pc := 87) dX12_readCompared_87
set_option maxRecDepth 100000 in
set_option maxHeartbeats 4000000 in
theorem wX12_readCompared_43 {J : Nat → Lv → List AV → Obs → Lay → Nat → Nat → Mem → Mem → Prop} (hJ : Cl RX12 cX12_readCompared 2 6 128 0 0 none false J) {r : Int32} {Sc S' : Mem} (hR : Rk cX12_readCompared (some .int) (some (vi r)) wl0 L0 0 0 Sc S' J) (S : Mem) (hF : fX12_readCompared_43 S = some (r, S')) : J 43 [some (vr 12 0), none] [] wl0 L0 0 0 Sc S := by
  rw [fX12_readCompared_43] at hF
  refine hJ.aload_n (pc := 43) dX12_readCompared_43 rfl ?_
  refine hJ.gM (pc := 44) dX12_readCompared_44 fi_X12_166 ?_
  refine hJ.bipush (pc := 47) 60 dX12_readCompared_47 bc_60 ?_
  refine hJ.icmp_ne (pc := 49) 57 dX12_readCompared_49 (by decide) (fun h8 => ?_) (fun h8 => ?_)
  · rw [if_neg h8] at hF
    refine hJ.aload_n (pc := 57) dX12_readCompared_57 rfl ?_
    refine hJ.gM (pc := 58) dX12_readCompared_58 fi_X12_166 ?_
    refine hJ.bipush (pc := 61) 61 dX12_readCompared_61 bc_61 ?_
    refine hJ.icmp_ne (pc := 63) 71 dX12_readCompared_63 (by decide) (fun h17 => ?_) (fun h17 => ?_)
    · rw [if_neg h17] at hF
      refine hJ.bipush (pc := 71) 8 dX12_readCompared_71 bc_8 ?_
      exact wX12_readCompared_73 hJ hR 8 S hF
    · rw [if_pos h17] at hF
      refine hJ.bipush (pc := 66) 7 dX12_readCompared_66 bc_7 ?_
      refine hJ.goto (pc := 68) 73 dX12_readCompared_68 (by decide) ?_
      exact wX12_readCompared_73 hJ hR 7 S hF
  · rw [if_pos h8] at hF
    refine hJ.bipush (pc := 52) 6 dX12_readCompared_52 bc_6 ?_
    refine hJ.goto (pc := 54) 73 dX12_readCompared_54 (by decide) ?_
    exact wX12_readCompared_73 hJ hR 6 S hF
set_option maxRecDepth 100000 in
set_option maxHeartbeats 4000000 in
theorem ctX12_readCompared (Sc S : Mem) (r : Int32) (S' : Mem) (hF : fX12_readCompared S = some (r, S')) : Ct yX12_readCompared cX12_readCompared 2 (some .int) 6 128 0 0 [vr 12 0] wl0 L0 Sc S (some (vi r)) wl0 L0 Sc S' := by
  refine Ct.of RX12 false (by decide) rfl (fun h => by cases h) (Nat.le_of_ble_eq_true rfl) (fun J hJ hR => ?_)
  rw [fX12_readCompared] at hF
  show J 0 [some (vr 12 0), none] [] wl0 L0 0 0 Sc S
  refine hJ.aload_n (pc := 0) dX12_readCompared_0 rfl ?_
  obtain ⟨r3, S2, h1, hF⟩ := bd_some hF
  refine hJ.cV (pc := 1) [] [] [vi r3] dX12_readCompared_1 lk_X12_211 (ctX12_readSum _ _ _ _ h1) rfl rfl rfl rfl ?_
  refine hJ.iconst (pc := 4) (-1) dX12_readCompared_4 ic_m1 ?_
  refine hJ.icmp_ne (pc := 5) 10 dX12_readCompared_5 (by decide) (fun h4 => ?_) (fun h4 => ?_)
  · rw [if_neg h4] at hF
    refine hJ.aload_n (pc := 10) dX12_readCompared_10 rfl ?_
    refine hJ.bipush (pc := 11) 60 dX12_readCompared_11 bc_60 ?_
    refine hJ.cV (pc := 13) [vi 60] [] [vi (fX12_isSign 60 S2)] dX12_readCompared_13 lk_X12_205 (ctX12_isSign 60 _ _ (fX12_isSign 60 S2) rfl) rfl rfl rfl rfl ?_
    refine hJ.if_ne (pc := 16) 43 dX12_readCompared_16 (by decide) (fun h5 => ?_) (fun h5 => ?_)
    · rw [if_neg h5] at hF
      exact wX12_readCompared_43 hJ hR S2 hF
    · rw [if_pos h5] at hF
      refine hJ.aload_n (pc := 19) dX12_readCompared_19 rfl ?_
      refine hJ.bipush (pc := 20) 61 dX12_readCompared_20 bc_61 ?_
      refine hJ.cV (pc := 22) [vi 61] [] [vi (fX12_isSign 61 S2)] dX12_readCompared_22 lk_X12_205 (ctX12_isSign 61 _ _ (fX12_isSign 61 S2) rfl) rfl rfl rfl rfl ?_
      refine hJ.if_ne (pc := 25) 43 dX12_readCompared_25 (by decide) (fun h6 => ?_) (fun h6 => ?_)
      · rw [if_neg h6] at hF
        exact wX12_readCompared_43 hJ hR S2 hF
      · rw [if_pos h6] at hF
        refine hJ.aload_n (pc := 28) dX12_readCompared_28 rfl ?_
        refine hJ.bipush (pc := 29) 62 dX12_readCompared_29 bc_62 ?_
        refine hJ.cV (pc := 31) [vi 62] [] [vi (fX12_isSign 62 S2)] dX12_readCompared_31 lk_X12_205 (ctX12_isSign 62 _ _ (fX12_isSign 62 S2) rfl) rfl rfl rfl rfl ?_
        refine hJ.if_ne (pc := 34) 43 dX12_readCompared_34 (by decide) (fun h7 => ?_) (fun h7 => ?_)
        · rw [if_neg h7] at hF
          exact wX12_readCompared_43 hJ hR S2 hF
        · rw [if_pos h7] at hF
          refine hJ.aload_n (pc := 37) dX12_readCompared_37 rfl ?_
          refine hJ.iconst (pc := 38) 1 dX12_readCompared_38 ic_1 ?_
          refine hJ.cV (pc := 39) [vi 1] [] [vi (fX12_errs 1 S2).1] dX12_readCompared_39 lk_X12_191 (ctX12_errs 1 _ _ (fX12_errs 1 S2).1 (fX12_errs 1 S2).2 rfl) rfl rfl rfl rfl ?_
          cases hF
          exact hR.i (pc := 42) dX12_readCompared_42
  · rw [if_pos h4] at hF
    refine hJ.iconst (pc := 8) (-1) dX12_readCompared_8 ic_m1 ?_
    cases hF
    exact hR.i (pc := 9) dX12_readCompared_9
set_option maxRecDepth 100000 in
set_option maxHeartbeats 4000000 in
theorem wX12_readAny_9 {J : Nat → Lv → List AV → Obs → Lay → Nat → Nat → Mem → Mem → Prop} (hJ : Cl RX12 cX12_readAny 4 7 149 0 0 none false J) {r : Int32} {Sc S' : Mem} (hR : Rk cX12_readAny (some .int) (some (vi r)) wl0 L0 0 0 Sc S' J) : ∀ (n : Nat) (x1 : Int32) (x2 : Int32) (S : Mem), fX12_readAny_9 n x1 x2 S = some (r, S') → J 9 [some (vr 12 0), some (vi x1), some (vi x2), none] [] wl0 L0 0 0 Sc S := by
  intro n
  induction n with
  | zero =>
    intro x1 x2 S hF
    rw [fX12_readAny_9] at hF
    cases hF
  | succ n ih =>
    intro x1 x2 S hF
    rw [fX12_readAny_9] at hF
    refine hJ.iload_n (pc := 9) dX12_readAny_9 rfl ?_
    refine hJ.if_eq (pc := 10) 108 dX12_readAny_10 (by decide) (fun h1 => ?_) (fun h1 => ?_)
    · rw [if_pos h1] at hF
      refine hJ.aload_n (pc := 108) dX12_readAny_108 rfl ?_
      refine hJ.iconst (pc := 109) 3 dX12_readAny_109 ic_3 ?_
      refine hJ.cV (pc := 110) [vi 3] [] [vi (fX12_isWord 3 S)] dX12_readAny_110 lk_X12_220 (ctX12_isWord 3 _ _ (fX12_isWord 3 S) rfl) rfl rfl rfl rfl ?_
      refine hJ.if_eq (pc := 113) 137 dX12_readAny_113 (by decide) (fun h2 => ?_) (fun h2 => ?_)
      · rw [if_pos h2] at hF
        refine hJ.aload_n (pc := 137) dX12_readAny_137 rfl ?_
        refine hJ.iconst (pc := 138) 2 dX12_readAny_138 ic_2 ?_
        refine hJ.cV (pc := 139) [vi 2] [] [vi (fX12_isWord 2 S)] dX12_readAny_139 lk_X12_220 (ctX12_isWord 2 _ _ (fX12_isWord 2 S) rfl) rfl rfl rfl rfl ?_
        refine hJ.if_eq (pc := 142) 172 dX12_readAny_142 (by decide) (fun h3 => ?_) (fun h3 => ?_)
        · rw [if_pos h3] at hF
          refine hJ.aload_n (pc := 172) dX12_readAny_172 rfl ?_
          refine hJ.bipush (pc := 173) 10 dX12_readAny_173 bc_10 ?_
          obtain ⟨S5, h4, hF⟩ := bn_some hF
          refine hJ.cV (pc := 175) [vi 10] [] [] dX12_readAny_175 lk_X12_229 (ctX12_settles 10 _ _ _ h4) rfl rfl rfl rfl ?_
          refine hJ.aload_n (pc := 178) dX12_readAny_178 rfl ?_
          refine hJ.bipush (pc := 179) 11 dX12_readAny_179 bc_11 ?_
          obtain ⟨S7, h6, hF⟩ := bn_some hF
          refine hJ.cV (pc := 181) [vi 11] [] [] dX12_readAny_181 lk_X12_229 (ctX12_settles 11 _ _ _ h6) rfl rfl rfl rfl ?_
          refine hJ.iload_n (pc := 184) dX12_readAny_184 rfl ?_
          refine hJ.if_ne (pc := 185) 190 dX12_readAny_185 (by decide) (fun h8 => ?_) (fun h8 => ?_)
          · rw [if_neg h8] at hF
            refine hJ.aload_n (pc := 190) dX12_readAny_190 rfl ?_
            refine hJ.bipush (pc := 191) 41 dX12_readAny_191 bc_41 ?_
            refine hJ.cV (pc := 193) [vi 41] [] [vi (fX12_isSign 41 S7)] dX12_readAny_193 lk_X12_205 (ctX12_isSign 41 _ _ (fX12_isSign 41 S7) rfl) rfl rfl rfl rfl ?_
            refine hJ.if_ne (pc := 196) 205 dX12_readAny_196 (by decide) (fun h9 => ?_) (fun h9 => ?_)
            · rw [if_neg h9] at hF
              refine hJ.aload_n (pc := 205) dX12_readAny_205 rfl ?_
              refine hJ.aload_n (pc := 206) dX12_readAny_206 rfl ?_
              refine hJ.gM (pc := 207) dX12_readAny_207 fi_X12_214 ?_
              refine hJ.iconst (pc := 210) 1 dX12_readAny_210 ic_1 ?_
              refine hJ.isub (pc := 211) dX12_readAny_211 ?_
              refine hJ.pIM (pc := 212) dX12_readAny_212 fp_X12_214 ?_
              refine hJ.iload_n (pc := 215) dX12_readAny_215 rfl ?_
              refine hJ.iconst (pc := 216) 1 dX12_readAny_216 ic_1 ?_
              refine hJ.isub (pc := 217) dX12_readAny_217 ?_
              refine hJ.istore_n (pc := 218) [some (vr 12 0), some (vi (x1 - 1)), some (vi x2), none] dX12_readAny_218 (by decide) rfl ?_
              refine hJ.aload_n (pc := 219) dX12_readAny_219 rfl ?_
              refine hJ.aload_n (pc := 220) dX12_readAny_220 rfl ?_
              refine hJ.gM (pc := 221) dX12_readAny_221 fi_X12_217 ?_
              refine hJ.iconst (pc := 224) 1 dX12_readAny_224 ic_1 ?_
              refine hJ.isub (pc := 225) dX12_readAny_225 ?_
              refine hJ.pIM (pc := 226) dX12_readAny_226 fp_X12_217 ?_
              refine hJ.aload_n (pc := 229) dX12_readAny_229 rfl ?_
              refine hJ.bipush (pc := 230) 9 dX12_readAny_230 bc_9 ?_
              obtain ⟨S11, h10, hF⟩ := bn_some hF
              refine hJ.cV (pc := 232) [vi 9] [] [] dX12_readAny_232 lk_X12_229 (ctX12_settles 9 _ _ _ h10) rfl rfl rfl rfl ?_
              refine hJ.aload_n (pc := 235) dX12_readAny_235 rfl ?_
              obtain ⟨S13, h12, hF⟩ := bn_some hF
              refine hJ.cV (pc := 236) [] [] [] dX12_readAny_236 lk_X12_198 (ctX12_reads _ _ _ h12) rfl rfl rfl rfl ?_
              refine hJ.goto (pc := 239) 9 dX12_readAny_239 (by decide) ?_
              exact ih (x1 - 1) x2 S13 hF
            · rw [if_pos h9] at hF
              refine hJ.aload_n (pc := 199) dX12_readAny_199 rfl ?_
              refine hJ.iconst (pc := 200) 1 dX12_readAny_200 ic_1 ?_
              refine hJ.cV (pc := 201) [vi 1] [] [vi (fX12_errs 1 S7).1] dX12_readAny_201 lk_X12_191 (ctX12_errs 1 _ _ (fX12_errs 1 S7).1 (fX12_errs 1 S7).2 rfl) rfl rfl rfl rfl ?_
              cases hF
              exact hR.i (pc := 204) dX12_readAny_204
          · rw [if_pos h8] at hF
            refine hJ.iconst (pc := 188) 0 dX12_readAny_188 ic_0 ?_
            cases hF
            exact hR.i (pc := 189) dX12_readAny_189
        · rw [if_neg h3] at hF
          refine hJ.aload_n (pc := 145) dX12_readAny_145 rfl ?_
          refine hJ.bipush (pc := 146) 10 dX12_readAny_146 bc_10 ?_
          obtain ⟨S15, h14, hF⟩ := bn_some hF
          refine hJ.cV (pc := 148) [vi 10] [] [] dX12_readAny_148 lk_X12_229 (ctX12_settles 10 _ _ _ h14) rfl rfl rfl rfl ?_
          refine hJ.aload_n (pc := 151) dX12_readAny_151 rfl ?_
          refine hJ.bipush (pc := 152) 11 dX12_readAny_152 bc_11 ?_
          obtain ⟨S17, h16, hF⟩ := bn_some hF
          refine hJ.cV (pc := 154) [vi 11] [] [] dX12_readAny_154 lk_X12_229 (ctX12_settles 11 _ _ _ h16) rfl rfl rfl rfl ?_
          refine hJ.aload_n (pc := 157) dX12_readAny_157 rfl ?_
          refine hJ.bipush (pc := 158) 11 dX12_readAny_158 bc_11 ?_
          obtain ⟨S19, h18, hF⟩ := bn_some hF
          refine hJ.cV (pc := 160) [vi 11] [] [] dX12_readAny_160 lk_X12_223 (ctX12_waits 11 _ _ _ h18) rfl rfl rfl rfl ?_
          refine hJ.aload_n (pc := 163) dX12_readAny_163 rfl ?_
          obtain ⟨S21, h20, hF⟩ := bn_some hF
          refine hJ.cV (pc := 164) [] [] [] dX12_readAny_164 lk_X12_198 (ctX12_reads _ _ _ h20) rfl rfl rfl rfl ?_
          refine hJ.iconst (pc := 167) 1 dX12_readAny_167 ic_1 ?_
          refine hJ.istore_n (pc := 168) [some (vr 12 0), some (vi x1), some (vi 1), none] dX12_readAny_168 (by decide) rfl ?_
          refine hJ.goto (pc := 169) 9 dX12_readAny_169 (by decide) ?_
          exact ih x1 1 S21 hF
      · rw [if_neg h2] at hF
        refine hJ.aload_n (pc := 116) dX12_readAny_116 rfl ?_
        refine hJ.bipush (pc := 117) 10 dX12_readAny_117 bc_10 ?_
        obtain ⟨S23, h22, hF⟩ := bn_some hF
        refine hJ.cV (pc := 119) [vi 10] [] [] dX12_readAny_119 lk_X12_229 (ctX12_settles 10 _ _ _ h22) rfl rfl rfl rfl ?_
        refine hJ.aload_n (pc := 122) dX12_readAny_122 rfl ?_
        refine hJ.bipush (pc := 123) 10 dX12_readAny_123 bc_10 ?_
        obtain ⟨S25, h24, hF⟩ := bn_some hF
        refine hJ.cV (pc := 125) [vi 10] [] [] dX12_readAny_125 lk_X12_223 (ctX12_waits 10 _ _ _ h24) rfl rfl rfl rfl ?_
        refine hJ.aload_n (pc := 128) dX12_readAny_128 rfl ?_
        obtain ⟨S27, h26, hF⟩ := bn_some hF
        refine hJ.cV (pc := 129) [] [] [] dX12_readAny_129 lk_X12_198 (ctX12_reads _ _ _ h26) rfl rfl rfl rfl ?_
        refine hJ.iconst (pc := 132) 1 dX12_readAny_132 ic_1 ?_
        refine hJ.istore_n (pc := 133) [some (vr 12 0), some (vi x1), some (vi 1), none] dX12_readAny_133 (by decide) rfl ?_
        refine hJ.goto (pc := 134) 9 dX12_readAny_134 (by decide) ?_
        exact ih x1 1 S27 hF
    · rw [if_neg h1] at hF
      refine hJ.aload_n (pc := 13) dX12_readAny_13 rfl ?_
      refine hJ.iconst (pc := 14) 4 dX12_readAny_14 ic_4 ?_
      refine hJ.cV (pc := 15) [vi 4] [] [vi (fX12_isWord 4 S)] dX12_readAny_15 lk_X12_220 (ctX12_isWord 4 _ _ (fX12_isWord 4 S) rfl) rfl rfl rfl rfl ?_
      refine hJ.istore_n (pc := 18) [some (vr 12 0), some (vi x1), some (vi x2), some (vi (fX12_isWord 4 S))] dX12_readAny_18 (by decide) rfl ?_
      refine hJ.iload_n (pc := 19) dX12_readAny_19 rfl ?_
      refine hJ.if_ne (pc := 20) 32 dX12_readAny_20 (by decide) (fun h28 => ?_) (fun h28 => ?_)
      · rw [if_neg h28] at hF
        refine hJ.aload_n (pc := 32) dX12_readAny_32 rfl ?_
        refine hJ.gM (pc := 33) dX12_readAny_33 fi_X12_217 ?_
        refine hJ.bipush (pc := 36) 8 dX12_readAny_36 bc_8 ?_
        refine hJ.icmp_ne (pc := 38) 47 dX12_readAny_38 (by decide) (fun h41 => ?_) (fun h41 => ?_)
        · rw [if_neg h41] at hF
          refine hJ.aload_n (pc := 47) dX12_readAny_47 rfl ?_
          refine hJ.aload_n (pc := 48) dX12_readAny_48 rfl ?_
          refine hJ.gM (pc := 49) dX12_readAny_49 fi_X12_217 ?_
          refine hJ.iconst (pc := 52) 1 dX12_readAny_52 ic_1 ?_
          refine hJ.iadd (pc := 53) dX12_readAny_53 ?_
          refine hJ.pIM (pc := 54) dX12_readAny_54 fp_X12_217 ?_
          refine hJ.iload_n (pc := 57) dX12_readAny_57 rfl ?_
          refine hJ.if_ne (pc := 58) 65 dX12_readAny_58 (by decide) (fun _ => ?_) (fun h0 => absurd h0 h28)
          refine hJ.aload_n (pc := 65) dX12_readAny_65 rfl ?_
          refine hJ.iload_n (pc := 66) dX12_readAny_66 rfl ?_
          refine hJ.if_eq (pc := 67) 75 dX12_readAny_67 (by decide) (fun h0 => absurd h0 h28) (fun _ => ?_)
          refine hJ.bipush (pc := 70) 9 dX12_readAny_70 bc_9 ?_
          refine hJ.goto (pc := 72) 77 dX12_readAny_72 (by decide) ?_
          obtain ⟨S43, h42, hF⟩ := bn_some hF
          refine hJ.cV (pc := 77) [vi 9] [] [] dX12_readAny_77 lk_X12_223 (ctX12_waits 9 _ _ _ h42) rfl rfl rfl rfl ?_
          refine hJ.aload_n (pc := 80) dX12_readAny_80 rfl ?_
          obtain ⟨S45, h44, hF⟩ := bn_some hF
          refine hJ.cV (pc := 81) [] [] [] dX12_readAny_81 lk_X12_198 (ctX12_reads _ _ _ h44) rfl rfl rfl rfl ?_
          refine hJ.goto (pc := 84) 9 dX12_readAny_84 (by decide) ?_
          refine hJ.weak [some (vr 12 0), some (vi x1), some (vi x2), none] ⟨rfl, rfl, rfl, trivial⟩ ?_
          exact ih x1 x2 S45 hF
        · rw [if_pos h41] at hF
          refine hJ.aload_n (pc := 41) dX12_readAny_41 rfl ?_
          refine hJ.iconst (pc := 42) 3 dX12_readAny_42 ic_3 ?_
          refine hJ.cV (pc := 43) [vi 3] [] [vi (fX12_errs 3 S).1] dX12_readAny_43 lk_X12_191 (ctX12_errs 3 _ _ (fX12_errs 3 S).1 (fX12_errs 3 S).2 rfl) rfl rfl rfl rfl ?_
          cases hF
          exact hR.i (pc := 46) dX12_readAny_46
      · rw [if_pos h28] at hF
        refine hJ.aload_n (pc := 23) dX12_readAny_23 rfl ?_
        refine hJ.bipush (pc := 24) 40 dX12_readAny_24 bc_40 ?_
        refine hJ.cV (pc := 26) [vi 40] [] [vi (fX12_isSign 40 S)] dX12_readAny_26 lk_X12_205 (ctX12_isSign 40 _ _ (fX12_isSign 40 S) rfl) rfl rfl rfl rfl ?_
        refine hJ.if_eq (pc := 29) 87 dX12_readAny_29 (by decide) (fun h29 => ?_) (fun h29 => ?_)
        · rw [if_pos h29] at hF
          refine hJ.aload_n (pc := 87) dX12_readAny_87 rfl ?_
          obtain ⟨r32, S31, h30, hF⟩ := bd_some hF
          refine hJ.cV (pc := 88) [] [] [vi r32] dX12_readAny_88 lk_X12_226 (ctX12_readCompared _ _ _ _ h30) rfl rfl rfl rfl ?_
          refine hJ.iconst (pc := 91) (-1) dX12_readAny_91 ic_m1 ?_
          refine hJ.icmp_ne (pc := 92) 97 dX12_readAny_92 (by decide) (fun h33 => ?_) (fun h33 => ?_)
          · rw [if_neg h33] at hF
            refine hJ.aload_n (pc := 97) dX12_readAny_97 rfl ?_
            refine hJ.bipush (pc := 98) 9 dX12_readAny_98 bc_9 ?_
            obtain ⟨S35, h34, hF⟩ := bn_some hF
            refine hJ.cV (pc := 100) [vi 9] [] [] dX12_readAny_100 lk_X12_229 (ctX12_settles 9 _ _ _ h34) rfl rfl rfl rfl ?_
            refine hJ.iconst (pc := 103) 0 dX12_readAny_103 ic_0 ?_
            refine hJ.istore_n (pc := 104) [some (vr 12 0), some (vi x1), some (vi 0), some (vi (fX12_isWord 4 S))] dX12_readAny_104 (by decide) rfl ?_
            refine hJ.goto (pc := 105) 9 dX12_readAny_105 (by decide) ?_
            refine hJ.weak [some (vr 12 0), some (vi x1), some (vi 0), none] ⟨rfl, rfl, rfl, trivial⟩ ?_
            exact ih x1 0 S35 hF
          · rw [if_pos h33] at hF
            refine hJ.iconst (pc := 95) (-1) dX12_readAny_95 ic_m1 ?_
            cases hF
            exact hR.i (pc := 96) dX12_readAny_96
        · rw [if_neg h29] at hF
          refine hJ.aload_n (pc := 32) dX12_readAny_32 rfl ?_
          refine hJ.gM (pc := 33) dX12_readAny_33 fi_X12_217 ?_
          refine hJ.bipush (pc := 36) 8 dX12_readAny_36 bc_8 ?_
          refine hJ.icmp_ne (pc := 38) 47 dX12_readAny_38 (by decide) (fun h36 => ?_) (fun h36 => ?_)
          · rw [if_neg h36] at hF
            refine hJ.aload_n (pc := 47) dX12_readAny_47 rfl ?_
            refine hJ.aload_n (pc := 48) dX12_readAny_48 rfl ?_
            refine hJ.gM (pc := 49) dX12_readAny_49 fi_X12_217 ?_
            refine hJ.iconst (pc := 52) 1 dX12_readAny_52 ic_1 ?_
            refine hJ.iadd (pc := 53) dX12_readAny_53 ?_
            refine hJ.pIM (pc := 54) dX12_readAny_54 fp_X12_217 ?_
            refine hJ.iload_n (pc := 57) dX12_readAny_57 rfl ?_
            refine hJ.if_ne (pc := 58) 65 dX12_readAny_58 (by decide) (fun h0 => absurd h28 h0) (fun _ => ?_)
            refine hJ.iload_n (pc := 61) dX12_readAny_61 rfl ?_
            refine hJ.iconst (pc := 62) 1 dX12_readAny_62 ic_1 ?_
            refine hJ.iadd (pc := 63) dX12_readAny_63 ?_
            refine hJ.istore_n (pc := 64) [some (vr 12 0), some (vi (x1 + 1)), some (vi x2), some (vi (fX12_isWord 4 S))] dX12_readAny_64 (by decide) rfl ?_
            refine hJ.aload_n (pc := 65) dX12_readAny_65 rfl ?_
            refine hJ.iload_n (pc := 66) dX12_readAny_66 rfl ?_
            refine hJ.if_eq (pc := 67) 75 dX12_readAny_67 (by decide) (fun _ => ?_) (fun h0 => absurd h28 h0)
            refine hJ.bipush (pc := 75) 12 dX12_readAny_75 bc_12 ?_
            obtain ⟨S38, h37, hF⟩ := bn_some hF
            refine hJ.cV (pc := 77) [vi 12] [] [] dX12_readAny_77 lk_X12_223 (ctX12_waits 12 _ _ _ h37) rfl rfl rfl rfl ?_
            refine hJ.aload_n (pc := 80) dX12_readAny_80 rfl ?_
            obtain ⟨S40, h39, hF⟩ := bn_some hF
            refine hJ.cV (pc := 81) [] [] [] dX12_readAny_81 lk_X12_198 (ctX12_reads _ _ _ h39) rfl rfl rfl rfl ?_
            refine hJ.goto (pc := 84) 9 dX12_readAny_84 (by decide) ?_
            refine hJ.weak [some (vr 12 0), some (vi (x1 + 1)), some (vi x2), none] ⟨rfl, rfl, rfl, trivial⟩ ?_
            exact ih (x1 + 1) x2 S40 hF
          · rw [if_pos h36] at hF
            refine hJ.aload_n (pc := 41) dX12_readAny_41 rfl ?_
            refine hJ.iconst (pc := 42) 3 dX12_readAny_42 ic_3 ?_
            refine hJ.cV (pc := 43) [vi 3] [] [vi (fX12_errs 3 S).1] dX12_readAny_43 lk_X12_191 (ctX12_errs 3 _ _ (fX12_errs 3 S).1 (fX12_errs 3 S).2 rfl) rfl rfl rfl rfl ?_
            cases hF
            exact hR.i (pc := 46) dX12_readAny_46
set_option maxRecDepth 100000 in
set_option maxHeartbeats 4000000 in
theorem ctX12_readAny (Sc S : Mem) (r : Int32) (S' : Mem) (hF : fX12_readAny S = some (r, S')) : Ct yX12_readAny cX12_readAny 4 (some .int) 7 149 0 0 [vr 12 0] wl0 L0 Sc S (some (vi r)) wl0 L0 Sc S' := by
  refine Ct.of RX12 false (by decide) rfl (fun h => by cases h) (Nat.le_of_ble_eq_true rfl) (fun J hJ hR => ?_)
  rw [fX12_readAny] at hF
  show J 0 [some (vr 12 0), none, none, none] [] wl0 L0 0 0 Sc S
  refine hJ.iconst (pc := 0) 0 dX12_readAny_0 ic_0 ?_
  refine hJ.istore_n (pc := 1) [some (vr 12 0), some (vi 0), none, none] dX12_readAny_1 (by decide) rfl ?_
  refine hJ.aload_n (pc := 2) dX12_readAny_2 rfl ?_
  refine hJ.iconst (pc := 3) 0 dX12_readAny_3 ic_0 ?_
  refine hJ.pIM (pc := 4) dX12_readAny_4 fp_X12_214 ?_
  refine hJ.iconst (pc := 7) 1 dX12_readAny_7 ic_1 ?_
  refine hJ.istore_n (pc := 8) [some (vr 12 0), some (vi 0), some (vi 1), none] dX12_readAny_8 (by decide) rfl ?_
  exact wX12_readAny_9 hJ hR 5000 0 1 (up S 12 0 36 0) hF
set_option maxRecDepth 100000 in
set_option maxHeartbeats 4000000 in
theorem wX12_readText_2 {J : Nat → Lv → List AV → Obs → Lay → Nat → Nat → Mem → Mem → Prop} (hJ : Cl RX12 cX12_readText 3 8 172 0 0 none false J) {r : Int32} {Sc S' : Mem} (hR : Rk cX12_readText (some .int) (some (vi r)) wl0 L0 0 0 Sc S' J) : ∀ (n : Nat) (x1 : Int32) (S : Mem), fX12_readText_2 n x1 S = some (r, S') → J 2 [some (vr 12 0), some (vi x1), none] [] wl0 L0 0 0 Sc S := by
  intro n
  induction n with
  | zero =>
    intro x1 S hF
    rw [fX12_readText_2] at hF
    cases hF
  | succ n ih =>
    intro x1 S hF
    rw [fX12_readText_2] at hF
    refine hJ.aload_n (pc := 2) dX12_readText_2 rfl ?_
    refine hJ.iconst (pc := 3) 0 dX12_readText_3 ic_0 ?_
    refine hJ.cV (pc := 4) [vi 0] [] [vi (fX12_isWord 0 S)] dX12_readText_4 lk_X12_220 (ctX12_isWord 0 _ _ (fX12_isWord 0 S) rfl) rfl rfl rfl rfl ?_
    refine hJ.if_eq (pc := 7) 119 dX12_readText_7 (by decide) (fun h1 => ?_) (fun h1 => ?_)
    · rw [if_pos h1] at hF
      refine hJ.aload_n (pc := 119) dX12_readText_119 rfl ?_
      refine hJ.gM (pc := 120) dX12_readText_120 fi_X12_163 ?_
      refine hJ.if_ne (pc := 123) 130 dX12_readText_123 (by decide) (fun h2 => ?_) (fun h2 => ?_)
      · rw [if_neg h2] at hF
        refine hJ.aload_n (pc := 130) dX12_readText_130 rfl ?_
        refine hJ.iconst (pc := 131) 1 dX12_readText_131 ic_1 ?_
        refine hJ.cV (pc := 132) [vi 1] [] [vi (fX12_errs 1 S).1] dX12_readText_132 lk_X12_191 (ctX12_errs 1 _ _ (fX12_errs 1 S).1 (fX12_errs 1 S).2 rfl) rfl rfl rfl rfl ?_
        cases hF
        exact hR.i (pc := 135) dX12_readText_135
      · rw [if_pos h2] at hF
        refine hJ.iload_n (pc := 126) dX12_readText_126 rfl ?_
        refine hJ.goto (pc := 127) 135 dX12_readText_127 (by decide) ?_
        cases hF
        exact hR.i (pc := 135) dX12_readText_135
    · rw [if_neg h1] at hF
      refine hJ.iload_n (pc := 10) dX12_readText_10 rfl ?_
      refine hJ.bipush (pc := 11) 16 dX12_readText_11 bc_16 ?_
      refine hJ.icmp_ne (pc := 13) 22 dX12_readText_13 (by decide) (fun h3 => ?_) (fun h3 => ?_)
      · rw [if_neg h3] at hF
        refine hJ.bipush (pc := 22) 16 dX12_readText_22 bc_16 ?_
        refine hJ.iload_n (pc := 24) dX12_readText_24 rfl ?_
        refine hJ.iadd (pc := 25) dX12_readText_25 ?_
        refine hJ.istore_n (pc := 26) [some (vr 12 0), some (vi x1), some (vi (16 + x1))] dX12_readText_26 (by decide) rfl ?_
        refine hJ.aload_n (pc := 27) dX12_readText_27 rfl ?_
        obtain ⟨S5, h4, hF⟩ := bn_some hF
        refine hJ.cV (pc := 28) [] [] [] dX12_readText_28 lk_X12_198 (ctX12_reads _ _ _ h4) rfl rfl rfl rfl ?_
        refine hJ.aload_n (pc := 31) dX12_readText_31 rfl ?_
        refine hJ.gR (pc := 32) (k' := 76) (i' := 0) dX12_readText_32 fr_X12_58 rfl ?_
        refine hJ.iload_n (pc := 35) dX12_readText_35 rfl ?_
        refine hJ.aload_n (pc := 36) dX12_readText_36 rfl ?_
        refine hJ.gM (pc := 37) dX12_readText_37 fi_X12_188 ?_
        obtain ⟨j6, h7, hF⟩ := bn_some hF
        refine hJ.siastM (pc := 40) dX12_readText_40 al_76 h7 ?_
        refine hJ.aload_n (pc := 41) dX12_readText_41 rfl ?_
        obtain ⟨r10, S9, h8, hF⟩ := bd_some hF
        refine hJ.cV (pc := 42) [] [] [vi r10] dX12_readText_42 lk_X12_211 (ctX12_readSum _ _ _ _ h8) rfl rfl rfl rfl ?_
        refine hJ.iconst (pc := 45) (-1) dX12_readText_45 ic_m1 ?_
        refine hJ.icmp_ne (pc := 46) 51 dX12_readText_46 (by decide) (fun h11 => ?_) (fun h11 => ?_)
        · rw [if_neg h11] at hF
          refine hJ.aload_n (pc := 51) dX12_readText_51 rfl ?_
          refine hJ.gR (pc := 52) (k' := 75) (i' := 0) dX12_readText_52 fr_X12_55 rfl ?_
          refine hJ.iload_n (pc := 55) dX12_readText_55 rfl ?_
          refine hJ.aload_n (pc := 56) dX12_readText_56 rfl ?_
          refine hJ.gM (pc := 57) dX12_readText_57 fi_X12_188 ?_
          refine hJ.siastM (pc := 60) dX12_readText_60 al_75 h7 ?_
          refine hJ.aload_n (pc := 61) dX12_readText_61 rfl ?_
          refine hJ.iconst (pc := 62) 1 dX12_readText_62 ic_1 ?_
          refine hJ.cV (pc := 63) [vi 1] [] [vi (fX12_isWord 1 (up S9 75 0 j6 (S9 12 0 33)))] dX12_readText_63 lk_X12_220 (ctX12_isWord 1 _ _ (fX12_isWord 1 (up S9 75 0 j6 (S9 12 0 33))) rfl) rfl rfl rfl rfl ?_
          refine hJ.if_eq (pc := 66) 83 dX12_readText_66 (by decide) (fun h12 => ?_) (fun h12 => ?_)
          · rw [if_pos h12] at hF
            refine hJ.aload_n (pc := 83) dX12_readText_83 rfl ?_
            refine hJ.gR (pc := 84) (k' := 77) (i' := 0) dX12_readText_84 fr_X12_61 rfl ?_
            refine hJ.iload_n (pc := 87) dX12_readText_87 rfl ?_
            refine hJ.aload_n (pc := 88) dX12_readText_88 rfl ?_
            refine hJ.gM (pc := 89) dX12_readText_89 fi_X12_188 ?_
            refine hJ.siastM (pc := 92) dX12_readText_92 al_77 h7 ?_
            refine hJ.aload_n (pc := 93) dX12_readText_93 rfl ?_
            refine hJ.bipush (pc := 94) 59 dX12_readText_94 bc_59 ?_
            refine hJ.cV (pc := 96) [vi 59] [] [vi (fX12_isSign 59 (up (up S9 75 0 j6 (S9 12 0 33)) 77 0 j6 ((up S9 75 0 j6 (S9 12 0 33)) 12 0 33)))] dX12_readText_96 lk_X12_205 (ctX12_isSign 59 _ _ (fX12_isSign 59 (up (up S9 75 0 j6 (S9 12 0 33)) 77 0 j6 ((up S9 75 0 j6 (S9 12 0 33)) 12 0 33))) rfl) rfl rfl rfl rfl ?_
            refine hJ.if_ne (pc := 99) 108 dX12_readText_99 (by decide) (fun h13 => ?_) (fun h13 => ?_)
            · rw [if_neg h13] at hF
              refine hJ.aload_n (pc := 108) dX12_readText_108 rfl ?_
              obtain ⟨S15, h14, hF⟩ := bn_some hF
              refine hJ.cV (pc := 109) [] [] [] dX12_readText_109 lk_X12_198 (ctX12_reads _ _ _ h14) rfl rfl rfl rfl ?_
              refine hJ.iload_n (pc := 112) dX12_readText_112 rfl ?_
              refine hJ.iconst (pc := 113) 1 dX12_readText_113 ic_1 ?_
              refine hJ.iadd (pc := 114) dX12_readText_114 ?_
              refine hJ.istore_n (pc := 115) [some (vr 12 0), some (vi (x1 + 1)), some (vi (16 + x1))] dX12_readText_115 (by decide) rfl ?_
              refine hJ.goto (pc := 116) 2 dX12_readText_116 (by decide) ?_
              refine hJ.weak [some (vr 12 0), some (vi (x1 + 1)), none] ⟨rfl, rfl, trivial⟩ ?_
              exact ih (x1 + 1) S15 hF
            · rw [if_pos h13] at hF
              refine hJ.aload_n (pc := 102) dX12_readText_102 rfl ?_
              refine hJ.iconst (pc := 103) 1 dX12_readText_103 ic_1 ?_
              refine hJ.cV (pc := 104) [vi 1] [] [vi (fX12_errs 1 (up (up S9 75 0 j6 (S9 12 0 33)) 77 0 j6 ((up S9 75 0 j6 (S9 12 0 33)) 12 0 33))).1] dX12_readText_104 lk_X12_191 (ctX12_errs 1 _ _ (fX12_errs 1 (up (up S9 75 0 j6 (S9 12 0 33)) 77 0 j6 ((up S9 75 0 j6 (S9 12 0 33)) 12 0 33))).1 (fX12_errs 1 (up (up S9 75 0 j6 (S9 12 0 33)) 77 0 j6 ((up S9 75 0 j6 (S9 12 0 33)) 12 0 33))).2 rfl) rfl rfl rfl rfl ?_
              cases hF
              exact hR.i (pc := 107) dX12_readText_107
          · rw [if_neg h12] at hF
            refine hJ.aload_n (pc := 69) dX12_readText_69 rfl ?_
            obtain ⟨S17, h16, hF⟩ := bn_some hF
            refine hJ.cV (pc := 70) [] [] [] dX12_readText_70 lk_X12_198 (ctX12_reads _ _ _ h16) rfl rfl rfl rfl ?_
            refine hJ.aload_n (pc := 73) dX12_readText_73 rfl ?_
            obtain ⟨r20, S19, h18, hF⟩ := bd_some hF
            refine hJ.cV (pc := 74) [] [] [vi r20] dX12_readText_74 lk_X12_232 (ctX12_readAny _ _ _ _ h18) rfl rfl rfl rfl ?_
            refine hJ.iconst (pc := 77) (-1) dX12_readText_77 ic_m1 ?_
            refine hJ.icmp_ne (pc := 78) 83 dX12_readText_78 (by decide) (fun h21 => ?_) (fun h21 => ?_)
            · rw [if_neg h21] at hF
              refine hJ.aload_n (pc := 83) dX12_readText_83 rfl ?_
              refine hJ.gR (pc := 84) (k' := 77) (i' := 0) dX12_readText_84 fr_X12_61 rfl ?_
              refine hJ.iload_n (pc := 87) dX12_readText_87 rfl ?_
              refine hJ.aload_n (pc := 88) dX12_readText_88 rfl ?_
              refine hJ.gM (pc := 89) dX12_readText_89 fi_X12_188 ?_
              refine hJ.siastM (pc := 92) dX12_readText_92 al_77 h7 ?_
              refine hJ.aload_n (pc := 93) dX12_readText_93 rfl ?_
              refine hJ.bipush (pc := 94) 59 dX12_readText_94 bc_59 ?_
              refine hJ.cV (pc := 96) [vi 59] [] [vi (fX12_isSign 59 (up S19 77 0 j6 (S19 12 0 33)))] dX12_readText_96 lk_X12_205 (ctX12_isSign 59 _ _ (fX12_isSign 59 (up S19 77 0 j6 (S19 12 0 33))) rfl) rfl rfl rfl rfl ?_
              refine hJ.if_ne (pc := 99) 108 dX12_readText_99 (by decide) (fun h22 => ?_) (fun h22 => ?_)
              · rw [if_neg h22] at hF
                refine hJ.aload_n (pc := 108) dX12_readText_108 rfl ?_
                obtain ⟨S24, h23, hF⟩ := bn_some hF
                refine hJ.cV (pc := 109) [] [] [] dX12_readText_109 lk_X12_198 (ctX12_reads _ _ _ h23) rfl rfl rfl rfl ?_
                refine hJ.iload_n (pc := 112) dX12_readText_112 rfl ?_
                refine hJ.iconst (pc := 113) 1 dX12_readText_113 ic_1 ?_
                refine hJ.iadd (pc := 114) dX12_readText_114 ?_
                refine hJ.istore_n (pc := 115) [some (vr 12 0), some (vi (x1 + 1)), some (vi (16 + x1))] dX12_readText_115 (by decide) rfl ?_
                refine hJ.goto (pc := 116) 2 dX12_readText_116 (by decide) ?_
                refine hJ.weak [some (vr 12 0), some (vi (x1 + 1)), none] ⟨rfl, rfl, trivial⟩ ?_
                exact ih (x1 + 1) S24 hF
              · rw [if_pos h22] at hF
                refine hJ.aload_n (pc := 102) dX12_readText_102 rfl ?_
                refine hJ.iconst (pc := 103) 1 dX12_readText_103 ic_1 ?_
                refine hJ.cV (pc := 104) [vi 1] [] [vi (fX12_errs 1 (up S19 77 0 j6 (S19 12 0 33))).1] dX12_readText_104 lk_X12_191 (ctX12_errs 1 _ _ (fX12_errs 1 (up S19 77 0 j6 (S19 12 0 33))).1 (fX12_errs 1 (up S19 77 0 j6 (S19 12 0 33))).2 rfl) rfl rfl rfl rfl ?_
                cases hF
                exact hR.i (pc := 107) dX12_readText_107
            · rw [if_pos h21] at hF
              refine hJ.iconst (pc := 81) (-1) dX12_readText_81 ic_m1 ?_
              cases hF
              exact hR.i (pc := 82) dX12_readText_82
        · rw [if_pos h11] at hF
          refine hJ.iconst (pc := 49) (-1) dX12_readText_49 ic_m1 ?_
          cases hF
          exact hR.i (pc := 50) dX12_readText_50
      · rw [if_pos h3] at hF
        refine hJ.aload_n (pc := 16) dX12_readText_16 rfl ?_
        refine hJ.iconst (pc := 17) 3 dX12_readText_17 ic_3 ?_
        refine hJ.cV (pc := 18) [vi 3] [] [vi (fX12_errs 3 S).1] dX12_readText_18 lk_X12_191 (ctX12_errs 3 _ _ (fX12_errs 3 S).1 (fX12_errs 3 S).2 rfl) rfl rfl rfl rfl ?_
        cases hF
        exact hR.i (pc := 21) dX12_readText_21
set_option maxRecDepth 100000 in
set_option maxHeartbeats 4000000 in
theorem ctX12_readText (Sc S : Mem) (r : Int32) (S' : Mem) (hF : fX12_readText S = some (r, S')) : Ct yX12_readText cX12_readText 3 (some .int) 8 172 0 0 [vr 12 0] wl0 L0 Sc S (some (vi r)) wl0 L0 Sc S' := by
  refine Ct.of RX12 false (by decide) rfl (fun h => by cases h) (Nat.le_of_ble_eq_true rfl) (fun J hJ hR => ?_)
  rw [fX12_readText] at hF
  show J 0 [some (vr 12 0), none, none] [] wl0 L0 0 0 Sc S
  refine hJ.iconst (pc := 0) 0 dX12_readText_0 ic_0 ?_
  refine hJ.istore_n (pc := 1) [some (vr 12 0), some (vi 0), none] dX12_readText_1 (by decide) rfl ?_
  exact wX12_readText_2 hJ hR 5000 0 S hF
set_option maxRecDepth 100000 in
set_option maxHeartbeats 4000000 in
theorem wX12_text_127 {J : Nat → Lv → List AV → Obs → Lay → Nat → Nat → Mem → Mem → Prop} (hJ : Cl RX12 cX12_text 3 9 194 0 0 none false J) {r : Int32} {Sc S' : Mem} (hR : Rk cX12_text (some .int) (some (vi r)) wl0 L0 0 0 Sc S' J) : ∀ (n : Nat) (x1 : Int32) (x2 : Int32) (S : Mem), fX12_text_127 n x1 x2 S = some (r, S') → J 127 [some (vr 12 0), some (vi x1), some (vi x2)] [] wl0 L0 0 0 Sc S := by
  intro n
  induction n with
  | zero =>
    intro x1 x2 S hF
    rw [fX12_text_127] at hF
    cases hF
  | succ n ih =>
    intro x1 x2 S hF
    rw [fX12_text_127] at hF
    refine hJ.iload_n (pc := 127) dX12_text_127 rfl ?_
    refine hJ.aload_n (pc := 128) dX12_text_128 rfl ?_
    refine hJ.gM (pc := 129) dX12_text_129 fi_X12_188 ?_
    refine hJ.icmp_ge (pc := 132) 173 dX12_text_132 (by decide) (fun h8 => ?_) (fun h8 => ?_)
    · rw [if_pos h8] at hF
      refine hJ.aload_n (pc := 173) dX12_text_173 rfl ?_
      refine hJ.iload_n (pc := 174) dX12_text_174 rfl ?_
      refine hJ.pIM (pc := 175) dX12_text_175 fp_X12_241 ?_
      refine hJ.iload_n (pc := 178) dX12_text_178 rfl ?_
      cases hF
      exact hR.i (pc := 179) dX12_text_179
    · rw [if_neg h8] at hF
      refine hJ.aload_n (pc := 135) dX12_text_135 rfl ?_
      refine hJ.gR (pc := 136) (k' := 78) (i' := 0) dX12_text_136 fr_X12_64 rfl ?_
      refine hJ.iload_n (pc := 139) dX12_text_139 rfl ?_
      refine hJ.aload_n (pc := 140) dX12_text_140 rfl ?_
      refine hJ.gR (pc := 141) (k' := 78) (i' := 0) dX12_text_141 fr_X12_64 rfl ?_
      refine hJ.sipush (pc := 144) 400 dX12_text_144 sc_400 ?_
      refine hJ.iload_n (pc := 147) dX12_text_147 rfl ?_
      refine hJ.iadd (pc := 148) dX12_text_148 ?_
      obtain ⟨j9, h10, hF⟩ := bn_some hF
      refine hJ.lialdM (pc := 149) dX12_text_149 al_78 h10 ?_
      obtain ⟨j11, h12, hF⟩ := bn_some hF
      refine hJ.siastM (pc := 150) dX12_text_150 al_78 h12 ?_
      refine hJ.aload_n (pc := 151) dX12_text_151 rfl ?_
      refine hJ.gR (pc := 152) (k' := 79) (i' := 0) dX12_text_152 fr_X12_67 rfl ?_
      refine hJ.iload_n (pc := 155) dX12_text_155 rfl ?_
      refine hJ.aload_n (pc := 156) dX12_text_156 rfl ?_
      refine hJ.gR (pc := 157) (k' := 79) (i' := 0) dX12_text_157 fr_X12_67 rfl ?_
      refine hJ.sipush (pc := 160) 400 dX12_text_160 sc_400 ?_
      refine hJ.iload_n (pc := 163) dX12_text_163 rfl ?_
      refine hJ.iadd (pc := 164) dX12_text_164 ?_
      refine hJ.lialdM (pc := 165) dX12_text_165 al_79 h10 ?_
      refine hJ.siastM (pc := 166) dX12_text_166 al_79 h12 ?_
      refine hJ.iinc (pc := 167) (x2 + 1) [some (vr 12 0), some (vi x1), some (vi (x2 + 1))] dX12_text_167 (by decide) rfl (congrArg (fun z => x2 + z) ic_1) rfl ?_
      refine hJ.goto (pc := 170) 127 dX12_text_170 (by decide) ?_
      exact ih x1 (x2 + 1) (up (up S 78 0 j11 (S 78 0 j9)) 79 0 j11 ((up S 78 0 j11 (S 78 0 j9)) 79 0 j9)) hF
set_option maxRecDepth 100000 in
set_option maxHeartbeats 4000000 in
theorem wX12_text_69 {J : Nat → Lv → List AV → Obs → Lay → Nat → Nat → Mem → Mem → Prop} (hJ : Cl RX12 cX12_text 3 9 194 0 0 none false J) {r : Int32} {Sc S' : Mem} (hR : Rk cX12_text (some .int) (some (vi r)) wl0 L0 0 0 Sc S' J) : ∀ (n : Nat) (x1 : Int32) (x2 : Int32) (S : Mem), fX12_text_69 n x1 x2 S = some (r, S') → J 69 [some (vr 12 0), some (vi x1), some (vi x2)] [] wl0 L0 0 0 Sc S := by
  intro n
  induction n with
  | zero =>
    intro x1 x2 S hF
    rw [fX12_text_69] at hF
    cases hF
  | succ n ih =>
    intro x1 x2 S hF
    rw [fX12_text_69] at hF
    refine hJ.iload_n (pc := 69) dX12_text_69 rfl ?_
    refine hJ.iload_n (pc := 70) dX12_text_70 rfl ?_
    refine hJ.icmp_ge (pc := 71) 125 dX12_text_71 (by decide) (fun h7 => ?_) (fun h7 => ?_)
    · rw [if_pos h7] at hF
      refine hJ.iconst (pc := 125) 0 dX12_text_125 ic_0 ?_
      refine hJ.istore_n (pc := 126) [some (vr 12 0), some (vi x1), some (vi 0)] dX12_text_126 (by decide) rfl ?_
      exact wX12_text_127 hJ hR 5000 x1 0 S hF
    · rw [if_neg h7] at hF
      refine hJ.aload_n (pc := 74) dX12_text_74 rfl ?_
      refine hJ.gR (pc := 75) (k' := 75) (i' := 0) dX12_text_75 fr_X12_55 rfl ?_
      refine hJ.iload_n (pc := 78) dX12_text_78 rfl ?_
      refine hJ.aload_n (pc := 79) dX12_text_79 rfl ?_
      refine hJ.gR (pc := 80) (k' := 75) (i' := 0) dX12_text_80 fr_X12_55 rfl ?_
      refine hJ.bipush (pc := 83) 16 dX12_text_83 bc_16 ?_
      refine hJ.iload_n (pc := 85) dX12_text_85 rfl ?_
      refine hJ.iadd (pc := 86) dX12_text_86 ?_
      obtain ⟨j13, h14, hF⟩ := bn_some hF
      refine hJ.lialdM (pc := 87) dX12_text_87 al_75 h14 ?_
      obtain ⟨j15, h16, hF⟩ := bn_some hF
      refine hJ.siastM (pc := 88) dX12_text_88 al_75 h16 ?_
      refine hJ.aload_n (pc := 89) dX12_text_89 rfl ?_
      refine hJ.gR (pc := 90) (k' := 76) (i' := 0) dX12_text_90 fr_X12_58 rfl ?_
      refine hJ.iload_n (pc := 93) dX12_text_93 rfl ?_
      refine hJ.aload_n (pc := 94) dX12_text_94 rfl ?_
      refine hJ.gR (pc := 95) (k' := 76) (i' := 0) dX12_text_95 fr_X12_58 rfl ?_
      refine hJ.bipush (pc := 98) 16 dX12_text_98 bc_16 ?_
      refine hJ.iload_n (pc := 100) dX12_text_100 rfl ?_
      refine hJ.iadd (pc := 101) dX12_text_101 ?_
      refine hJ.lialdM (pc := 102) dX12_text_102 al_76 h14 ?_
      refine hJ.siastM (pc := 103) dX12_text_103 al_76 h16 ?_
      refine hJ.aload_n (pc := 104) dX12_text_104 rfl ?_
      refine hJ.gR (pc := 105) (k' := 77) (i' := 0) dX12_text_105 fr_X12_61 rfl ?_
      refine hJ.iload_n (pc := 108) dX12_text_108 rfl ?_
      refine hJ.aload_n (pc := 109) dX12_text_109 rfl ?_
      refine hJ.gR (pc := 110) (k' := 77) (i' := 0) dX12_text_110 fr_X12_61 rfl ?_
      refine hJ.bipush (pc := 113) 16 dX12_text_113 bc_16 ?_
      refine hJ.iload_n (pc := 115) dX12_text_115 rfl ?_
      refine hJ.iadd (pc := 116) dX12_text_116 ?_
      refine hJ.lialdM (pc := 117) dX12_text_117 al_77 h14 ?_
      refine hJ.siastM (pc := 118) dX12_text_118 al_77 h16 ?_
      refine hJ.iinc (pc := 119) (x2 + 1) [some (vr 12 0), some (vi x1), some (vi (x2 + 1))] dX12_text_119 (by decide) rfl (congrArg (fun z => x2 + z) ic_1) rfl ?_
      refine hJ.goto (pc := 122) 69 dX12_text_122 (by decide) ?_
      exact ih x1 (x2 + 1) (up (up (up S 75 0 j15 (S 75 0 j13)) 76 0 j15 ((up S 75 0 j15 (S 75 0 j13)) 76 0 j13)) 77 0 j15 ((up (up S 75 0 j15 (S 75 0 j13)) 76 0 j15 ((up S 75 0 j15 (S 75 0 j13)) 76 0 j13)) 77 0 j13)) hF
set_option maxRecDepth 100000 in
set_option maxHeartbeats 4000000 in
theorem ctX12_text (Sc S : Mem) (r : Int32) (S' : Mem) (hF : fX12_text S = some (r, S')) : Ct yX12_text cX12_text 3 (some .int) 9 194 0 0 [vr 12 0] wl0 L0 Sc S (some (vi r)) wl0 L0 Sc S' := by
  refine Ct.of RX12 false (by decide) rfl (fun h => by cases h) (Nat.le_of_ble_eq_true rfl) (fun J hJ hR => ?_)
  rw [fX12_text] at hF
  show J 0 [some (vr 12 0), none, none] [] wl0 L0 0 0 Sc S
  refine hJ.aload_n (pc := 0) dX12_text_0 rfl ?_
  refine hJ.iconst (pc := 1) 0 dX12_text_1 ic_0 ?_
  refine hJ.pIM (pc := 2) dX12_text_2 fp_X12_104 ?_
  refine hJ.aload_n (pc := 5) dX12_text_5 rfl ?_
  refine hJ.iconst (pc := 6) 0 dX12_text_6 ic_0 ?_
  refine hJ.pIM (pc := 7) dX12_text_7 fp_X12_235 ?_
  refine hJ.aload_n (pc := 10) dX12_text_10 rfl ?_
  refine hJ.iconst (pc := 11) (-1) dX12_text_11 ic_m1 ?_
  refine hJ.pIM (pc := 12) dX12_text_12 fp_X12_73 ?_
  refine hJ.aload_n (pc := 15) dX12_text_15 rfl ?_
  refine hJ.iconst (pc := 16) 0 dX12_text_16 ic_0 ?_
  refine hJ.pIM (pc := 17) dX12_text_17 fp_X12_153 ?_
  refine hJ.aload_n (pc := 20) dX12_text_20 rfl ?_
  refine hJ.iconst (pc := 21) 0 dX12_text_21 ic_0 ?_
  refine hJ.pIM (pc := 22) dX12_text_22 fp_X12_188 ?_
  refine hJ.aload_n (pc := 25) dX12_text_25 rfl ?_
  refine hJ.iconst (pc := 26) 0 dX12_text_26 ic_0 ?_
  refine hJ.pIM (pc := 27) dX12_text_27 fp_X12_217 ?_
  refine hJ.aload_n (pc := 30) dX12_text_30 rfl ?_
  obtain ⟨S2, h1, hF⟩ := bn_some hF
  refine hJ.cV (pc := 31) [] [] [] dX12_text_31 lk_X12_198 (ctX12_reads _ _ _ h1) rfl rfl rfl rfl ?_
  refine hJ.aload_n (pc := 34) dX12_text_34 rfl ?_
  obtain ⟨r5, S4, h3, hF⟩ := bd_some hF
  refine hJ.cV (pc := 35) [] [] [vi r5] dX12_text_35 lk_X12_238 (ctX12_readText _ _ _ _ h3) rfl rfl rfl rfl ?_
  refine hJ.istore_n (pc := 38) [some (vr 12 0), some (vi r5), none] dX12_text_38 (by decide) rfl ?_
  refine hJ.aload_n (pc := 39) dX12_text_39 rfl ?_
  refine hJ.iconst (pc := 40) 0 dX12_text_40 ic_0 ?_
  refine hJ.pIM (pc := 41) dX12_text_41 fp_X12_147 ?_
  refine hJ.iload_n (pc := 44) dX12_text_44 rfl ?_
  refine hJ.iconst (pc := 45) (-1) dX12_text_45 ic_m1 ?_
  refine hJ.icmp_ne (pc := 46) 67 dX12_text_46 (by decide) (fun h6 => ?_) (fun h6 => ?_)
  · rw [if_neg h6] at hF
    refine hJ.iconst (pc := 67) 0 dX12_text_67 ic_0 ?_
    refine hJ.istore_n (pc := 68) [some (vr 12 0), some (vi r5), some (vi 0)] dX12_text_68 (by decide) rfl ?_
    exact wX12_text_69 hJ hR 5000 r5 0 (up S4 12 0 21 0) hF
  · rw [if_pos h6] at hF
    refine hJ.aload_n (pc := 49) dX12_text_49 rfl ?_
    refine hJ.aload_n (pc := 50) dX12_text_50 rfl ?_
    refine hJ.gM (pc := 51) dX12_text_51 fi_X12_182 ?_
    refine hJ.pIM (pc := 54) dX12_text_54 fp_X12_235 ?_
    refine hJ.aload_n (pc := 57) dX12_text_57 rfl ?_
    refine hJ.aload_n (pc := 58) dX12_text_58 rfl ?_
    refine hJ.gM (pc := 59) dX12_text_59 fi_X12_185 ?_
    refine hJ.pIM (pc := 62) dX12_text_62 fp_X12_73 ?_
    refine hJ.iconst (pc := 65) (-1) dX12_text_65 ic_m1 ?_
    cases hF
    exact hR.i (pc := 66) dX12_text_66
set_option maxRecDepth 100000 in
set_option maxHeartbeats 4000000 in
theorem ctX12_fault (p0 : Int32) (Sc S : Mem) (r : Int32) (S' : Mem) (hF : fX12_fault p0 S = (r, S')) : Ct yX12_fault cX12_fault 2 (some .int) 0 0 0 0 [vr 12 0, vi p0] wl0 L0 Sc S (some (vi r)) wl0 L0 Sc S' := by
  refine Ct.of RX12 false (by decide) rfl (fun h => by cases h) (Nat.le_of_ble_eq_true rfl) (fun J hJ hR => ?_)
  rw [fX12_fault] at hF
  show J 0 [some (vr 12 0), some (vi p0)] [] wl0 L0 0 0 Sc S
  refine hJ.aload_n (pc := 0) dX12_fault_0 rfl ?_
  refine hJ.iconst (pc := 1) 0 dX12_fault_1 ic_0 ?_
  refine hJ.pIM (pc := 2) dX12_fault_2 fp_X12_104 ?_
  refine hJ.iload_n (pc := 5) dX12_fault_5 rfl ?_
  refine hJ.if_ne (pc := 6) 16 dX12_fault_6 (by decide) (fun h1 => ?_) (fun h1 => ?_)
  · rw [if_neg h1] at hF
    refine hJ.iload_n (pc := 16) dX12_fault_16 rfl ?_
    refine hJ.iconst (pc := 17) 1 dX12_fault_17 ic_1 ?_
    refine hJ.icmp_ne (pc := 18) 28 dX12_fault_18 (by decide) (fun h2 => ?_) (fun h2 => ?_)
    · rw [if_neg h2] at hF
      refine hJ.iconst (pc := 28) (-1) dX12_fault_28 ic_m1 ?_
      cases hF
      exact hR.i (pc := 29) dX12_fault_29
    · rw [if_pos h2] at hF
      refine hJ.aload_n (pc := 21) dX12_fault_21 rfl ?_
      refine hJ.gM (pc := 22) dX12_fault_22 fi_X12_73 ?_
      refine hJ.goto (pc := 25) 29 dX12_fault_25 (by decide) ?_
      cases hF
      exact hR.i (pc := 29) dX12_fault_29
  · rw [if_pos h1] at hF
    refine hJ.aload_n (pc := 9) dX12_fault_9 rfl ?_
    refine hJ.gM (pc := 10) dX12_fault_10 fi_X12_235 ?_
    refine hJ.goto (pc := 13) 29 dX12_fault_13 (by decide) ?_
    cases hF
    exact hR.i (pc := 29) dX12_fault_29
set_option maxRecDepth 100000 in
set_option maxHeartbeats 4000000 in
theorem ctX12_age (p0 : Int32) (p1 : Int32) (Sc S : Mem) (r : Int32) (S' : Mem) (hF : fX12_age p0 p1 S = some (r, S')) : Ct yX12_age cX12_age 3 (some .int) 4 94 0 0 [vr 12 0, vi p0, vi p1] wl0 L0 Sc S (some (vi r)) wl0 L0 Sc S' := by
  refine Ct.of RX12 false (by decide) rfl (fun h => by cases h) (Nat.le_of_ble_eq_true rfl) (fun J hJ hR => ?_)
  rw [fX12_age] at hF
  show J 0 [some (vr 12 0), some (vi p0), some (vi p1)] [] wl0 L0 0 0 Sc S
  refine hJ.aload_n (pc := 0) dX12_age_0 rfl ?_
  refine hJ.iconst (pc := 1) 0 dX12_age_1 ic_0 ?_
  refine hJ.pIM (pc := 2) dX12_age_2 fp_X12_104 ?_
  refine hJ.aload_n (pc := 5) dX12_age_5 rfl ?_
  refine hJ.iload_n (pc := 6) dX12_age_6 rfl ?_
  refine hJ.cV (pc := 7) [vi p0] [] [vi (fX12_isPaper p0 (up S 12 0 0 0))] dX12_age_7 lk_X12_140 (ctX12_isPaper p0 _ _ (fX12_isPaper p0 (up S 12 0 0 0)) rfl) rfl rfl rfl rfl ?_
  refine hJ.if_eq (pc := 10) 38 dX12_age_10 (by decide) (fun h1 => ?_) (fun h1 => ?_)
  · rw [if_pos h1] at hF
    refine hJ.iconst (pc := 38) (-1) dX12_age_38 ic_m1 ?_
    cases hF
    exact hR.i (pc := 39) dX12_age_39
  · rw [if_neg h1] at hF
    refine hJ.aload_n (pc := 13) dX12_age_13 rfl ?_
    refine hJ.iload_n (pc := 14) dX12_age_14 rfl ?_
    refine hJ.aload_n (pc := 15) dX12_age_15 rfl ?_
    refine hJ.gM (pc := 16) dX12_age_16 fi_X12_127 ?_
    refine hJ.sipush (pc := 19) 9999 dX12_age_19 sc_9999 ?_
    refine hJ.cV (pc := 22) [vi p1, vi ((up S 12 0 0 0) 12 0 2), vi 9999] [] [vi (fX12_isIn p1 ((up S 12 0 0 0) 12 0 2) 9999)] dX12_age_22 lk_X12_116 (ctX12_isIn p1 ((up S 12 0 0 0) 12 0 2) 9999 _ _ (fX12_isIn p1 ((up S 12 0 0 0) 12 0 2) 9999) rfl) rfl rfl rfl rfl ?_
    refine hJ.if_eq (pc := 25) 38 dX12_age_25 (by decide) (fun h2 => ?_) (fun h2 => ?_)
    · rw [if_pos h2] at hF
      refine hJ.iconst (pc := 38) (-1) dX12_age_38 ic_m1 ?_
      cases hF
      exact hR.i (pc := 39) dX12_age_39
    · rw [if_neg h2] at hF
      refine hJ.aload_n (pc := 28) dX12_age_28 rfl ?_
      refine hJ.iload_n (pc := 29) dX12_age_29 rfl ?_
      refine hJ.iload_n (pc := 30) dX12_age_30 rfl ?_
      refine hJ.iload_n (pc := 31) dX12_age_31 rfl ?_
      obtain ⟨r5, S4, h3, hF⟩ := bd_some hF
      refine hJ.cV (pc := 32) [vi p0, vi p0, vi p1] [] [vi r5] dX12_age_32 lk_X12_257 (ctX12_ageOf p0 p0 p1 _ _ _ _ h3) rfl rfl rfl rfl ?_
      refine hJ.goto (pc := 35) 39 dX12_age_35 (by decide) ?_
      cases hF
      exact hR.i (pc := 39) dX12_age_39
set_option maxRecDepth 100000 in
set_option maxHeartbeats 4000000 in
theorem wX12_staysFor_13 {J : Nat → Lv → List AV → Obs → Lay → Nat → Nat → Mem → Mem → Prop} (hJ : Cl RX12 cX12_staysFor 4 4 94 0 0 none false J) {r : Int32} {Sc S' : Mem} (hR : Rk cX12_staysFor (some .int) (some (vi r)) wl0 L0 0 0 Sc S' J) : ∀ (n : Nat) (x1 : Int32) (x2 : Int32) (x3 : Int32) (S : Mem), fX12_staysFor_13 n x1 x2 x3 S = some (r, S') → J 13 [some (vr 12 0), some (vi x1), some (vi x2), some (vi x3)] [] wl0 L0 0 0 Sc S := by
  intro n
  induction n with
  | zero =>
    intro x1 x2 x3 S hF
    rw [fX12_staysFor_13] at hF
    cases hF
  | succ n ih =>
    intro x1 x2 x3 S hF
    rw [fX12_staysFor_13] at hF
    refine hJ.iload_n (pc := 13) dX12_staysFor_13 rfl ?_
    refine hJ.sipush (pc := 14) 400 dX12_staysFor_14 sc_400 ?_
    refine hJ.icmp_ge (pc := 17) 43 dX12_staysFor_17 (by decide) (fun h4 => ?_) (fun h4 => ?_)
    · rw [if_pos h4] at hF
      refine hJ.iload_n (pc := 43) dX12_staysFor_43 rfl ?_
      cases hF
      exact hR.i (pc := 44) dX12_staysFor_44
    · rw [if_neg h4] at hF
      refine hJ.aload_n (pc := 20) dX12_staysFor_20 rfl ?_
      refine hJ.iload_n (pc := 21) dX12_staysFor_21 rfl ?_
      refine hJ.iload_n (pc := 22) dX12_staysFor_22 rfl ?_
      refine hJ.aload_n (pc := 23) dX12_staysFor_23 rfl ?_
      refine hJ.gM (pc := 24) dX12_staysFor_24 fi_X12_127 ?_
      refine hJ.iload_n (pc := 27) dX12_staysFor_27 rfl ?_
      refine hJ.iadd (pc := 28) dX12_staysFor_28 ?_
      obtain ⟨r7, S6, h5, hF⟩ := bd_some hF
      refine hJ.cV (pc := 29) [vi x1, vi x1, vi ((S 12 0 2) + x3)] [] [vi r7] dX12_staysFor_29 lk_X12_257 (ctX12_ageOf x1 x1 ((S 12 0 2) + x3) _ _ _ _ h5) rfl rfl rfl rfl ?_
      refine hJ.iload_n (pc := 32) dX12_staysFor_32 rfl ?_
      refine hJ.icmp_ne (pc := 33) 43 dX12_staysFor_33 (by decide) (fun h8 => ?_) (fun h8 => ?_)
      · rw [if_neg h8] at hF
        refine hJ.iload_n (pc := 43) dX12_staysFor_43 rfl ?_
        cases hF
        exact hR.i (pc := 44) dX12_staysFor_44
      · rw [if_pos h8] at hF
        refine hJ.iload_n (pc := 36) dX12_staysFor_36 rfl ?_
        refine hJ.iconst (pc := 37) 1 dX12_staysFor_37 ic_1 ?_
        refine hJ.iadd (pc := 38) dX12_staysFor_38 ?_
        refine hJ.istore_n (pc := 39) [some (vr 12 0), some (vi x1), some (vi x2), some (vi (x3 + 1))] dX12_staysFor_39 (by decide) rfl ?_
        refine hJ.goto (pc := 40) 13 dX12_staysFor_40 (by decide) ?_
        exact ih x1 x2 (x3 + 1) S6 hF
set_option maxRecDepth 100000 in
set_option maxHeartbeats 4000000 in
theorem ctX12_staysFor (p0 : Int32) (Sc S : Mem) (r : Int32) (S' : Mem) (hF : fX12_staysFor p0 S = some (r, S')) : Ct yX12_staysFor cX12_staysFor 4 (some .int) 4 94 0 0 [vr 12 0, vi p0] wl0 L0 Sc S (some (vi r)) wl0 L0 Sc S' := by
  refine Ct.of RX12 false (by decide) rfl (fun h => by cases h) (Nat.le_of_ble_eq_true rfl) (fun J hJ hR => ?_)
  rw [fX12_staysFor] at hF
  show J 0 [some (vr 12 0), some (vi p0), none, none] [] wl0 L0 0 0 Sc S
  refine hJ.aload_n (pc := 0) dX12_staysFor_0 rfl ?_
  refine hJ.iload_n (pc := 1) dX12_staysFor_1 rfl ?_
  refine hJ.iload_n (pc := 2) dX12_staysFor_2 rfl ?_
  refine hJ.aload_n (pc := 3) dX12_staysFor_3 rfl ?_
  refine hJ.gM (pc := 4) dX12_staysFor_4 fi_X12_127 ?_
  obtain ⟨r3, S2, h1, hF⟩ := bd_some hF
  refine hJ.cV (pc := 7) [vi p0, vi p0, vi (S 12 0 2)] [] [vi r3] dX12_staysFor_7 lk_X12_257 (ctX12_ageOf p0 p0 (S 12 0 2) _ _ _ _ h1) rfl rfl rfl rfl ?_
  refine hJ.istore_n (pc := 10) [some (vr 12 0), some (vi p0), some (vi r3), none] dX12_staysFor_10 (by decide) rfl ?_
  refine hJ.iconst (pc := 11) 1 dX12_staysFor_11 ic_1 ?_
  refine hJ.istore_n (pc := 12) [some (vr 12 0), some (vi p0), some (vi r3), some (vi 1)] dX12_staysFor_12 (by decide) rfl ?_
  exact wX12_staysFor_13 hJ hR 5000 p0 r3 1 S2 hF
set_option maxRecDepth 100000 in
set_option maxHeartbeats 4000000 in
theorem ctX12_of (p0 : Int32) (p1 : Int32) (Sc S : Mem) (r : Int32) (S' : Mem) (hF : fX12_of p0 p1 S = some (r, S')) : Ct yX12_of cX12_of 3 (some .int) 5 117 0 0 [vr 12 0, vi p0, vi p1] wl0 L0 Sc S (some (vi r)) wl0 L0 Sc S' := by
  refine Ct.of RX12 false (by decide) rfl (fun h => by cases h) (Nat.le_of_ble_eq_true rfl) (fun J hJ hR => ?_)
  rw [fX12_of] at hF
  show J 0 [some (vr 12 0), some (vi p0), some (vi p1)] [] wl0 L0 0 0 Sc S
  refine hJ.aload_n (pc := 0) dX12_of_0 rfl ?_
  refine hJ.iconst (pc := 1) 0 dX12_of_1 ic_0 ?_
  refine hJ.pIM (pc := 2) dX12_of_2 fp_X12_104 ?_
  refine hJ.aload_n (pc := 5) dX12_of_5 rfl ?_
  refine hJ.iload_n (pc := 6) dX12_of_6 rfl ?_
  refine hJ.cV (pc := 7) [vi p0] [] [vi (fX12_isPaper p0 (up S 12 0 0 0))] dX12_of_7 lk_X12_140 (ctX12_isPaper p0 _ _ (fX12_isPaper p0 (up S 12 0 0 0)) rfl) rfl rfl rfl rfl ?_
  refine hJ.if_ne (pc := 10) 16 dX12_of_10 (by decide) (fun h1 => ?_) (fun h1 => ?_)
  · rw [if_neg h1] at hF
    refine hJ.iload_n (pc := 16) dX12_of_16 rfl ?_
    refine hJ.if_ne (pc := 17) 27 dX12_of_17 (by decide) (fun h2 => ?_) (fun h2 => ?_)
    · rw [if_neg h2] at hF
      refine hJ.iload_n (pc := 27) dX12_of_27 rfl ?_
      refine hJ.iconst (pc := 28) 1 dX12_of_28 ic_1 ?_
      refine hJ.icmp_ne (pc := 29) 39 dX12_of_29 (by decide) (fun h5 => ?_) (fun h5 => ?_)
      · rw [if_neg h5] at hF
        refine hJ.iload_n (pc := 39) dX12_of_39 rfl ?_
        refine hJ.iconst (pc := 40) 2 dX12_of_40 ic_2 ?_
        refine hJ.icmp_ne (pc := 41) 53 dX12_of_41 (by decide) (fun h8 => ?_) (fun h8 => ?_)
        · rw [if_neg h8] at hF
          refine hJ.iload_n (pc := 53) dX12_of_53 rfl ?_
          refine hJ.iconst (pc := 54) 3 dX12_of_54 ic_3 ?_
          refine hJ.icmp_ne (pc := 55) 65 dX12_of_55 (by decide) (fun h11 => ?_) (fun h11 => ?_)
          · rw [if_neg h11] at hF
            refine hJ.iload_n (pc := 65) dX12_of_65 rfl ?_
            refine hJ.iconst (pc := 66) 4 dX12_of_66 ic_4 ?_
            refine hJ.icmp_ne (pc := 67) 77 dX12_of_67 (by decide) (fun h14 => ?_) (fun h14 => ?_)
            · rw [if_neg h14] at hF
              refine hJ.iload_n (pc := 77) dX12_of_77 rfl ?_
              refine hJ.iconst (pc := 78) 5 dX12_of_78 ic_5 ?_
              refine hJ.icmp_ne (pc := 79) 89 dX12_of_79 (by decide) (fun h17 => ?_) (fun h17 => ?_)
              · rw [if_neg h17] at hF
                refine hJ.iload_n (pc := 89) dX12_of_89 rfl ?_
                refine hJ.bipush (pc := 90) 6 dX12_of_90 bc_6 ?_
                refine hJ.icmp_ne (pc := 92) 104 dX12_of_92 (by decide) (fun h20 => ?_) (fun h20 => ?_)
                · rw [if_neg h20] at hF
                  refine hJ.iload_n (pc := 104) dX12_of_104 rfl ?_
                  refine hJ.bipush (pc := 105) 7 dX12_of_105 bc_7 ?_
                  refine hJ.icmp_ne (pc := 107) 118 dX12_of_107 (by decide) (fun h23 => ?_) (fun h23 => ?_)
                  · rw [if_neg h23] at hF
                    refine hJ.bipush (pc := 118) (-2) dX12_of_118 bc_m2 ?_
                    cases hF
                    exact hR.i (pc := 120) dX12_of_120
                  · rw [if_pos h23] at hF
                    refine hJ.aload_n (pc := 110) dX12_of_110 rfl ?_
                    refine hJ.iload_n (pc := 111) dX12_of_111 rfl ?_
                    obtain ⟨r26, S25, h24, hF⟩ := bd_some hF
                    refine hJ.cV (pc := 112) [vi p0] [] [vi r26] dX12_of_112 lk_X12_285 (ctX12_staysFor p0 _ _ _ _ h24) rfl rfl rfl rfl ?_
                    refine hJ.goto (pc := 115) 120 dX12_of_115 (by decide) ?_
                    cases hF
                    exact hR.i (pc := 120) dX12_of_120
                · rw [if_pos h20] at hF
                  refine hJ.aload_n (pc := 95) dX12_of_95 rfl ?_
                  refine hJ.gR (pc := 96) (k' := 71) (i' := 0) dX12_of_96 fr_X12_43 rfl ?_
                  refine hJ.iload_n (pc := 99) dX12_of_99 rfl ?_
                  obtain ⟨j21, h22, hF⟩ := bn_some hF
                  refine hJ.lialdM (pc := 100) dX12_of_100 al_71 h22 ?_
                  refine hJ.goto (pc := 101) 120 dX12_of_101 (by decide) ?_
                  cases hF
                  exact hR.i (pc := 120) dX12_of_120
              · rw [if_pos h17] at hF
                refine hJ.aload_n (pc := 82) dX12_of_82 rfl ?_
                refine hJ.gR (pc := 83) (k' := 70) (i' := 0) dX12_of_83 fr_X12_40 rfl ?_
                refine hJ.iload_n (pc := 86) dX12_of_86 rfl ?_
                obtain ⟨j18, h19, hF⟩ := bn_some hF
                refine hJ.lialdM (pc := 87) dX12_of_87 al_70 h19 ?_
                cases hF
                exact hR.i (pc := 88) dX12_of_88
            · rw [if_pos h14] at hF
              refine hJ.aload_n (pc := 70) dX12_of_70 rfl ?_
              refine hJ.gR (pc := 71) (k' := 69) (i' := 0) dX12_of_71 fr_X12_37 rfl ?_
              refine hJ.iload_n (pc := 74) dX12_of_74 rfl ?_
              obtain ⟨j15, h16, hF⟩ := bn_some hF
              refine hJ.lialdM (pc := 75) dX12_of_75 al_69 h16 ?_
              cases hF
              exact hR.i (pc := 76) dX12_of_76
          · rw [if_pos h11] at hF
            refine hJ.aload_n (pc := 58) dX12_of_58 rfl ?_
            refine hJ.gR (pc := 59) (k' := 68) (i' := 0) dX12_of_59 fr_X12_34 rfl ?_
            refine hJ.iload_n (pc := 62) dX12_of_62 rfl ?_
            obtain ⟨j12, h13, hF⟩ := bn_some hF
            refine hJ.lialdM (pc := 63) dX12_of_63 al_68 h13 ?_
            cases hF
            exact hR.i (pc := 64) dX12_of_64
        · rw [if_pos h8] at hF
          refine hJ.aload_n (pc := 44) dX12_of_44 rfl ?_
          refine hJ.gR (pc := 45) (k' := 67) (i' := 0) dX12_of_45 fr_X12_31 rfl ?_
          refine hJ.iload_n (pc := 48) dX12_of_48 rfl ?_
          obtain ⟨j9, h10, hF⟩ := bn_some hF
          refine hJ.lialdM (pc := 49) dX12_of_49 al_67 h10 ?_
          refine hJ.iconst (pc := 50) 1 dX12_of_50 ic_1 ?_
          refine hJ.isub (pc := 51) dX12_of_51 ?_
          cases hF
          exact hR.i (pc := 52) dX12_of_52
      · rw [if_pos h5] at hF
        refine hJ.aload_n (pc := 32) dX12_of_32 rfl ?_
        refine hJ.gR (pc := 33) (k' := 66) (i' := 0) dX12_of_33 fr_X12_28 rfl ?_
        refine hJ.iload_n (pc := 36) dX12_of_36 rfl ?_
        obtain ⟨j6, h7, hF⟩ := bn_some hF
        refine hJ.lialdM (pc := 37) dX12_of_37 al_66 h7 ?_
        cases hF
        exact hR.i (pc := 38) dX12_of_38
    · rw [if_pos h2] at hF
      refine hJ.aload_n (pc := 20) dX12_of_20 rfl ?_
      refine hJ.gR (pc := 21) (k' := 65) (i' := 0) dX12_of_21 fr_X12_25 rfl ?_
      refine hJ.iload_n (pc := 24) dX12_of_24 rfl ?_
      obtain ⟨j3, h4, hF⟩ := bn_some hF
      refine hJ.lialdM (pc := 25) dX12_of_25 al_65 h4 ?_
      cases hF
      exact hR.i (pc := 26) dX12_of_26
  · rw [if_pos h1] at hF
    refine hJ.bipush (pc := 13) (-2) dX12_of_13 bc_m2 ?_
    cases hF
    exact hR.i (pc := 15) dX12_of_15
