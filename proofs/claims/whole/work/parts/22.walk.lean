set_option maxRecDepth 100000 in
set_option maxHeartbeats 4000000 in
theorem ctX12_who (p0 : Int32) (p1 : Int32) (Sc S : Mem) (r : Int32) (S' : Mem) (hF : fX12_who p0 p1 S = some (r, S')) : Ct yX12_who cX12_who 3 (some .int) 1 23 0 0 [vr 12 0, vi p0, vi p1] wl0 L0 Sc S (some (vi r)) wl0 L0 Sc S' := by
  refine Ct.of RX12 false (by decide) rfl (fun h => by cases h) (Nat.le_of_ble_eq_true rfl) (fun J hJ hR => ?_)
  rw [fX12_who] at hF
  show J 0 [some (vr 12 0), some (vi p0), some (vi p1)] [] wl0 L0 0 0 Sc S
  refine hJ.aload_n (pc := 0) dX12_who_0 rfl ?_
  refine hJ.iconst (pc := 1) 0 dX12_who_1 ic_0 ?_
  refine hJ.pIM (pc := 2) dX12_who_2 fp_X12_104 ?_
  refine hJ.aload_n (pc := 5) dX12_who_5 rfl ?_
  refine hJ.iload_n (pc := 6) dX12_who_6 rfl ?_
  refine hJ.cV (pc := 7) [vi p0] [] [vi (fX12_isReader p0 (up S 12 0 0 0))] dX12_who_7 lk_X12_123 (ctX12_isReader p0 _ _ (fX12_isReader p0 (up S 12 0 0 0)) rfl) rfl rfl rfl rfl ?_
  refine hJ.if_ne (pc := 10) 17 dX12_who_10 (by decide) (fun h1 => ?_) (fun h1 => ?_)
  · rw [if_neg h1] at hF
    refine hJ.iload_n (pc := 17) dX12_who_17 rfl ?_
    refine hJ.if_ne (pc := 18) 28 dX12_who_18 (by decide) (fun h2 => ?_) (fun h2 => ?_)
    · rw [if_neg h2] at hF
      refine hJ.iload_n (pc := 28) dX12_who_28 rfl ?_
      refine hJ.iconst (pc := 29) 1 dX12_who_29 ic_1 ?_
      refine hJ.icmp_ne (pc := 30) 40 dX12_who_30 (by decide) (fun h5 => ?_) (fun h5 => ?_)
      · rw [if_neg h5] at hF
        refine hJ.iload_n (pc := 40) dX12_who_40 rfl ?_
        refine hJ.iconst (pc := 41) 2 dX12_who_41 ic_2 ?_
        refine hJ.icmp_ne (pc := 42) 52 dX12_who_42 (by decide) (fun h8 => ?_) (fun h8 => ?_)
        · rw [if_neg h8] at hF
          refine hJ.iload_n (pc := 52) dX12_who_52 rfl ?_
          refine hJ.iconst (pc := 53) 3 dX12_who_53 ic_3 ?_
          refine hJ.icmp_ne (pc := 54) 64 dX12_who_54 (by decide) (fun h11 => ?_) (fun h11 => ?_)
          · rw [if_neg h11] at hF
            refine hJ.iload_n (pc := 64) dX12_who_64 rfl ?_
            refine hJ.iconst (pc := 65) 4 dX12_who_65 ic_4 ?_
            refine hJ.icmp_ne (pc := 66) 76 dX12_who_66 (by decide) (fun h14 => ?_) (fun h14 => ?_)
            · rw [if_neg h14] at hF
              refine hJ.iload_n (pc := 76) dX12_who_76 rfl ?_
              refine hJ.iconst (pc := 77) 5 dX12_who_77 ic_5 ?_
              refine hJ.icmp_ne (pc := 78) 99 dX12_who_78 (by decide) (fun h17 => ?_) (fun h17 => ?_)
              · rw [if_neg h17] at hF
                refine hJ.iload_n (pc := 99) dX12_who_99 rfl ?_
                refine hJ.bipush (pc := 100) 6 dX12_who_100 bc_6 ?_
                refine hJ.icmp_ne (pc := 102) 117 dX12_who_102 (by decide) (fun h21 => ?_) (fun h21 => ?_)
                · rw [if_neg h21] at hF
                  refine hJ.iload_n (pc := 117) dX12_who_117 rfl ?_
                  refine hJ.bipush (pc := 118) 7 dX12_who_118 bc_7 ?_
                  refine hJ.icmp_ne (pc := 120) 131 dX12_who_120 (by decide) (fun h24 => ?_) (fun h24 => ?_)
                  · rw [if_neg h24] at hF
                    refine hJ.ldc_w (pc := 131) (v := (-100000)) dX12_who_131 kw_X12_288 ?_
                    cases hF
                    exact hR.i (pc := 134) dX12_who_134
                  · rw [if_pos h24] at hF
                    refine hJ.aload_n (pc := 123) dX12_who_123 rfl ?_
                    refine hJ.iload_n (pc := 124) dX12_who_124 rfl ?_
                    obtain ⟨r26, h25, hF⟩ := bn_some hF
                    refine hJ.cV (pc := 125) [vi p0] [] [vi r26] dX12_who_125 lk_X12_270 (ctX12_leasesOf p0 _ _ _ h25) rfl rfl rfl rfl ?_
                    refine hJ.goto (pc := 128) 134 dX12_who_128 (by decide) ?_
                    cases hF
                    exact hR.i (pc := 134) dX12_who_134
                · rw [if_pos h21] at hF
                  refine hJ.aload_n (pc := 105) dX12_who_105 rfl ?_
                  refine hJ.iload_n (pc := 106) dX12_who_106 rfl ?_
                  refine hJ.aload_n (pc := 107) dX12_who_107 rfl ?_
                  refine hJ.gM (pc := 108) dX12_who_108 fi_X12_127 ?_
                  obtain ⟨r23, h22, hF⟩ := bn_some hF
                  refine hJ.cV (pc := 111) [vi p0, vi ((up S 12 0 0 0) 12 0 2)] [] [vi r23] dX12_who_111 lk_X12_251 (ctX12_yearsOf p0 ((up S 12 0 0 0) 12 0 2) _ _ _ h22) rfl rfl rfl rfl ?_
                  refine hJ.goto (pc := 114) 134 dX12_who_114 (by decide) ?_
                  cases hF
                  exact hR.i (pc := 134) dX12_who_134
              · rw [if_pos h17] at hF
                refine hJ.aload_n (pc := 81) dX12_who_81 rfl ?_
                refine hJ.iload_n (pc := 82) dX12_who_82 rfl ?_
                refine hJ.aload_n (pc := 83) dX12_who_83 rfl ?_
                refine hJ.gM (pc := 84) dX12_who_84 fi_X12_127 ?_
                obtain ⟨r19, h18, hF⟩ := bn_some hF
                refine hJ.cV (pc := 87) [vi p0, vi ((up S 12 0 0 0) 12 0 2)] [] [vi r19] dX12_who_87 lk_X12_143 (ctX12_doesLive p0 ((up S 12 0 0 0) 12 0 2) _ _ _ h18) rfl rfl rfl rfl ?_
                refine hJ.if_eq (pc := 90) 97 dX12_who_90 (by decide) (fun h20 => ?_) (fun h20 => ?_)
                · rw [if_pos h20] at hF
                  refine hJ.iconst (pc := 97) 0 dX12_who_97 ic_0 ?_
                  cases hF
                  exact hR.i (pc := 98) dX12_who_98
                · rw [if_neg h20] at hF
                  refine hJ.iconst (pc := 93) 1 dX12_who_93 ic_1 ?_
                  refine hJ.goto (pc := 94) 98 dX12_who_94 (by decide) ?_
                  cases hF
                  exact hR.i (pc := 98) dX12_who_98
            · rw [if_pos h14] at hF
              refine hJ.aload_n (pc := 69) dX12_who_69 rfl ?_
              refine hJ.gR (pc := 70) (k' := 64) (i' := 0) dX12_who_70 fr_X12_22 rfl ?_
              refine hJ.iload_n (pc := 73) dX12_who_73 rfl ?_
              obtain ⟨j15, h16, hF⟩ := bn_some hF
              refine hJ.lialdM (pc := 74) dX12_who_74 al_64 h16 ?_
              cases hF
              exact hR.i (pc := 75) dX12_who_75
          · rw [if_pos h11] at hF
            refine hJ.aload_n (pc := 57) dX12_who_57 rfl ?_
            refine hJ.gR (pc := 58) (k' := 63) (i' := 0) dX12_who_58 fr_X12_19 rfl ?_
            refine hJ.iload_n (pc := 61) dX12_who_61 rfl ?_
            obtain ⟨j12, h13, hF⟩ := bn_some hF
            refine hJ.lialdM (pc := 62) dX12_who_62 al_63 h13 ?_
            cases hF
            exact hR.i (pc := 63) dX12_who_63
        · rw [if_pos h8] at hF
          refine hJ.aload_n (pc := 45) dX12_who_45 rfl ?_
          refine hJ.gR (pc := 46) (k' := 62) (i' := 0) dX12_who_46 fr_X12_16 rfl ?_
          refine hJ.iload_n (pc := 49) dX12_who_49 rfl ?_
          obtain ⟨j9, h10, hF⟩ := bn_some hF
          refine hJ.lialdM (pc := 50) dX12_who_50 al_62 h10 ?_
          cases hF
          exact hR.i (pc := 51) dX12_who_51
      · rw [if_pos h5] at hF
        refine hJ.aload_n (pc := 33) dX12_who_33 rfl ?_
        refine hJ.gR (pc := 34) (k' := 61) (i' := 0) dX12_who_34 fr_X12_13 rfl ?_
        refine hJ.iload_n (pc := 37) dX12_who_37 rfl ?_
        obtain ⟨j6, h7, hF⟩ := bn_some hF
        refine hJ.lialdM (pc := 38) dX12_who_38 al_61 h7 ?_
        cases hF
        exact hR.i (pc := 39) dX12_who_39
    · rw [if_pos h2] at hF
      refine hJ.aload_n (pc := 21) dX12_who_21 rfl ?_
      refine hJ.gR (pc := 22) (k' := 60) (i' := 0) dX12_who_22 fr_X12_7 rfl ?_
      refine hJ.iload_n (pc := 25) dX12_who_25 rfl ?_
      obtain ⟨j3, h4, hF⟩ := bn_some hF
      refine hJ.lialdM (pc := 26) dX12_who_26 al_60 h4 ?_
      cases hF
      exact hR.i (pc := 27) dX12_who_27
  · rw [if_pos h1] at hF
    refine hJ.ldc_w (pc := 13) (v := (-100000)) dX12_who_13 kw_X12_288 ?_
    cases hF
    exact hR.i (pc := 16) dX12_who_16
set_option maxRecDepth 100000 in
set_option maxHeartbeats 4000000 in
theorem ctX12_book (p0 : Int32) (p1 : Int32) (Sc S : Mem) (r : Int32) (S' : Mem) (hF : fX12_book p0 p1 S = some (r, S')) : Ct yX12_book cX12_book 3 (some .int) 1 23 0 0 [vr 12 0, vi p0, vi p1] wl0 L0 Sc S (some (vi r)) wl0 L0 Sc S' := by
  refine Ct.of RX12 false (by decide) rfl (fun h => by cases h) (Nat.le_of_ble_eq_true rfl) (fun J hJ hR => ?_)
  rw [fX12_book] at hF
  show J 0 [some (vr 12 0), some (vi p0), some (vi p1)] [] wl0 L0 0 0 Sc S
  refine hJ.aload_n (pc := 0) dX12_book_0 rfl ?_
  refine hJ.iconst (pc := 1) 0 dX12_book_1 ic_0 ?_
  refine hJ.pIM (pc := 2) dX12_book_2 fp_X12_104 ?_
  refine hJ.aload_n (pc := 5) dX12_book_5 rfl ?_
  refine hJ.iload_n (pc := 6) dX12_book_6 rfl ?_
  refine hJ.iconst (pc := 7) 0 dX12_book_7 ic_0 ?_
  refine hJ.aload_n (pc := 8) dX12_book_8 rfl ?_
  refine hJ.gM (pc := 9) dX12_book_9 fi_X12_260 ?_
  refine hJ.iconst (pc := 12) 1 dX12_book_12 ic_1 ?_
  refine hJ.isub (pc := 13) dX12_book_13 ?_
  refine hJ.cV (pc := 14) [vi p0, vi 0, vi (((up S 12 0 0 0) 12 0 18) - 1)] [] [vi (fX12_isIn p0 0 (((up S 12 0 0 0) 12 0 18) - 1))] dX12_book_14 lk_X12_116 (ctX12_isIn p0 0 (((up S 12 0 0 0) 12 0 18) - 1) _ _ (fX12_isIn p0 0 (((up S 12 0 0 0) 12 0 18) - 1)) rfl) rfl rfl rfl rfl ?_
  refine hJ.if_eq (pc := 17) 43 dX12_book_17 (by decide) (fun h1 => ?_) (fun h1 => ?_)
  · rw [if_pos h1] at hF
    refine hJ.iconst (pc := 43) (-1) dX12_book_43 ic_m1 ?_
    cases hF
    exact hR.i (pc := 44) dX12_book_44
  · rw [if_neg h1] at hF
    refine hJ.aload_n (pc := 20) dX12_book_20 rfl ?_
    refine hJ.iload_n (pc := 21) dX12_book_21 rfl ?_
    refine hJ.iconst (pc := 22) 0 dX12_book_22 ic_0 ?_
    refine hJ.iconst (pc := 23) 4 dX12_book_23 ic_4 ?_
    refine hJ.cV (pc := 24) [vi p1, vi 0, vi 4] [] [vi (fX12_isIn p1 0 4)] dX12_book_24 lk_X12_116 (ctX12_isIn p1 0 4 _ _ (fX12_isIn p1 0 4) rfl) rfl rfl rfl rfl ?_
    refine hJ.if_eq (pc := 27) 43 dX12_book_27 (by decide) (fun h2 => ?_) (fun h2 => ?_)
    · rw [if_pos h2] at hF
      refine hJ.iconst (pc := 43) (-1) dX12_book_43 ic_m1 ?_
      cases hF
      exact hR.i (pc := 44) dX12_book_44
    · rw [if_neg h2] at hF
      refine hJ.aload_n (pc := 30) dX12_book_30 rfl ?_
      refine hJ.gR (pc := 31) (k' := 72) (i' := 0) dX12_book_31 fr_X12_46 rfl ?_
      refine hJ.iconst (pc := 34) 5 dX12_book_34 ic_5 ?_
      refine hJ.iload_n (pc := 35) dX12_book_35 rfl ?_
      refine hJ.imul (pc := 36) dX12_book_36 ?_
      refine hJ.iload_n (pc := 37) dX12_book_37 rfl ?_
      refine hJ.iadd (pc := 38) dX12_book_38 ?_
      obtain ⟨j3, h4, hF⟩ := bn_some hF
      refine hJ.lialdM (pc := 39) dX12_book_39 al_72 h4 ?_
      refine hJ.goto (pc := 40) 44 dX12_book_40 (by decide) ?_
      cases hF
      exact hR.i (pc := 44) dX12_book_44
set_option maxRecDepth 100000 in
set_option maxHeartbeats 4000000 in
theorem ctX12_claim (p0 : Int32) (p1 : Int32) (p2 : Int32) (p3 : Int32) (Sc S : Mem) (r : Int32) (S' : Mem) (hF : fX12_claim p0 p1 p2 p3 S = some (r, S')) : Ct yX12_claim cX12_claim 5 (some .int) 1 23 0 0 [vr 12 0, vi p0, vi p1, vi p2, vi p3] wl0 L0 Sc S (some (vi r)) wl0 L0 Sc S' := by
  refine Ct.of RX12 false (by decide) rfl (fun h => by cases h) (Nat.le_of_ble_eq_true rfl) (fun J hJ hR => ?_)
  rw [fX12_claim] at hF
  show J 0 [some (vr 12 0), some (vi p0), some (vi p1), some (vi p2), some (vi p3)] [] wl0 L0 0 0 Sc S
  refine hJ.aload_n (pc := 0) dX12_claim_0 rfl ?_
  refine hJ.iconst (pc := 1) 0 dX12_claim_1 ic_0 ?_
  refine hJ.pIM (pc := 2) dX12_claim_2 fp_X12_104 ?_
  refine hJ.aload_n (pc := 5) dX12_claim_5 rfl ?_
  refine hJ.iload_n (pc := 6) dX12_claim_6 rfl ?_
  refine hJ.cV (pc := 7) [vi p0] [] [vi (fX12_isPaper p0 (up S 12 0 0 0))] dX12_claim_7 lk_X12_140 (ctX12_isPaper p0 _ _ (fX12_isPaper p0 (up S 12 0 0 0)) rfl) rfl rfl rfl rfl ?_
  refine hJ.if_eq (pc := 10) 55 dX12_claim_10 (by decide) (fun h1 => ?_) (fun h1 => ?_)
  · rw [if_pos h1] at hF
    refine hJ.iconst (pc := 55) (-1) dX12_claim_55 ic_m1 ?_
    cases hF
    exact hR.i (pc := 56) dX12_claim_56
  · rw [if_neg h1] at hF
    refine hJ.aload_n (pc := 13) dX12_claim_13 rfl ?_
    refine hJ.iload_n (pc := 14) dX12_claim_14 rfl ?_
    refine hJ.aload_n (pc := 15) dX12_claim_15 rfl ?_
    refine hJ.gM (pc := 16) dX12_claim_16 fi_X12_127 ?_
    refine hJ.sipush (pc := 19) 9999 dX12_claim_19 sc_9999 ?_
    refine hJ.cV (pc := 22) [vi p1, vi ((up S 12 0 0 0) 12 0 2), vi 9999] [] [vi (fX12_isIn p1 ((up S 12 0 0 0) 12 0 2) 9999)] dX12_claim_22 lk_X12_116 (ctX12_isIn p1 ((up S 12 0 0 0) 12 0 2) 9999 _ _ (fX12_isIn p1 ((up S 12 0 0 0) 12 0 2) 9999) rfl) rfl rfl rfl rfl ?_
    refine hJ.if_eq (pc := 25) 55 dX12_claim_25 (by decide) (fun h2 => ?_) (fun h2 => ?_)
    · rw [if_pos h2] at hF
      refine hJ.iconst (pc := 55) (-1) dX12_claim_55 ic_m1 ?_
      cases hF
      exact hR.i (pc := 56) dX12_claim_56
    · rw [if_neg h2] at hF
      refine hJ.iload_n (pc := 28) dX12_claim_28 rfl ?_
      refine hJ.if_lt (pc := 29) 55 dX12_claim_29 (by decide) (fun h3 => ?_) (fun h3 => ?_)
      · rw [if_pos h3] at hF
        refine hJ.iconst (pc := 55) (-1) dX12_claim_55 ic_m1 ?_
        cases hF
        exact hR.i (pc := 56) dX12_claim_56
      · rw [if_neg h3] at hF
        refine hJ.iload (pc := 32) dX12_claim_32 rfl ?_
        refine hJ.sipush (pc := 34) 999 dX12_claim_34 sc_999 ?_
        refine hJ.icmp_gt (pc := 37) 55 dX12_claim_37 (by decide) (fun h4 => ?_) (fun h4 => ?_)
        · rw [if_pos h4] at hF
          refine hJ.iconst (pc := 55) (-1) dX12_claim_55 ic_m1 ?_
          cases hF
          exact hR.i (pc := 56) dX12_claim_56
        · rw [if_neg h4] at hF
          refine hJ.iload (pc := 40) dX12_claim_40 rfl ?_
          refine hJ.iload_n (pc := 42) dX12_claim_42 rfl ?_
          refine hJ.icmp_lt (pc := 43) 55 dX12_claim_43 (by decide) (fun h5 => ?_) (fun h5 => ?_)
          · rw [if_pos h5] at hF
            refine hJ.iconst (pc := 55) (-1) dX12_claim_55 ic_m1 ?_
            cases hF
            exact hR.i (pc := 56) dX12_claim_56
          · rw [if_neg h5] at hF
            refine hJ.aload_n (pc := 46) dX12_claim_46 rfl ?_
            refine hJ.gM (pc := 47) dX12_claim_47 fi_X12_289 ?_
            refine hJ.bipush (pc := 50) 6 dX12_claim_50 bc_6 ?_
            refine hJ.icmp_ne (pc := 52) 57 dX12_claim_52 (by decide) (fun h6 => ?_) (fun h6 => ?_)
            · rw [if_neg h6] at hF
              refine hJ.aload_n (pc := 57) dX12_claim_57 rfl ?_
              refine hJ.gR (pc := 58) (k' := 84) (i' := 0) dX12_claim_58 fr_X12_86 rfl ?_
              refine hJ.aload_n (pc := 61) dX12_claim_61 rfl ?_
              refine hJ.gM (pc := 62) dX12_claim_62 fi_X12_289 ?_
              refine hJ.iload_n (pc := 65) dX12_claim_65 rfl ?_
              obtain ⟨j7, h8, hF⟩ := bn_some hF
              refine hJ.siastM (pc := 66) dX12_claim_66 al_84 h8 ?_
              refine hJ.aload_n (pc := 67) dX12_claim_67 rfl ?_
              refine hJ.gR (pc := 68) (k' := 85) (i' := 0) dX12_claim_68 fr_X12_89 rfl ?_
              refine hJ.aload_n (pc := 71) dX12_claim_71 rfl ?_
              refine hJ.gM (pc := 72) dX12_claim_72 fi_X12_289 ?_
              refine hJ.iload_n (pc := 75) dX12_claim_75 rfl ?_
              obtain ⟨j9, h10, hF⟩ := bn_some hF
              refine hJ.siastM (pc := 76) dX12_claim_76 al_85 h10 ?_
              refine hJ.aload_n (pc := 77) dX12_claim_77 rfl ?_
              refine hJ.gR (pc := 78) (k' := 86) (i' := 0) dX12_claim_78 fr_X12_92 rfl ?_
              refine hJ.aload_n (pc := 81) dX12_claim_81 rfl ?_
              refine hJ.gM (pc := 82) dX12_claim_82 fi_X12_289 ?_
              refine hJ.iload_n (pc := 85) dX12_claim_85 rfl ?_
              obtain ⟨j11, h12, hF⟩ := bn_some hF
              refine hJ.siastM (pc := 86) dX12_claim_86 al_86 h12 ?_
              refine hJ.aload_n (pc := 87) dX12_claim_87 rfl ?_
              refine hJ.gR (pc := 88) (k' := 87) (i' := 0) dX12_claim_88 fr_X12_95 rfl ?_
              refine hJ.aload_n (pc := 91) dX12_claim_91 rfl ?_
              refine hJ.gM (pc := 92) dX12_claim_92 fi_X12_289 ?_
              refine hJ.iload (pc := 95) dX12_claim_95 rfl ?_
              obtain ⟨j13, h14, hF⟩ := bn_some hF
              refine hJ.siastM (pc := 97) dX12_claim_97 al_87 h14 ?_
              refine hJ.aload_n (pc := 98) dX12_claim_98 rfl ?_
              refine hJ.aload_n (pc := 99) dX12_claim_99 rfl ?_
              refine hJ.gM (pc := 100) dX12_claim_100 fi_X12_289 ?_
              refine hJ.iconst (pc := 103) 1 dX12_claim_103 ic_1 ?_
              refine hJ.iadd (pc := 104) dX12_claim_104 ?_
              refine hJ.pIM (pc := 105) dX12_claim_105 fp_X12_289 ?_
              refine hJ.aload_n (pc := 108) dX12_claim_108 rfl ?_
              refine hJ.gM (pc := 109) dX12_claim_109 fi_X12_289 ?_
              refine hJ.iconst (pc := 112) 1 dX12_claim_112 ic_1 ?_
              refine hJ.isub (pc := 113) dX12_claim_113 ?_
              cases hF
              exact hR.i (pc := 114) dX12_claim_114
            · rw [if_pos h6] at hF
              refine hJ.iconst (pc := 55) (-1) dX12_claim_55 ic_m1 ?_
              cases hF
              exact hR.i (pc := 56) dX12_claim_56
set_option maxRecDepth 100000 in
set_option maxHeartbeats 4000000 in
theorem wX12_livingNow_4 {J : Nat → Lv → List AV → Obs → Lay → Nat → Nat → Mem → Mem → Prop} (hJ : Cl RX12 cX12_livingNow 3 1 22 0 0 none false J) {r : Int32} {Sc S : Mem} (hR : Rk cX12_livingNow (some .int) (some (vi r)) wl0 L0 0 0 Sc S J) : ∀ (n : Nat) (x1 : Int32) (x2 : Int32), fX12_livingNow_4 n x1 x2 S = some r → J 4 [some (vr 12 0), some (vi x1), some (vi x2)] [] wl0 L0 0 0 Sc S := by
  intro n
  induction n with
  | zero =>
    intro x1 x2 hF
    rw [fX12_livingNow_4] at hF
    cases hF
  | succ n ih =>
    intro x1 x2 hF
    rw [fX12_livingNow_4] at hF
    refine hJ.iload_n (pc := 4) dX12_livingNow_4 rfl ?_
    refine hJ.aload_n (pc := 5) dX12_livingNow_5 rfl ?_
    refine hJ.gM (pc := 6) dX12_livingNow_6 fi_X12_112 ?_
    refine hJ.icmp_ge (pc := 9) 36 dX12_livingNow_9 (by decide) (fun h1 => ?_) (fun h1 => ?_)
    · rw [if_pos h1] at hF
      refine hJ.iload_n (pc := 36) dX12_livingNow_36 rfl ?_
      cases hF
      exact hR.i (pc := 37) dX12_livingNow_37
    · rw [if_neg h1] at hF
      refine hJ.aload_n (pc := 12) dX12_livingNow_12 rfl ?_
      refine hJ.iload_n (pc := 13) dX12_livingNow_13 rfl ?_
      refine hJ.aload_n (pc := 14) dX12_livingNow_14 rfl ?_
      refine hJ.gM (pc := 15) dX12_livingNow_15 fi_X12_127 ?_
      obtain ⟨r3, h2, hF⟩ := bn_some hF
      refine hJ.cV (pc := 18) [vi x2, vi (S 12 0 2)] [] [vi r3] dX12_livingNow_18 lk_X12_143 (ctX12_doesLive x2 (S 12 0 2) _ _ _ h2) rfl rfl rfl rfl ?_
      refine hJ.if_eq (pc := 21) 30 dX12_livingNow_21 (by decide) (fun h4 => ?_) (fun h4 => ?_)
      · rw [if_pos h4] at hF
        refine hJ.iinc (pc := 30) (x2 + 1) [some (vr 12 0), some (vi x1), some (vi (x2 + 1))] dX12_livingNow_30 (by decide) rfl (congrArg (fun z => x2 + z) ic_1) rfl ?_
        refine hJ.goto (pc := 33) 4 dX12_livingNow_33 (by decide) ?_
        exact ih x1 (x2 + 1) hF
      · rw [if_neg h4] at hF
        refine hJ.iload_n (pc := 24) dX12_livingNow_24 rfl ?_
        refine hJ.iconst (pc := 25) 1 dX12_livingNow_25 ic_1 ?_
        refine hJ.iload_n (pc := 26) dX12_livingNow_26 rfl ?_
        refine hJ.ishl (pc := 27) dX12_livingNow_27 ?_
        refine hJ.ior (pc := 28) dX12_livingNow_28 ?_
        refine hJ.istore_n (pc := 29) [some (vr 12 0), some (vi (x1 ||| (1 <<< (x2 &&& 31)))), some (vi x2)] dX12_livingNow_29 (by decide) rfl ?_
        refine hJ.iinc (pc := 30) (x2 + 1) [some (vr 12 0), some (vi (x1 ||| (1 <<< (x2 &&& 31)))), some (vi (x2 + 1))] dX12_livingNow_30 (by decide) rfl (congrArg (fun z => x2 + z) ic_1) rfl ?_
        refine hJ.goto (pc := 33) 4 dX12_livingNow_33 (by decide) ?_
        exact ih (x1 ||| (1 <<< (x2 &&& 31))) (x2 + 1) hF
set_option maxRecDepth 100000 in
set_option maxHeartbeats 4000000 in
theorem ctX12_livingNow (Sc S : Mem) (r : Int32) (hF : fX12_livingNow S = some r) : Ct yX12_livingNow cX12_livingNow 3 (some .int) 1 22 0 0 [vr 12 0] wl0 L0 Sc S (some (vi r)) wl0 L0 Sc S := by
  refine Ct.of RX12 false (by decide) rfl (fun h => by cases h) (Nat.le_of_ble_eq_true rfl) (fun J hJ hR => ?_)
  rw [fX12_livingNow] at hF
  show J 0 [some (vr 12 0), none, none] [] wl0 L0 0 0 Sc S
  refine hJ.iconst (pc := 0) 0 dX12_livingNow_0 ic_0 ?_
  refine hJ.istore_n (pc := 1) [some (vr 12 0), some (vi 0), none] dX12_livingNow_1 (by decide) rfl ?_
  refine hJ.iconst (pc := 2) 0 dX12_livingNow_2 ic_0 ?_
  refine hJ.istore_n (pc := 3) [some (vr 12 0), some (vi 0), some (vi 0)] dX12_livingNow_3 (by decide) rfl ?_
  exact wX12_livingNow_4 hJ hR 5000 0 0 hF
set_option maxRecDepth 100000 in
set_option maxHeartbeats 4000000 in
theorem wX12_claimed_4 {J : Nat → Lv → List AV → Obs → Lay → Nat → Nat → Mem → Mem → Prop} (hJ : Cl RX12 cX12_claimed 3 0 0 0 0 none false J) {r : Int32} {Sc S : Mem} (hR : Rk cX12_claimed (some .int) (some (vi r)) wl0 L0 0 0 Sc S J) : ∀ (n : Nat) (x1 : Int32) (x2 : Int32), fX12_claimed_4 n x1 x2 S = some r → J 4 [some (vr 12 0), some (vi x1), some (vi x2)] [] wl0 L0 0 0 Sc S := by
  intro n
  induction n with
  | zero =>
    intro x1 x2 hF
    rw [fX12_claimed_4] at hF
    cases hF
  | succ n ih =>
    intro x1 x2 hF
    rw [fX12_claimed_4] at hF
    refine hJ.iload_n (pc := 4) dX12_claimed_4 rfl ?_
    refine hJ.aload_n (pc := 5) dX12_claimed_5 rfl ?_
    refine hJ.gM (pc := 6) dX12_claimed_6 fi_X12_289 ?_
    refine hJ.icmp_ge (pc := 9) 29 dX12_claimed_9 (by decide) (fun h1 => ?_) (fun h1 => ?_)
    · rw [if_pos h1] at hF
      refine hJ.iload_n (pc := 29) dX12_claimed_29 rfl ?_
      cases hF
      exact hR.i (pc := 30) dX12_claimed_30
    · rw [if_neg h1] at hF
      refine hJ.iload_n (pc := 12) dX12_claimed_12 rfl ?_
      refine hJ.iconst (pc := 13) 1 dX12_claimed_13 ic_1 ?_
      refine hJ.aload_n (pc := 14) dX12_claimed_14 rfl ?_
      refine hJ.gR (pc := 15) (k' := 84) (i' := 0) dX12_claimed_15 fr_X12_86 rfl ?_
      refine hJ.iload_n (pc := 18) dX12_claimed_18 rfl ?_
      obtain ⟨j2, h3, hF⟩ := bn_some hF
      refine hJ.lialdM (pc := 19) dX12_claimed_19 al_84 h3 ?_
      refine hJ.ishl (pc := 20) dX12_claimed_20 ?_
      refine hJ.ior (pc := 21) dX12_claimed_21 ?_
      refine hJ.istore_n (pc := 22) [some (vr 12 0), some (vi (x1 ||| (1 <<< ((S 84 0 j2) &&& 31)))), some (vi x2)] dX12_claimed_22 (by decide) rfl ?_
      refine hJ.iinc (pc := 23) (x2 + 1) [some (vr 12 0), some (vi (x1 ||| (1 <<< ((S 84 0 j2) &&& 31)))), some (vi (x2 + 1))] dX12_claimed_23 (by decide) rfl (congrArg (fun z => x2 + z) ic_1) rfl ?_
      refine hJ.goto (pc := 26) 4 dX12_claimed_26 (by decide) ?_
      exact ih (x1 ||| (1 <<< ((S 84 0 j2) &&& 31))) (x2 + 1) hF
set_option maxRecDepth 100000 in
set_option maxHeartbeats 4000000 in
theorem ctX12_claimed (Sc S : Mem) (r : Int32) (hF : fX12_claimed S = some r) : Ct yX12_claimed cX12_claimed 3 (some .int) 0 0 0 0 [vr 12 0] wl0 L0 Sc S (some (vi r)) wl0 L0 Sc S := by
  refine Ct.of RX12 false (by decide) rfl (fun h => by cases h) (Nat.le_of_ble_eq_true rfl) (fun J hJ hR => ?_)
  rw [fX12_claimed] at hF
  show J 0 [some (vr 12 0), none, none] [] wl0 L0 0 0 Sc S
  refine hJ.iconst (pc := 0) 0 dX12_claimed_0 ic_0 ?_
  refine hJ.istore_n (pc := 1) [some (vr 12 0), some (vi 0), none] dX12_claimed_1 (by decide) rfl ?_
  refine hJ.iconst (pc := 2) 0 dX12_claimed_2 ic_0 ?_
  refine hJ.istore_n (pc := 3) [some (vr 12 0), some (vi 0), some (vi 0)] dX12_claimed_3 (by decide) rfl ?_
  exact wX12_claimed_4 hJ hR 5000 0 0 hF
set_option maxRecDepth 100000 in
set_option maxHeartbeats 4000000 in
theorem wX12_areEnough_2 {J : Nat → Lv → List AV → Obs → Lay → Nat → Nat → Mem → Mem → Prop} (hJ : Cl RX12 cX12_areEnough 3 1 22 0 0 none false J) {r : Int32} {Sc S : Mem} (hR : Rk cX12_areEnough (some .boolean) (some (vi r)) wl0 L0 0 0 Sc S J) : ∀ (n : Nat) (x1 : Int32) (x2 : Int32), fX12_areEnough_2 n x1 x2 S = some r → J 2 [some (vr 12 0), some (vi x1), some (vi x2)] [] wl0 L0 0 0 Sc S := by
  intro n
  induction n with
  | zero =>
    intro x1 x2 hF
    rw [fX12_areEnough_2] at hF
    cases hF
  | succ n ih =>
    intro x1 x2 hF
    rw [fX12_areEnough_2] at hF
    refine hJ.iload_n (pc := 2) dX12_areEnough_2 rfl ?_
    refine hJ.aload_n (pc := 3) dX12_areEnough_3 rfl ?_
    refine hJ.gM (pc := 4) dX12_areEnough_4 fi_X12_130 ?_
    refine hJ.icmp_ge (pc := 7) 45 dX12_areEnough_7 (by decide) (fun h1 => ?_) (fun h1 => ?_)
    · rw [if_pos h1] at hF
      refine hJ.iconst (pc := 45) 1 dX12_areEnough_45 ic_1 ?_
      cases hF
      exact hR.n (pc := 46) (by decide) dX12_areEnough_46
    · rw [if_neg h1] at hF
      refine hJ.aload_n (pc := 10) dX12_areEnough_10 rfl ?_
      obtain ⟨r3, h2, hF⟩ := bn_some hF
      refine hJ.cV (pc := 11) [] [] [vi r3] dX12_areEnough_11 lk_X12_298 (ctX12_claimed _ _ _ h2) rfl rfl rfl rfl ?_
      refine hJ.iload_n (pc := 14) dX12_areEnough_14 rfl ?_
      refine hJ.ishr (pc := 15) dX12_areEnough_15 ?_
      refine hJ.iconst (pc := 16) 1 dX12_areEnough_16 ic_1 ?_
      refine hJ.iand (pc := 17) dX12_areEnough_17 ?_
      refine hJ.iconst (pc := 18) 1 dX12_areEnough_18 ic_1 ?_
      refine hJ.icmp_ne (pc := 19) 39 dX12_areEnough_19 (by decide) (fun h4 => ?_) (fun h4 => ?_)
      · rw [if_neg h4] at hF
        refine hJ.iinc (pc := 39) (x2 + 1) [some (vr 12 0), some (vi x1), some (vi (x2 + 1))] dX12_areEnough_39 (by decide) rfl (congrArg (fun z => x2 + z) ic_1) rfl ?_
        refine hJ.goto (pc := 42) 2 dX12_areEnough_42 (by decide) ?_
        exact ih x1 (x2 + 1) hF
      · rw [if_pos h4] at hF
        refine hJ.aload_n (pc := 22) dX12_areEnough_22 rfl ?_
        refine hJ.gR (pc := 23) (k' := 88) (i' := 0) dX12_areEnough_23 fr_X12_98 rfl ?_
        refine hJ.iload_n (pc := 26) dX12_areEnough_26 rfl ?_
        obtain ⟨j5, h6, hF⟩ := bn_some hF
        refine hJ.lialdM (pc := 27) dX12_areEnough_27 al_88 h6 ?_
        refine hJ.iload_n (pc := 28) dX12_areEnough_28 rfl ?_
        refine hJ.sipush (pc := 29) 4096 dX12_areEnough_29 sc_4096 ?_
        refine hJ.ior (pc := 32) dX12_areEnough_32 ?_
        refine hJ.iand (pc := 33) dX12_areEnough_33 ?_
        refine hJ.if_ne (pc := 34) 39 dX12_areEnough_34 (by decide) (fun h7 => ?_) (fun h7 => ?_)
        · rw [if_neg h7] at hF
          refine hJ.iinc (pc := 39) (x2 + 1) [some (vr 12 0), some (vi x1), some (vi (x2 + 1))] dX12_areEnough_39 (by decide) rfl (congrArg (fun z => x2 + z) ic_1) rfl ?_
          refine hJ.goto (pc := 42) 2 dX12_areEnough_42 (by decide) ?_
          exact ih x1 (x2 + 1) hF
        · rw [if_pos h7] at hF
          refine hJ.iconst (pc := 37) 0 dX12_areEnough_37 ic_0 ?_
          cases hF
          exact hR.n (pc := 38) (by decide) dX12_areEnough_38
set_option maxRecDepth 100000 in
set_option maxHeartbeats 4000000 in
theorem ctX12_areEnough (p0 : Int32) (Sc S : Mem) (r : Int32) (hF : fX12_areEnough p0 S = some r) : Ct yX12_areEnough cX12_areEnough 3 (some .boolean) 1 22 0 0 [vr 12 0, vi p0] wl0 L0 Sc S (some (vi r)) wl0 L0 Sc S := by
  refine Ct.of RX12 false (by decide) rfl (fun h => by cases h) (Nat.le_of_ble_eq_true rfl) (fun J hJ hR => ?_)
  rw [fX12_areEnough] at hF
  show J 0 [some (vr 12 0), some (vi p0), none] [] wl0 L0 0 0 Sc S
  refine hJ.iconst (pc := 0) 0 dX12_areEnough_0 ic_0 ?_
  refine hJ.istore_n (pc := 1) [some (vr 12 0), some (vi p0), some (vi 0)] dX12_areEnough_1 (by decide) rfl ?_
  exact wX12_areEnough_2 hJ hR 5000 p0 0 hF
set_option maxRecDepth 100000 in
set_option maxHeartbeats 4000000 in
theorem wX12_ones_4 {J : Nat → Lv → List AV → Obs → Lay → Nat → Nat → Mem → Mem → Prop} (hJ : Cl RX12 cX12_ones 4 0 0 0 0 none false J) {r : Int32} {Sc Sm : Mem} (hR : Rk cX12_ones (some .int) (some (vi r)) wl0 L0 0 0 Sc Sm J) : ∀ (n : Nat) (x2 : Int32) (x3 : Int32), fX12_ones_4 n x2 x3 = some r → J 4 [none, none, some (vi x2), some (vi x3)] [] wl0 L0 0 0 Sc Sm := by
  intro n
  induction n with
  | zero =>
    intro x2 x3 hF
    rw [fX12_ones_4] at hF
    cases hF
  | succ n ih =>
    intro x2 x3 hF
    rw [fX12_ones_4] at hF
    refine hJ.iload_n (pc := 4) dX12_ones_4 rfl ?_
    refine hJ.if_eq (pc := 5) 21 dX12_ones_5 (by decide) (fun h1 => ?_) (fun h1 => ?_)
    · rw [if_pos h1] at hF
      refine hJ.iload_n (pc := 21) dX12_ones_21 rfl ?_
      cases hF
      exact hR.i (pc := 22) dX12_ones_22
    · rw [if_neg h1] at hF
      refine hJ.iload_n (pc := 8) dX12_ones_8 rfl ?_
      refine hJ.iconst (pc := 9) 1 dX12_ones_9 ic_1 ?_
      refine hJ.iadd (pc := 10) dX12_ones_10 ?_
      refine hJ.istore_n (pc := 11) [none, none, some (vi (x2 + 1)), some (vi x3)] dX12_ones_11 (by decide) rfl ?_
      refine hJ.iload_n (pc := 12) dX12_ones_12 rfl ?_
      refine hJ.iload_n (pc := 13) dX12_ones_13 rfl ?_
      refine hJ.iconst (pc := 14) 1 dX12_ones_14 ic_1 ?_
      refine hJ.isub (pc := 15) dX12_ones_15 ?_
      refine hJ.iand (pc := 16) dX12_ones_16 ?_
      refine hJ.istore_n (pc := 17) [none, none, some (vi (x2 + 1)), some (vi (x3 &&& (x3 - 1)))] dX12_ones_17 (by decide) rfl ?_
      refine hJ.goto (pc := 18) 4 dX12_ones_18 (by decide) ?_
      exact ih (x2 + 1) (x3 &&& (x3 - 1)) hF
set_option maxRecDepth 100000 in
set_option maxHeartbeats 4000000 in
theorem ctX12_ones (p0 : Int32) (Sc Sm : Mem) (r : Int32) (hF : fX12_ones p0 = some r) : Ct yX12_ones cX12_ones 4 (some .int) 0 0 0 0 [vr 12 0, vi p0] wl0 L0 Sc Sm (some (vi r)) wl0 L0 Sc Sm := by
  refine Ct.of RX12 false (by decide) rfl (fun h => by cases h) (Nat.le_of_ble_eq_true rfl) (fun J hJ hR => ?_)
  rw [fX12_ones] at hF
  show J 0 [some (vr 12 0), some (vi p0), none, none] [] wl0 L0 0 0 Sc Sm
  refine hJ.iconst (pc := 0) 0 dX12_ones_0 ic_0 ?_
  refine hJ.istore_n (pc := 1) [some (vr 12 0), some (vi p0), some (vi 0), none] dX12_ones_1 (by decide) rfl ?_
  refine hJ.iload_n (pc := 2) dX12_ones_2 rfl ?_
  refine hJ.istore_n (pc := 3) [some (vr 12 0), some (vi p0), some (vi 0), some (vi p0)] dX12_ones_3 (by decide) rfl ?_
  refine hJ.weak [none, none, some (vi 0), some (vi p0)] ⟨rfl, rfl, trivial⟩ ?_
  exact wX12_ones_4 hJ hR 5000 0 p0 hF
set_option maxRecDepth 100000 in
set_option maxHeartbeats 4000000 in
theorem ctX12_thinksOf (p0 : Int32) (Sc S : Mem) (S' : Mem) (hF : fX12_thinksOf p0 S = some (S')) : Ct yX12_thinksOf cX12_thinksOf 2 none 0 0 0 0 [vr 12 0, vi p0] wl0 L0 Sc S none wl0 L0 Sc S' := by
  refine Ct.of RX12 false (by decide) rfl (fun h => by cases h) (Nat.le_of_ble_eq_true rfl) (fun J hJ hR => ?_)
  rw [fX12_thinksOf] at hF
  show J 0 [some (vr 12 0), some (vi p0)] [] wl0 L0 0 0 Sc S
  refine hJ.aload_n (pc := 0) dX12_thinksOf_0 rfl ?_
  refine hJ.gR (pc := 1) (k' := 65) (i' := 0) dX12_thinksOf_1 fr_X12_25 rfl ?_
  refine hJ.bipush (pc := 4) 12 dX12_thinksOf_4 bc_12 ?_
  refine hJ.aload_n (pc := 6) dX12_thinksOf_6 rfl ?_
  refine hJ.gR (pc := 7) (k' := 65) (i' := 0) dX12_thinksOf_7 fr_X12_25 rfl ?_
  refine hJ.iload_n (pc := 10) dX12_thinksOf_10 rfl ?_
  obtain ⟨j1, h2, hF⟩ := bn_some hF
  refine hJ.lialdM (pc := 11) dX12_thinksOf_11 al_65 h2 ?_
  refine hJ.siastM (pc := 12) dX12_thinksOf_12 al_65 (show ix 12 13 = some 12 by decide) ?_
  refine hJ.aload_n (pc := 13) dX12_thinksOf_13 rfl ?_
  refine hJ.gR (pc := 14) (k' := 66) (i' := 0) dX12_thinksOf_14 fr_X12_28 rfl ?_
  refine hJ.bipush (pc := 17) 12 dX12_thinksOf_17 bc_12 ?_
  refine hJ.aload_n (pc := 19) dX12_thinksOf_19 rfl ?_
  refine hJ.gR (pc := 20) (k' := 66) (i' := 0) dX12_thinksOf_20 fr_X12_28 rfl ?_
  refine hJ.iload_n (pc := 23) dX12_thinksOf_23 rfl ?_
  refine hJ.lialdM (pc := 24) dX12_thinksOf_24 al_66 h2 ?_
  refine hJ.siastM (pc := 25) dX12_thinksOf_25 al_66 (show ix 12 13 = some 12 by decide) ?_
  refine hJ.aload_n (pc := 26) dX12_thinksOf_26 rfl ?_
  refine hJ.gR (pc := 27) (k' := 67) (i' := 0) dX12_thinksOf_27 fr_X12_31 rfl ?_
  refine hJ.bipush (pc := 30) 12 dX12_thinksOf_30 bc_12 ?_
  refine hJ.aload_n (pc := 32) dX12_thinksOf_32 rfl ?_
  refine hJ.gR (pc := 33) (k' := 67) (i' := 0) dX12_thinksOf_33 fr_X12_31 rfl ?_
  refine hJ.iload_n (pc := 36) dX12_thinksOf_36 rfl ?_
  refine hJ.lialdM (pc := 37) dX12_thinksOf_37 al_67 h2 ?_
  refine hJ.siastM (pc := 38) dX12_thinksOf_38 al_67 (show ix 12 13 = some 12 by decide) ?_
  refine hJ.aload_n (pc := 39) dX12_thinksOf_39 rfl ?_
  refine hJ.gR (pc := 40) (k' := 68) (i' := 0) dX12_thinksOf_40 fr_X12_34 rfl ?_
  refine hJ.bipush (pc := 43) 12 dX12_thinksOf_43 bc_12 ?_
  refine hJ.aload_n (pc := 45) dX12_thinksOf_45 rfl ?_
  refine hJ.gR (pc := 46) (k' := 68) (i' := 0) dX12_thinksOf_46 fr_X12_34 rfl ?_
  refine hJ.iload_n (pc := 49) dX12_thinksOf_49 rfl ?_
  refine hJ.lialdM (pc := 50) dX12_thinksOf_50 al_68 h2 ?_
  refine hJ.siastM (pc := 51) dX12_thinksOf_51 al_68 (show ix 12 13 = some 12 by decide) ?_
  refine hJ.aload_n (pc := 52) dX12_thinksOf_52 rfl ?_
  refine hJ.gR (pc := 53) (k' := 69) (i' := 0) dX12_thinksOf_53 fr_X12_37 rfl ?_
  refine hJ.bipush (pc := 56) 12 dX12_thinksOf_56 bc_12 ?_
  refine hJ.aload_n (pc := 58) dX12_thinksOf_58 rfl ?_
  refine hJ.gR (pc := 59) (k' := 69) (i' := 0) dX12_thinksOf_59 fr_X12_37 rfl ?_
  refine hJ.iload_n (pc := 62) dX12_thinksOf_62 rfl ?_
  refine hJ.lialdM (pc := 63) dX12_thinksOf_63 al_69 h2 ?_
  refine hJ.siastM (pc := 64) dX12_thinksOf_64 al_69 (show ix 12 13 = some 12 by decide) ?_
  refine hJ.aload_n (pc := 65) dX12_thinksOf_65 rfl ?_
  refine hJ.gR (pc := 66) (k' := 70) (i' := 0) dX12_thinksOf_66 fr_X12_40 rfl ?_
  refine hJ.bipush (pc := 69) 12 dX12_thinksOf_69 bc_12 ?_
  refine hJ.aload_n (pc := 71) dX12_thinksOf_71 rfl ?_
  refine hJ.gR (pc := 72) (k' := 70) (i' := 0) dX12_thinksOf_72 fr_X12_40 rfl ?_
  refine hJ.iload_n (pc := 75) dX12_thinksOf_75 rfl ?_
  refine hJ.lialdM (pc := 76) dX12_thinksOf_76 al_70 h2 ?_
  refine hJ.siastM (pc := 77) dX12_thinksOf_77 al_70 (show ix 12 13 = some 12 by decide) ?_
  cases hF
  exact hR.v (pc := 78) dX12_thinksOf_78
set_option maxRecDepth 100000 in
set_option maxHeartbeats 4000000 in
theorem wX12_doStand_2 {J : Nat → Lv → List AV → Obs → Lay → Nat → Nat → Mem → Mem → Prop} (hJ : Cl RX12 cX12_doStand 3 4 94 0 0 none false J) {r : Int32} {Sc S' : Mem} (hR : Rk cX12_doStand (some .boolean) (some (vi r)) wl0 L0 0 0 Sc S' J) : ∀ (n : Nat) (x1 : Int32) (x2 : Int32) (S : Mem), fX12_doStand_2 n x1 x2 S = some (r, S') → J 2 [some (vr 12 0), some (vi x1), some (vi x2)] [] wl0 L0 0 0 Sc S := by
  intro n
  induction n with
  | zero =>
    intro x1 x2 S hF
    rw [fX12_doStand_2] at hF
    cases hF
  | succ n ih =>
    intro x1 x2 S hF
    rw [fX12_doStand_2] at hF
    refine hJ.iload_n (pc := 2) dX12_doStand_2 rfl ?_
    refine hJ.aload_n (pc := 3) dX12_doStand_3 rfl ?_
    refine hJ.gM (pc := 4) dX12_doStand_4 fi_X12_289 ?_
    refine hJ.icmp_ge (pc := 7) 60 dX12_doStand_7 (by decide) (fun h1 => ?_) (fun h1 => ?_)
    · rw [if_pos h1] at hF
      refine hJ.iconst (pc := 60) 1 dX12_doStand_60 ic_1 ?_
      cases hF
      exact hR.n (pc := 61) (by decide) dX12_doStand_61
    · rw [if_neg h1] at hF
      refine hJ.aload_n (pc := 10) dX12_doStand_10 rfl ?_
      refine hJ.gR (pc := 11) (k' := 84) (i' := 0) dX12_doStand_11 fr_X12_86 rfl ?_
      refine hJ.iload_n (pc := 14) dX12_doStand_14 rfl ?_
      obtain ⟨j2, h3, hF⟩ := bn_some hF
      refine hJ.lialdM (pc := 15) dX12_doStand_15 al_84 h3 ?_
      refine hJ.iload_n (pc := 16) dX12_doStand_16 rfl ?_
      refine hJ.icmp_ne (pc := 17) 54 dX12_doStand_17 (by decide) (fun h4 => ?_) (fun h4 => ?_)
      · rw [if_neg h4] at hF
        refine hJ.iinc (pc := 54) (x2 + 1) [some (vr 12 0), some (vi x1), some (vi (x2 + 1))] dX12_doStand_54 (by decide) rfl (congrArg (fun z => x2 + z) ic_1) rfl ?_
        refine hJ.goto (pc := 57) 2 dX12_doStand_57 (by decide) ?_
        exact ih x1 (x2 + 1) S hF
      · rw [if_pos h4] at hF
        refine hJ.aload_n (pc := 20) dX12_doStand_20 rfl ?_
        refine hJ.aload_n (pc := 21) dX12_doStand_21 rfl ?_
        refine hJ.bipush (pc := 22) 12 dX12_doStand_22 bc_12 ?_
        refine hJ.iload_n (pc := 24) dX12_doStand_24 rfl ?_
        refine hJ.aload_n (pc := 25) dX12_doStand_25 rfl ?_
        refine hJ.gR (pc := 26) (k' := 85) (i' := 0) dX12_doStand_26 fr_X12_89 rfl ?_
        refine hJ.iload_n (pc := 29) dX12_doStand_29 rfl ?_
        refine hJ.lialdM (pc := 30) dX12_doStand_30 al_85 h3 ?_
        obtain ⟨r7, S6, h5, hF⟩ := bd_some hF
        refine hJ.cV (pc := 31) [vi 12, vi x1, vi (S 85 0 j2)] [vr 12 0] [vi r7, vr 12 0] dX12_doStand_31 lk_X12_257 (ctX12_ageOf 12 x1 (S 85 0 j2) _ _ _ _ h5) rfl rfl rfl rfl ?_
        refine hJ.aload_n (pc := 34) dX12_doStand_34 rfl ?_
        refine hJ.gR (pc := 35) (k' := 86) (i' := 0) dX12_doStand_35 fr_X12_92 rfl ?_
        refine hJ.iload_n (pc := 38) dX12_doStand_38 rfl ?_
        refine hJ.lialdM (pc := 39) dX12_doStand_39 al_86 h3 ?_
        refine hJ.aload_n (pc := 40) dX12_doStand_40 rfl ?_
        refine hJ.gR (pc := 41) (k' := 87) (i' := 0) dX12_doStand_41 fr_X12_95 rfl ?_
        refine hJ.iload_n (pc := 44) dX12_doStand_44 rfl ?_
        refine hJ.lialdM (pc := 45) dX12_doStand_45 al_87 h3 ?_
        refine hJ.cV (pc := 46) [vi r7, vi (S6 86 0 j2), vi (S6 87 0 j2)] [] [vi (fX12_isIn r7 (S6 86 0 j2) (S6 87 0 j2))] dX12_doStand_46 lk_X12_116 (ctX12_isIn r7 (S6 86 0 j2) (S6 87 0 j2) _ _ (fX12_isIn r7 (S6 86 0 j2) (S6 87 0 j2)) rfl) rfl rfl rfl rfl ?_
        refine hJ.if_ne (pc := 49) 54 dX12_doStand_49 (by decide) (fun h8 => ?_) (fun h8 => ?_)
        · rw [if_neg h8] at hF
          refine hJ.iinc (pc := 54) (x2 + 1) [some (vr 12 0), some (vi x1), some (vi (x2 + 1))] dX12_doStand_54 (by decide) rfl (congrArg (fun z => x2 + z) ic_1) rfl ?_
          refine hJ.goto (pc := 57) 2 dX12_doStand_57 (by decide) ?_
          exact ih x1 (x2 + 1) S6 hF
        · rw [if_pos h8] at hF
          refine hJ.iconst (pc := 52) 0 dX12_doStand_52 ic_0 ?_
          cases hF
          exact hR.n (pc := 53) (by decide) dX12_doStand_53
set_option maxRecDepth 100000 in
set_option maxHeartbeats 4000000 in
theorem ctX12_doStand (p0 : Int32) (Sc S : Mem) (r : Int32) (S' : Mem) (hF : fX12_doStand p0 S = some (r, S')) : Ct yX12_doStand cX12_doStand 3 (some .boolean) 4 94 0 0 [vr 12 0, vi p0] wl0 L0 Sc S (some (vi r)) wl0 L0 Sc S' := by
  refine Ct.of RX12 false (by decide) rfl (fun h => by cases h) (Nat.le_of_ble_eq_true rfl) (fun J hJ hR => ?_)
  rw [fX12_doStand] at hF
  show J 0 [some (vr 12 0), some (vi p0), none] [] wl0 L0 0 0 Sc S
  refine hJ.iconst (pc := 0) 0 dX12_doStand_0 ic_0 ?_
  refine hJ.istore_n (pc := 1) [some (vr 12 0), some (vi p0), some (vi 0)] dX12_doStand_1 (by decide) rfl ?_
  exact wX12_doStand_2 hJ hR 5000 p0 0 S hF
set_option maxRecDepth 100000 in
set_option maxHeartbeats 4000000 in
theorem wX12_findsStanding_23 {J : Nat → Lv → List AV → Obs → Lay → Nat → Nat → Mem → Mem → Prop} (hJ : Cl RX12 cX12_findsStanding 4 5 116 0 0 none false J) {r : Int32} {Sc S' : Mem} (hR : Rk cX12_findsStanding (some .int) (some (vi r)) wl0 L0 0 0 Sc S' J) : ∀ (n : Nat) (x1 : Int32) (x2 : Int32) (x3 : Int32) (S : Mem), fX12_findsStanding_23 n x1 x2 x3 S = some (r, S') → J 23 [some (vr 12 0), some (vi x1), some (vi x2), some (vi x3)] [] wl0 L0 0 0 Sc S := by
  intro n
  induction n with
  | zero =>
    intro x1 x2 x3 S hF
    rw [fX12_findsStanding_23] at hF
    cases hF
  | succ n ih =>
    intro x1 x2 x3 S hF
    rw [fX12_findsStanding_23] at hF
    refine hJ.iload_n (pc := 23) dX12_findsStanding_23 rfl ?_
    refine hJ.aload_n (pc := 24) dX12_findsStanding_24 rfl ?_
    refine hJ.gM (pc := 25) dX12_findsStanding_25 fi_X12_112 ?_
    refine hJ.icmp_ge (pc := 28) 82 dX12_findsStanding_28 (by decide) (fun h7 => ?_) (fun h7 => ?_)
    · rw [if_pos h7] at hF
      refine hJ.iload_n (pc := 82) dX12_findsStanding_82 rfl ?_
      cases hF
      exact hR.i (pc := 83) dX12_findsStanding_83
    · rw [if_neg h7] at hF
      refine hJ.aload_n (pc := 31) dX12_findsStanding_31 rfl ?_
      refine hJ.iload_n (pc := 32) dX12_findsStanding_32 rfl ?_
      refine hJ.aload_n (pc := 33) dX12_findsStanding_33 rfl ?_
      refine hJ.gM (pc := 34) dX12_findsStanding_34 fi_X12_127 ?_
      obtain ⟨r9, h8, hF⟩ := bn_some hF
      refine hJ.cV (pc := 37) [vi x3, vi (S 12 0 2)] [] [vi r9] dX12_findsStanding_37 lk_X12_143 (ctX12_doesLive x3 (S 12 0 2) _ _ _ h8) rfl rfl rfl rfl ?_
      refine hJ.if_ne (pc := 40) 46 dX12_findsStanding_40 (by decide) (fun h10 => ?_) (fun h10 => ?_)
      · rw [if_neg h10] at hF
        refine hJ.aload_n (pc := 46) dX12_findsStanding_46 rfl ?_
        refine hJ.iload_n (pc := 47) dX12_findsStanding_47 rfl ?_
        obtain ⟨S12, h11, hF⟩ := bn_some hF
        refine hJ.cV (pc := 48) [vi x1] [] [] dX12_findsStanding_48 lk_X12_292 (ctX12_thinksOf x1 _ _ _ h11) rfl rfl rfl rfl ?_
        refine hJ.aload_n (pc := 51) dX12_findsStanding_51 rfl ?_
        refine hJ.bipush (pc := 52) 12 dX12_findsStanding_52 bc_12 ?_
        refine hJ.iload_n (pc := 54) dX12_findsStanding_54 rfl ?_
        refine hJ.aload_n (pc := 55) dX12_findsStanding_55 rfl ?_
        refine hJ.gM (pc := 56) dX12_findsStanding_56 fi_X12_127 ?_
        obtain ⟨S14, h13, hF⟩ := bn_some hF
        refine hJ.cV (pc := 59) [vi 12, vi x3, vi (S12 12 0 2)] [] [] dX12_findsStanding_59 lk_X12_266 (ctX12_isRead 12 x3 (S12 12 0 2) _ _ _ h13) rfl rfl rfl rfl ?_
        refine hJ.aload_n (pc := 62) dX12_findsStanding_62 rfl ?_
        refine hJ.iload_n (pc := 63) dX12_findsStanding_63 rfl ?_
        obtain ⟨r17, S16, h15, hF⟩ := bd_some hF
        refine hJ.cV (pc := 64) [vi x1] [] [vi r17] dX12_findsStanding_64 lk_X12_295 (ctX12_doStand x1 _ _ _ _ h15) rfl rfl rfl rfl ?_
        refine hJ.if_eq (pc := 67) 76 dX12_findsStanding_67 (by decide) (fun h18 => ?_) (fun h18 => ?_)
        · rw [if_pos h18] at hF
          refine hJ.iinc (pc := 76) (x3 + 1) [some (vr 12 0), some (vi x1), some (vi x2), some (vi (x3 + 1))] dX12_findsStanding_76 (by decide) rfl (congrArg (fun z => x3 + z) ic_1) rfl ?_
          refine hJ.goto (pc := 79) 23 dX12_findsStanding_79 (by decide) ?_
          exact ih x1 x2 (x3 + 1) S16 hF
        · rw [if_neg h18] at hF
          refine hJ.iload_n (pc := 70) dX12_findsStanding_70 rfl ?_
          refine hJ.iconst (pc := 71) 1 dX12_findsStanding_71 ic_1 ?_
          refine hJ.iload_n (pc := 72) dX12_findsStanding_72 rfl ?_
          refine hJ.ishl (pc := 73) dX12_findsStanding_73 ?_
          refine hJ.ior (pc := 74) dX12_findsStanding_74 ?_
          refine hJ.istore_n (pc := 75) [some (vr 12 0), some (vi x1), some (vi (x2 ||| (1 <<< (x3 &&& 31)))), some (vi x3)] dX12_findsStanding_75 (by decide) rfl ?_
          refine hJ.iinc (pc := 76) (x3 + 1) [some (vr 12 0), some (vi x1), some (vi (x2 ||| (1 <<< (x3 &&& 31)))), some (vi (x3 + 1))] dX12_findsStanding_76 (by decide) rfl (congrArg (fun z => x3 + z) ic_1) rfl ?_
          refine hJ.goto (pc := 79) 23 dX12_findsStanding_79 (by decide) ?_
          exact ih x1 (x2 ||| (1 <<< (x3 &&& 31))) (x3 + 1) S16 hF
      · rw [if_pos h10] at hF
        refine hJ.goto (pc := 43) 76 dX12_findsStanding_43 (by decide) ?_
        refine hJ.iinc (pc := 76) (x3 + 1) [some (vr 12 0), some (vi x1), some (vi x2), some (vi (x3 + 1))] dX12_findsStanding_76 (by decide) rfl (congrArg (fun z => x3 + z) ic_1) rfl ?_
        refine hJ.goto (pc := 79) 23 dX12_findsStanding_79 (by decide) ?_
        exact ih x1 x2 (x3 + 1) S hF
set_option maxRecDepth 100000 in
set_option maxHeartbeats 4000000 in
theorem wX12_findsStanding_20 {J : Nat → Lv → List AV → Obs → Lay → Nat → Nat → Mem → Mem → Prop} (hJ : Cl RX12 cX12_findsStanding 4 5 116 0 0 none false J) {r : Int32} {Sc S' : Mem} (hR : Rk cX12_findsStanding (some .int) (some (vi r)) wl0 L0 0 0 Sc S' J) (x1 : Int32) (y0 : Int32) (S : Mem) (hF : fX12_findsStanding_20 x1 y0 S = some (r, S')) : J 20 [some (vr 12 0), some (vi x1), none, none] [vi y0] wl0 L0 0 0 Sc S := by
  rw [fX12_findsStanding_20] at hF
  refine hJ.istore_n (pc := 20) [some (vr 12 0), some (vi x1), some (vi y0), none] dX12_findsStanding_20 (by decide) rfl ?_
  refine hJ.iconst (pc := 21) 0 dX12_findsStanding_21 ic_0 ?_
  refine hJ.istore_n (pc := 22) [some (vr 12 0), some (vi x1), some (vi y0), some (vi 0)] dX12_findsStanding_22 (by decide) rfl ?_
  exact wX12_findsStanding_23 hJ hR 5000 x1 y0 0 S hF
set_option maxRecDepth 100000 in
set_option maxHeartbeats 4000000 in
theorem ctX12_findsStanding (p0 : Int32) (Sc S : Mem) (r : Int32) (S' : Mem) (hF : fX12_findsStanding p0 S = some (r, S')) : Ct yX12_findsStanding cX12_findsStanding 4 (some .int) 5 116 0 0 [vr 12 0, vi p0] wl0 L0 Sc S (some (vi r)) wl0 L0 Sc S' := by
  refine Ct.of RX12 false (by decide) rfl (fun h => by cases h) (Nat.le_of_ble_eq_true rfl) (fun J hJ hR => ?_)
  rw [fX12_findsStanding] at hF
  show J 0 [some (vr 12 0), some (vi p0), none, none] [] wl0 L0 0 0 Sc S
  refine hJ.aload_n (pc := 0) dX12_findsStanding_0 rfl ?_
  refine hJ.iload_n (pc := 1) dX12_findsStanding_1 rfl ?_
  obtain ⟨S2, h1, hF⟩ := bn_some hF
  refine hJ.cV (pc := 2) [vi p0] [] [] dX12_findsStanding_2 lk_X12_292 (ctX12_thinksOf p0 _ _ _ h1) rfl rfl rfl rfl ?_
  refine hJ.aload_n (pc := 5) dX12_findsStanding_5 rfl ?_
  refine hJ.iload_n (pc := 6) dX12_findsStanding_6 rfl ?_
  obtain ⟨r5, S4, h3, hF⟩ := bd_some hF
  refine hJ.cV (pc := 7) [vi p0] [] [vi r5] dX12_findsStanding_7 lk_X12_295 (ctX12_doStand p0 _ _ _ _ h3) rfl rfl rfl rfl ?_
  refine hJ.if_eq (pc := 10) 19 dX12_findsStanding_10 (by decide) (fun h6 => ?_) (fun h6 => ?_)
  · rw [if_pos h6] at hF
    refine hJ.iconst (pc := 19) 0 dX12_findsStanding_19 ic_0 ?_
    exact wX12_findsStanding_20 hJ hR p0 0 S4 hF
  · rw [if_neg h6] at hF
    refine hJ.sipush (pc := 13) 4096 dX12_findsStanding_13 sc_4096 ?_
    refine hJ.goto (pc := 16) 20 dX12_findsStanding_16 (by decide) ?_
    exact wX12_findsStanding_20 hJ hR p0 4096 S4 hF
set_option maxRecDepth 100000 in
set_option maxHeartbeats 4000000 in
theorem wX12_fewest_194 {J : Nat → Lv → List AV → Obs → Lay → Nat → Nat → Mem → Mem → Prop} (hJ : Cl RX12 cX12_fewest 5 6 139 0 0 none false J) {r : Int32} {Sc S' : Mem} (hR : Rk cX12_fewest (some .int) (some (vi r)) wl0 L0 0 0 Sc S' J) : ∀ (n : Nat) (x2 : Int32) (x3 : Int32) (x4 : Int32) (S : Mem), fX12_fewest_194 n x2 x3 x4 S = some (r, S') → J 194 [some (vr 12 0), none, some (vi x2), some (vi x3), some (vi x4)] [] wl0 L0 0 0 Sc S := by
  intro n
  induction n with
  | zero =>
    intro x2 x3 x4 S hF
    rw [fX12_fewest_194] at hF
    cases hF
  | succ n ih =>
    intro x2 x3 x4 S hF
    rw [fX12_fewest_194] at hF
    refine hJ.aload_n (pc := 194) dX12_fewest_194 rfl ?_
    refine hJ.gR (pc := 195) (k' := 88) (i' := 0) dX12_fewest_195 fr_X12_98 rfl ?_
    refine hJ.iload_n (pc := 198) dX12_fewest_198 rfl ?_
    obtain ⟨j10, h11, hF⟩ := bn_some hF
    refine hJ.lialdM (pc := 199) dX12_fewest_199 al_88 h11 ?_
    refine hJ.iload_n (pc := 200) dX12_fewest_200 rfl ?_
    refine hJ.iand (pc := 201) dX12_fewest_201 ?_
    refine hJ.iconst (pc := 202) 1 dX12_fewest_202 ic_1 ?_
    refine hJ.iload (pc := 203) dX12_fewest_203 rfl ?_
    refine hJ.ishl (pc := 205) dX12_fewest_205 ?_
    refine hJ.iand (pc := 206) dX12_fewest_206 ?_
    refine hJ.if_ne (pc := 207) 219 dX12_fewest_207 (by decide) (fun h12 => ?_) (fun h12 => ?_)
    · rw [if_neg h12] at hF
      refine hJ.iload (pc := 219) dX12_fewest_219 rfl ?_
      cases hF
      exact hR.i (pc := 221) dX12_fewest_221
    · rw [if_pos h12] at hF
      refine hJ.iload (pc := 210) dX12_fewest_210 rfl ?_
      refine hJ.iconst (pc := 212) 1 dX12_fewest_212 ic_1 ?_
      refine hJ.iadd (pc := 213) dX12_fewest_213 ?_
      refine hJ.istore (pc := 214) [some (vr 12 0), none, some (vi x2), some (vi x3), some (vi (x4 + 1))] dX12_fewest_214 (by decide) rfl ?_
      refine hJ.goto (pc := 216) 194 dX12_fewest_216 (by decide) ?_
      exact ih x2 x3 (x4 + 1) S hF
set_option maxRecDepth 100000 in
set_option maxHeartbeats 4000000 in
theorem wX12_fewest_105 {J : Nat → Lv → List AV → Obs → Lay → Nat → Nat → Mem → Mem → Prop} (hJ : Cl RX12 cX12_fewest 5 6 139 0 0 none false J) {r : Int32} {Sc S' : Mem} (hR : Rk cX12_fewest (some .int) (some (vi r)) wl0 L0 0 0 Sc S' J) : ∀ (n : Nat) (x1 : Int32) (x2 : Int32) (x3 : Int32) (x4 : Int32) (S : Mem), fX12_fewest_105 n x1 x2 x3 x4 S = some (r, S') → J 105 [some (vr 12 0), some (vi x1), some (vi x2), some (vi x3), some (vi x4)] [] wl0 L0 0 0 Sc S := by
  intro n
  induction n with
  | zero =>
    intro x1 x2 x3 x4 S hF
    rw [fX12_fewest_105] at hF
    cases hF
  | succ n ih =>
    intro x1 x2 x3 x4 S hF
    rw [fX12_fewest_105] at hF
    refine hJ.iload (pc := 105) dX12_fewest_105 rfl ?_
    refine hJ.iconst (pc := 107) 1 dX12_fewest_107 ic_1 ?_
    refine hJ.aload_n (pc := 108) dX12_fewest_108 rfl ?_
    refine hJ.gM (pc := 109) dX12_fewest_109 fi_X12_112 ?_
    refine hJ.ishl (pc := 112) dX12_fewest_112 ?_
    refine hJ.icmp_ge (pc := 113) 165 dX12_fewest_113 (by decide) (fun h4 => ?_) (fun h4 => ?_)
    · rw [if_pos h4] at hF
      refine hJ.iload_n (pc := 165) dX12_fewest_165 rfl ?_
      refine hJ.if_eq (pc := 166) 174 dX12_fewest_166 (by decide) (fun h5 => ?_) (fun h5 => ?_)
      · rw [if_pos h5] at hF
        refine hJ.iload_n (pc := 174) dX12_fewest_174 rfl ?_
        cases hF
        exact hR.i (pc := 175) dX12_fewest_175
      · rw [if_neg h5] at hF
        refine hJ.iload_n (pc := 169) dX12_fewest_169 rfl ?_
        refine hJ.iconst (pc := 170) (-1) dX12_fewest_170 ic_m1 ?_
        refine hJ.icmp_ne (pc := 171) 176 dX12_fewest_171 (by decide) (fun h6 => ?_) (fun h6 => ?_)
        · rw [if_neg h6] at hF
          refine hJ.aload_n (pc := 176) dX12_fewest_176 rfl ?_
          refine hJ.gR (pc := 177) (k' := 88) (i' := 0) dX12_fewest_177 fr_X12_98 rfl ?_
          refine hJ.iload_n (pc := 180) dX12_fewest_180 rfl ?_
          obtain ⟨j7, h8, hF⟩ := bn_some hF
          refine hJ.lialdM (pc := 181) dX12_fewest_181 al_88 h8 ?_
          refine hJ.sipush (pc := 182) 4096 dX12_fewest_182 sc_4096 ?_
          refine hJ.iand (pc := 185) dX12_fewest_185 ?_
          refine hJ.if_eq (pc := 186) 191 dX12_fewest_186 (by decide) (fun h9 => ?_) (fun h9 => ?_)
          · rw [if_pos h9] at hF
            refine hJ.iconst (pc := 191) 0 dX12_fewest_191 ic_0 ?_
            refine hJ.istore (pc := 192) [some (vr 12 0), some (vi x1), some (vi x2), some (vi x3), some (vi 0)] dX12_fewest_192 (by decide) rfl ?_
            refine hJ.weak [some (vr 12 0), none, some (vi x2), some (vi x3), some (vi 0)] ⟨rfl, rfl, rfl, rfl, trivial⟩ ?_
            exact wX12_fewest_194 hJ hR 5000 x2 x3 0 S hF
          · rw [if_neg h9] at hF
            refine hJ.iconst (pc := 189) (-1) dX12_fewest_189 ic_m1 ?_
            cases hF
            exact hR.i (pc := 190) dX12_fewest_190
        · rw [if_pos h6] at hF
          refine hJ.iload_n (pc := 174) dX12_fewest_174 rfl ?_
          cases hF
          exact hR.i (pc := 175) dX12_fewest_175
    · rw [if_neg h4] at hF
      refine hJ.iload (pc := 116) dX12_fewest_116 rfl ?_
      refine hJ.aload_n (pc := 118) dX12_fewest_118 rfl ?_
      obtain ⟨r14, h13, hF⟩ := bn_some hF
      refine hJ.cV (pc := 119) [] [vi x4] [vi r14, vi x4] dX12_fewest_119 lk_X12_304 (ctX12_livingNow _ _ _ h13) rfl rfl rfl rfl ?_
      refine hJ.iconst (pc := 122) (-1) dX12_fewest_122 ic_m1 ?_
      refine hJ.ixor (pc := 123) dX12_fewest_123 ?_
      refine hJ.iand (pc := 124) dX12_fewest_124 ?_
      refine hJ.if_ne (pc := 125) 159 dX12_fewest_125 (by decide) (fun h15 => ?_) (fun h15 => ?_)
      · rw [if_neg h15] at hF
        refine hJ.iinc (pc := 159) (x4 + 1) [some (vr 12 0), some (vi x1), some (vi x2), some (vi x3), some (vi (x4 + 1))] dX12_fewest_159 (by decide) rfl (congrArg (fun z => x4 + z) ic_1) rfl ?_
        refine hJ.goto (pc := 162) 105 dX12_fewest_162 (by decide) ?_
        exact ih x1 x2 x3 (x4 + 1) S hF
      · rw [if_pos h15] at hF
        refine hJ.iload_n (pc := 128) dX12_fewest_128 rfl ?_
        refine hJ.iconst (pc := 129) (-1) dX12_fewest_129 ic_m1 ?_
        refine hJ.icmp_eq (pc := 130) 147 dX12_fewest_130 (by decide) (fun h16 => ?_) (fun h16 => ?_)
        · rw [if_pos h16] at hF
          refine hJ.aload_n (pc := 147) dX12_fewest_147 rfl ?_
          refine hJ.iload (pc := 148) dX12_fewest_148 rfl ?_
          obtain ⟨r18, h17, hF⟩ := bn_some hF
          refine hJ.cV (pc := 150) [vi x4] [] [vi r18] dX12_fewest_150 lk_X12_310 (ctX12_areEnough x4 _ _ _ h17) rfl rfl rfl rfl ?_
          refine hJ.if_eq (pc := 153) 159 dX12_fewest_153 (by decide) (fun h19 => ?_) (fun h19 => ?_)
          · rw [if_pos h19] at hF
            refine hJ.iinc (pc := 159) (x4 + 1) [some (vr 12 0), some (vi x1), some (vi x2), some (vi x3), some (vi (x4 + 1))] dX12_fewest_159 (by decide) rfl (congrArg (fun z => x4 + z) ic_1) rfl ?_
            refine hJ.goto (pc := 162) 105 dX12_fewest_162 (by decide) ?_
            exact ih x1 x2 x3 (x4 + 1) S hF
          · rw [if_neg h19] at hF
            refine hJ.iload (pc := 156) dX12_fewest_156 rfl ?_
            refine hJ.istore_n (pc := 158) [some (vr 12 0), some (vi x1), some (vi x2), some (vi x4), some (vi x4)] dX12_fewest_158 (by decide) rfl ?_
            refine hJ.iinc (pc := 159) (x4 + 1) [some (vr 12 0), some (vi x1), some (vi x2), some (vi x4), some (vi (x4 + 1))] dX12_fewest_159 (by decide) rfl (congrArg (fun z => x4 + z) ic_1) rfl ?_
            refine hJ.goto (pc := 162) 105 dX12_fewest_162 (by decide) ?_
            exact ih x1 x2 x4 (x4 + 1) S hF
        · rw [if_neg h16] at hF
          refine hJ.aload_n (pc := 133) dX12_fewest_133 rfl ?_
          refine hJ.iload (pc := 134) dX12_fewest_134 rfl ?_
          obtain ⟨r21, h20, hF⟩ := bn_some hF
          refine hJ.cV (pc := 136) [vi x4] [] [vi r21] dX12_fewest_136 lk_X12_307 (ctX12_ones x4 _ _ _ h20) rfl rfl rfl rfl ?_
          refine hJ.aload_n (pc := 139) dX12_fewest_139 rfl ?_
          refine hJ.iload_n (pc := 140) dX12_fewest_140 rfl ?_
          obtain ⟨r23, h22, hF⟩ := bn_some hF
          refine hJ.cV (pc := 141) [vi x3] [vi r21] [vi r23, vi r21] dX12_fewest_141 lk_X12_307 (ctX12_ones x3 _ _ _ h22) rfl rfl rfl rfl ?_
          refine hJ.icmp_ge (pc := 144) 159 dX12_fewest_144 (by decide) (fun h24 => ?_) (fun h24 => ?_)
          · rw [if_pos h24] at hF
            refine hJ.iinc (pc := 159) (x4 + 1) [some (vr 12 0), some (vi x1), some (vi x2), some (vi x3), some (vi (x4 + 1))] dX12_fewest_159 (by decide) rfl (congrArg (fun z => x4 + z) ic_1) rfl ?_
            refine hJ.goto (pc := 162) 105 dX12_fewest_162 (by decide) ?_
            exact ih x1 x2 x3 (x4 + 1) S hF
          · rw [if_neg h24] at hF
            refine hJ.aload_n (pc := 147) dX12_fewest_147 rfl ?_
            refine hJ.iload (pc := 148) dX12_fewest_148 rfl ?_
            obtain ⟨r26, h25, hF⟩ := bn_some hF
            refine hJ.cV (pc := 150) [vi x4] [] [vi r26] dX12_fewest_150 lk_X12_310 (ctX12_areEnough x4 _ _ _ h25) rfl rfl rfl rfl ?_
            refine hJ.if_eq (pc := 153) 159 dX12_fewest_153 (by decide) (fun h27 => ?_) (fun h27 => ?_)
            · rw [if_pos h27] at hF
              refine hJ.iinc (pc := 159) (x4 + 1) [some (vr 12 0), some (vi x1), some (vi x2), some (vi x3), some (vi (x4 + 1))] dX12_fewest_159 (by decide) rfl (congrArg (fun z => x4 + z) ic_1) rfl ?_
              refine hJ.goto (pc := 162) 105 dX12_fewest_162 (by decide) ?_
              exact ih x1 x2 x3 (x4 + 1) S hF
            · rw [if_neg h27] at hF
              refine hJ.iload (pc := 156) dX12_fewest_156 rfl ?_
              refine hJ.istore_n (pc := 158) [some (vr 12 0), some (vi x1), some (vi x2), some (vi x4), some (vi x4)] dX12_fewest_158 (by decide) rfl ?_
              refine hJ.iinc (pc := 159) (x4 + 1) [some (vr 12 0), some (vi x1), some (vi x2), some (vi x4), some (vi (x4 + 1))] dX12_fewest_159 (by decide) rfl (congrArg (fun z => x4 + z) ic_1) rfl ?_
              refine hJ.goto (pc := 162) 105 dX12_fewest_162 (by decide) ?_
              exact ih x1 x2 x4 (x4 + 1) S hF
set_option maxRecDepth 100000 in
set_option maxHeartbeats 4000000 in
theorem wX12_fewest_57 {J : Nat → Lv → List AV → Obs → Lay → Nat → Nat → Mem → Mem → Prop} (hJ : Cl RX12 cX12_fewest 5 6 139 0 0 none false J) {r : Int32} {Sc S' : Mem} (hR : Rk cX12_fewest (some .int) (some (vi r)) wl0 L0 0 0 Sc S' J) : ∀ (n : Nat) (x1 : Int32) (x2 : Int32) (x3 : Int32) (S : Mem), fX12_fewest_57 n x1 x2 x3 S = some (r, S') → J 57 [some (vr 12 0), some (vi x1), some (vi x2), some (vi x3), none] [] wl0 L0 0 0 Sc S := by
  intro n
  induction n with
  | zero =>
    intro x1 x2 x3 S hF
    rw [fX12_fewest_57] at hF
    cases hF
  | succ n ih =>
    intro x1 x2 x3 S hF
    rw [fX12_fewest_57] at hF
    refine hJ.iload_n (pc := 57) dX12_fewest_57 rfl ?_
    refine hJ.aload_n (pc := 58) dX12_fewest_58 rfl ?_
    refine hJ.gM (pc := 59) dX12_fewest_59 fi_X12_130 ?_
    refine hJ.icmp_ge (pc := 62) 100 dX12_fewest_62 (by decide) (fun h3 => ?_) (fun h3 => ?_)
    · rw [if_pos h3] at hF
      refine hJ.iconst (pc := 100) (-1) dX12_fewest_100 ic_m1 ?_
      refine hJ.istore_n (pc := 101) [some (vr 12 0), some (vi x1), some (vi x2), some (vi (-1)), none] dX12_fewest_101 (by decide) rfl ?_
      refine hJ.iconst (pc := 102) 0 dX12_fewest_102 ic_0 ?_
      refine hJ.istore (pc := 103) [some (vr 12 0), some (vi x1), some (vi x2), some (vi (-1)), some (vi 0)] dX12_fewest_103 (by decide) rfl ?_
      exact wX12_fewest_105 hJ hR 5000 x1 x2 (-1) 0 S hF
    · rw [if_neg h3] at hF
      refine hJ.aload_n (pc := 65) dX12_fewest_65 rfl ?_
      refine hJ.gR (pc := 66) (k' := 88) (i' := 0) dX12_fewest_66 fr_X12_98 rfl ?_
      refine hJ.iload_n (pc := 69) dX12_fewest_69 rfl ?_
      refine hJ.aload_n (pc := 70) dX12_fewest_70 rfl ?_
      obtain ⟨r29, h28, hF⟩ := bn_some hF
      refine hJ.cV (pc := 71) [] [vi x3, vr 88 0] [vi r29, vi x3, vr 88 0] dX12_fewest_71 lk_X12_298 (ctX12_claimed _ _ _ h28) rfl rfl rfl rfl ?_
      refine hJ.iload_n (pc := 74) dX12_fewest_74 rfl ?_
      refine hJ.ishr (pc := 75) dX12_fewest_75 ?_
      refine hJ.iconst (pc := 76) 1 dX12_fewest_76 ic_1 ?_
      refine hJ.iand (pc := 77) dX12_fewest_77 ?_
      refine hJ.iconst (pc := 78) 1 dX12_fewest_78 ic_1 ?_
      refine hJ.icmp_ne (pc := 79) 90 dX12_fewest_79 (by decide) (fun h30 => ?_) (fun h30 => ?_)
      · rw [if_neg h30] at hF
        refine hJ.sipush (pc := 90) 4096 dX12_fewest_90 sc_4096 ?_
        obtain ⟨j36, h37, hF⟩ := bn_some hF
        refine hJ.siastM (pc := 93) dX12_fewest_93 al_88 h37 ?_
        refine hJ.iinc (pc := 94) (x3 + 1) [some (vr 12 0), some (vi x1), some (vi x2), some (vi (x3 + 1)), none] dX12_fewest_94 (by decide) rfl (congrArg (fun z => x3 + z) ic_1) rfl ?_
        refine hJ.goto (pc := 97) 57 dX12_fewest_97 (by decide) ?_
        exact ih x1 x2 (x3 + 1) (up S 88 0 j36 4096) hF
      · rw [if_pos h30] at hF
        refine hJ.aload_n (pc := 82) dX12_fewest_82 rfl ?_
        refine hJ.iload_n (pc := 83) dX12_fewest_83 rfl ?_
        obtain ⟨r33, S32, h31, hF⟩ := bd_some hF
        refine hJ.cV (pc := 84) [vi x3] [vi x3, vr 88 0] [vi r33, vi x3, vr 88 0] dX12_fewest_84 lk_X12_301 (ctX12_findsStanding x3 _ _ _ _ h31) rfl rfl rfl rfl ?_
        refine hJ.goto (pc := 87) 93 dX12_fewest_87 (by decide) ?_
        obtain ⟨j34, h35, hF⟩ := bn_some hF
        refine hJ.siastM (pc := 93) dX12_fewest_93 al_88 h35 ?_
        refine hJ.iinc (pc := 94) (x3 + 1) [some (vr 12 0), some (vi x1), some (vi x2), some (vi (x3 + 1)), none] dX12_fewest_94 (by decide) rfl (congrArg (fun z => x3 + z) ic_1) rfl ?_
        refine hJ.goto (pc := 97) 57 dX12_fewest_97 (by decide) ?_
        exact ih x1 x2 (x3 + 1) (up S32 88 0 j34 r33) hF
set_option maxRecDepth 100000 in
set_option maxHeartbeats 4000000 in
theorem wX12_fewest_26 {J : Nat → Lv → List AV → Obs → Lay → Nat → Nat → Mem → Mem → Prop} (hJ : Cl RX12 cX12_fewest 5 6 139 0 0 none false J) {r : Int32} {Sc S' : Mem} (hR : Rk cX12_fewest (some .int) (some (vi r)) wl0 L0 0 0 Sc S' J) : ∀ (n : Nat) (x1 : Int32) (x2 : Int32) (x3 : Int32) (S : Mem), fX12_fewest_26 n x1 x2 x3 S = some (r, S') → J 26 [some (vr 12 0), some (vi x1), some (vi x2), some (vi x3), none] [] wl0 L0 0 0 Sc S := by
  intro n
  induction n with
  | zero =>
    intro x1 x2 x3 S hF
    rw [fX12_fewest_26] at hF
    cases hF
  | succ n ih =>
    intro x1 x2 x3 S hF
    rw [fX12_fewest_26] at hF
    refine hJ.iload_n (pc := 26) dX12_fewest_26 rfl ?_
    refine hJ.aload_n (pc := 27) dX12_fewest_27 rfl ?_
    refine hJ.gM (pc := 28) dX12_fewest_28 fi_X12_289 ?_
    refine hJ.icmp_ge (pc := 31) 55 dX12_fewest_31 (by decide) (fun h2 => ?_) (fun h2 => ?_)
    · rw [if_pos h2] at hF
      refine hJ.iconst (pc := 55) 0 dX12_fewest_55 ic_0 ?_
      refine hJ.istore_n (pc := 56) [some (vr 12 0), some (vi x1), some (vi x2), some (vi 0), none] dX12_fewest_56 (by decide) rfl ?_
      exact wX12_fewest_57 hJ hR 5000 x1 x2 0 S hF
    · rw [if_neg h2] at hF
      refine hJ.aload_n (pc := 34) dX12_fewest_34 rfl ?_
      refine hJ.gR (pc := 35) (k' := 85) (i' := 0) dX12_fewest_35 fr_X12_89 rfl ?_
      refine hJ.iload_n (pc := 38) dX12_fewest_38 rfl ?_
      obtain ⟨j38, h39, hF⟩ := bn_some hF
      refine hJ.lialdM (pc := 39) dX12_fewest_39 al_85 h39 ?_
      refine hJ.aload_n (pc := 40) dX12_fewest_40 rfl ?_
      refine hJ.gM (pc := 41) dX12_fewest_41 fi_X12_127 ?_
      refine hJ.icmp_ge (pc := 44) 49 dX12_fewest_44 (by decide) (fun h40 => ?_) (fun h40 => ?_)
      · rw [if_pos h40] at hF
        refine hJ.iinc (pc := 49) (x3 + 1) [some (vr 12 0), some (vi x1), some (vi x2), some (vi (x3 + 1)), none] dX12_fewest_49 (by decide) rfl (congrArg (fun z => x3 + z) ic_1) rfl ?_
        refine hJ.goto (pc := 52) 26 dX12_fewest_52 (by decide) ?_
        exact ih x1 x2 (x3 + 1) S hF
      · rw [if_neg h40] at hF
        refine hJ.iconst (pc := 47) (-1) dX12_fewest_47 ic_m1 ?_
        cases hF
        exact hR.i (pc := 48) dX12_fewest_48
set_option maxRecDepth 100000 in
set_option maxHeartbeats 4000000 in
theorem wX12_fewest_24 {J : Nat → Lv → List AV → Obs → Lay → Nat → Nat → Mem → Mem → Prop} (hJ : Cl RX12 cX12_fewest 5 6 139 0 0 none false J) {r : Int32} {Sc S' : Mem} (hR : Rk cX12_fewest (some .int) (some (vi r)) wl0 L0 0 0 Sc S' J) (x1 : Int32) (x2 : Int32) (S : Mem) (hF : fX12_fewest_24 x1 x2 S = some (r, S')) : J 24 [some (vr 12 0), some (vi x1), some (vi x2), none, none] [] wl0 L0 0 0 Sc S := by
  rw [fX12_fewest_24] at hF
  refine hJ.iconst (pc := 24) 0 dX12_fewest_24 ic_0 ?_
  refine hJ.istore_n (pc := 25) [some (vr 12 0), some (vi x1), some (vi x2), some (vi 0), none] dX12_fewest_25 (by decide) rfl ?_
  exact wX12_fewest_26 hJ hR 5000 x1 x2 0 S hF
set_option maxRecDepth 100000 in
set_option maxHeartbeats 4000000 in
theorem ctX12_fewest (p0 : Int32) (Sc S : Mem) (r : Int32) (S' : Mem) (hF : fX12_fewest p0 S = some (r, S')) : Ct yX12_fewest cX12_fewest 5 (some .int) 6 139 0 0 [vr 12 0, vi p0] wl0 L0 Sc S (some (vi r)) wl0 L0 Sc S' := by
  refine Ct.of RX12 false (by decide) rfl (fun h => by cases h) (Nat.le_of_ble_eq_true rfl) (fun J hJ hR => ?_)
  rw [fX12_fewest] at hF
  show J 0 [some (vr 12 0), some (vi p0), none, none, none] [] wl0 L0 0 0 Sc S
  refine hJ.aload_n (pc := 0) dX12_fewest_0 rfl ?_
  refine hJ.iconst (pc := 1) 0 dX12_fewest_1 ic_0 ?_
  refine hJ.pIM (pc := 2) dX12_fewest_2 fp_X12_104 ?_
  refine hJ.iload_n (pc := 5) dX12_fewest_5 rfl ?_
  refine hJ.bipush (pc := 6) 10 dX12_fewest_6 bc_10 ?_
  refine hJ.isub (pc := 8) dX12_fewest_8 ?_
  refine hJ.istore_n (pc := 9) [some (vr 12 0), some (vi p0), some (vi (p0 - 10)), none, none] dX12_fewest_9 (by decide) rfl ?_
  refine hJ.iload_n (pc := 10) dX12_fewest_10 rfl ?_
  refine hJ.if_eq (pc := 11) 24 dX12_fewest_11 (by decide) (fun h1 => ?_) (fun h1 => ?_)
  · rw [if_pos h1] at hF
    exact wX12_fewest_24 hJ hR p0 (p0 - 10) (up S 12 0 0 0) hF
  · rw [if_neg h1] at hF
    refine hJ.aload_n (pc := 14) dX12_fewest_14 rfl ?_
    refine hJ.iload_n (pc := 15) dX12_fewest_15 rfl ?_
    refine hJ.cV (pc := 16) [vi (p0 - 10)] [] [vi (fX12_isPaper (p0 - 10) (up S 12 0 0 0))] dX12_fewest_16 lk_X12_140 (ctX12_isPaper (p0 - 10) _ _ (fX12_isPaper (p0 - 10) (up S 12 0 0 0)) rfl) rfl rfl rfl rfl ?_
    refine hJ.if_ne (pc := 19) 24 dX12_fewest_19 (by decide) (fun h41 => ?_) (fun h41 => ?_)
    · rw [if_neg h41] at hF
      exact wX12_fewest_24 hJ hR p0 (p0 - 10) (up S 12 0 0 0) hF
    · rw [if_pos h41] at hF
      refine hJ.iconst (pc := 22) (-1) dX12_fewest_22 ic_m1 ?_
      cases hF
      exact hR.i (pc := 23) dX12_fewest_23
set_option maxRecDepth 100000 in
set_option maxHeartbeats 4000000 in
theorem wX12_thumbs_96 {J : Nat → Lv → List AV → Obs → Lay → Nat → Nat → Mem → Mem → Prop} (hJ : Cl RX12 cX12_thumbs 10 4 94 0 0 none false J) {Sc : Mem} : ∀ (n : Nat) (x1 : Int32) (x2 : Int32) (x3 : Int32) (x4 : Int32) (x5 : Int32) (x6 : Int32) (x7 : Int32) (x8 : Int32) (x9 : Int32) (S : Mem) {v5 : Int32} {v6 : Int32} {v7 : Int32} {S' : Mem}, fX12_thumbs_96 n x1 x2 x3 x4 x5 x6 x7 x8 x9 S = some (v5, v6, v7, S') → J 192 [some (vr 12 0), some (vi x1), some (vi x2), some (vi x3), some (vi x4), some (vi v5), some (vi v6), some (vi v7), some (vi x8), none] [] wl0 L0 0 0 Sc (S') → J 96 [some (vr 12 0), some (vi x1), some (vi x2), some (vi x3), some (vi x4), some (vi x5), some (vi x6), some (vi x7), some (vi x8), some (vi x9)] [] wl0 L0 0 0 Sc S := by
  intro n
  induction n with
  | zero =>
    intro x1 x2 x3 x4 x5 x6 x7 x8 x9 S v5 v6 v7 S' hF hK
    rw [fX12_thumbs_96] at hF
    cases hF
  | succ n ih =>
    intro x1 x2 x3 x4 x5 x6 x7 x8 x9 S v5 v6 v7 S' hF hK
    rw [fX12_thumbs_96] at hF
    refine hJ.iload (pc := 96) dX12_thumbs_96 rfl ?_
    refine hJ.aload_n (pc := 98) dX12_thumbs_98 rfl ?_
    refine hJ.gM (pc := 99) dX12_thumbs_99 fi_X12_127 ?_
    refine hJ.icmp_gt (pc := 102) 192 dX12_thumbs_102 (by decide) (fun h10 => ?_) (fun h10 => ?_)
    · rw [if_pos h10] at hF
      cases hF
      refine hJ.weak [some (vr 12 0), some (vi x1), some (vi x2), some (vi x3), some (vi x4), some (vi x5), some (vi x6), some (vi x7), some (vi x8), none] ⟨rfl, rfl, rfl, rfl, rfl, rfl, rfl, rfl, rfl, trivial⟩ ?_
      exact hK
    · rw [if_neg h10] at hF
      refine hJ.aload_n (pc := 105) dX12_thumbs_105 rfl ?_
      refine hJ.iload (pc := 106) dX12_thumbs_106 rfl ?_
      refine hJ.iload (pc := 108) dX12_thumbs_108 rfl ?_
      obtain ⟨r12, h11, hF⟩ := bn_some hF
      refine hJ.cV (pc := 110) [vi x8, vi x9] [] [vi r12] dX12_thumbs_110 lk_X12_143 (ctX12_doesLive x8 x9 _ _ _ h11) rfl rfl rfl rfl ?_
      refine hJ.if_ne (pc := 113) 119 dX12_thumbs_113 (by decide) (fun h13 => ?_) (fun h13 => ?_)
      · rw [if_neg h13] at hF
        refine hJ.aload_n (pc := 119) dX12_thumbs_119 rfl ?_
        refine hJ.iload_n (pc := 120) dX12_thumbs_120 rfl ?_
        obtain ⟨S15, h14, hF⟩ := bn_some hF
        refine hJ.cV (pc := 121) [vi x1] [] [] dX12_thumbs_121 lk_X12_292 (ctX12_thinksOf x1 _ _ _ h14) rfl rfl rfl rfl ?_
        refine hJ.aload_n (pc := 124) dX12_thumbs_124 rfl ?_
        refine hJ.bipush (pc := 125) 12 dX12_thumbs_125 bc_12 ?_
        refine hJ.iload (pc := 127) dX12_thumbs_127 rfl ?_
        refine hJ.iload (pc := 129) dX12_thumbs_129 rfl ?_
        obtain ⟨S17, h16, hF⟩ := bn_some hF
        refine hJ.cV (pc := 131) [vi 12, vi x8, vi x9] [] [] dX12_thumbs_131 lk_X12_266 (ctX12_isRead 12 x8 x9 _ _ _ h16) rfl rfl rfl rfl ?_
        refine hJ.aload_n (pc := 134) dX12_thumbs_134 rfl ?_
        refine hJ.bipush (pc := 135) 12 dX12_thumbs_135 bc_12 ?_
        refine hJ.iload_n (pc := 137) dX12_thumbs_137 rfl ?_
        refine hJ.aload_n (pc := 138) dX12_thumbs_138 rfl ?_
        refine hJ.gM (pc := 139) dX12_thumbs_139 fi_X12_127 ?_
        obtain ⟨r20, S19, h18, hF⟩ := bd_some hF
        refine hJ.cV (pc := 142) [vi 12, vi x1, vi (S17 12 0 2)] [] [vi r20] dX12_thumbs_142 lk_X12_257 (ctX12_ageOf 12 x1 (S17 12 0 2) _ _ _ _ h18) rfl rfl rfl rfl ?_
        refine hJ.iload_n (pc := 145) dX12_thumbs_145 rfl ?_
        refine hJ.icmp_eq (pc := 146) 152 dX12_thumbs_146 (by decide) (fun h21 => ?_) (fun h21 => ?_)
        · rw [if_pos h21] at hF
          refine hJ.iload (pc := 152) dX12_thumbs_152 rfl ?_
          refine hJ.if_ne (pc := 154) 162 dX12_thumbs_154 (by decide) (fun h22 => ?_) (fun h22 => ?_)
          · rw [if_neg h22] at hF
            refine hJ.iload (pc := 162) dX12_thumbs_162 rfl ?_
            refine hJ.istore (pc := 164) [some (vr 12 0), some (vi x1), some (vi x2), some (vi x3), some (vi x4), some (vi x5), some (vi x6), some (vi x7), some (vi x8), some (vi x9)] dX12_thumbs_164 (by decide) rfl ?_
            refine hJ.iload (pc := 166) dX12_thumbs_166 rfl ?_
            refine hJ.if_ne (pc := 168) 176 dX12_thumbs_168 (by decide) (fun _ => ?_) (fun h0 => absurd h0 h22)
            refine hJ.iload (pc := 176) dX12_thumbs_176 rfl ?_
            refine hJ.istore (pc := 178) [some (vr 12 0), some (vi x1), some (vi x2), some (vi x3), some (vi x4), some (vi x5), some (vi x6), some (vi x7), some (vi x8), some (vi x9)] dX12_thumbs_178 (by decide) rfl ?_
            refine hJ.iload (pc := 180) dX12_thumbs_180 rfl ?_
            refine hJ.iconst (pc := 182) 1 dX12_thumbs_182 ic_1 ?_
            refine hJ.iadd (pc := 183) dX12_thumbs_183 ?_
            refine hJ.istore (pc := 184) [some (vr 12 0), some (vi x1), some (vi x2), some (vi x3), some (vi x4), some (vi (x5 + 1)), some (vi x6), some (vi x7), some (vi x8), some (vi x9)] dX12_thumbs_184 (by decide) rfl ?_
            refine hJ.iinc (pc := 186) (x9 + 1) [some (vr 12 0), some (vi x1), some (vi x2), some (vi x3), some (vi x4), some (vi (x5 + 1)), some (vi x6), some (vi x7), some (vi x8), some (vi (x9 + 1))] dX12_thumbs_186 (by decide) rfl (congrArg (fun z => x9 + z) ic_1) rfl ?_
            refine hJ.goto (pc := 189) 96 dX12_thumbs_189 (by decide) ?_
            exact ih x1 x2 x3 x4 (x5 + 1) x6 x7 x8 (x9 + 1) S19 hF hK
          · rw [if_pos h22] at hF
            refine hJ.iload (pc := 157) dX12_thumbs_157 rfl ?_
            refine hJ.goto (pc := 159) 164 dX12_thumbs_159 (by decide) ?_
            refine hJ.istore (pc := 164) [some (vr 12 0), some (vi x1), some (vi x2), some (vi x3), some (vi x4), some (vi x5), some (vi x8), some (vi x7), some (vi x8), some (vi x9)] dX12_thumbs_164 (by decide) rfl ?_
            refine hJ.iload (pc := 166) dX12_thumbs_166 rfl ?_
            refine hJ.if_ne (pc := 168) 176 dX12_thumbs_168 (by decide) (fun h0 => absurd h22 h0) (fun _ => ?_)
            refine hJ.iload (pc := 171) dX12_thumbs_171 rfl ?_
            refine hJ.goto (pc := 173) 178 dX12_thumbs_173 (by decide) ?_
            refine hJ.istore (pc := 178) [some (vr 12 0), some (vi x1), some (vi x2), some (vi x3), some (vi x4), some (vi x5), some (vi x8), some (vi x9), some (vi x8), some (vi x9)] dX12_thumbs_178 (by decide) rfl ?_
            refine hJ.iload (pc := 180) dX12_thumbs_180 rfl ?_
            refine hJ.iconst (pc := 182) 1 dX12_thumbs_182 ic_1 ?_
            refine hJ.iadd (pc := 183) dX12_thumbs_183 ?_
            refine hJ.istore (pc := 184) [some (vr 12 0), some (vi x1), some (vi x2), some (vi x3), some (vi x4), some (vi (x5 + 1)), some (vi x8), some (vi x9), some (vi x8), some (vi x9)] dX12_thumbs_184 (by decide) rfl ?_
            refine hJ.iinc (pc := 186) (x9 + 1) [some (vr 12 0), some (vi x1), some (vi x2), some (vi x3), some (vi x4), some (vi (x5 + 1)), some (vi x8), some (vi x9), some (vi x8), some (vi (x9 + 1))] dX12_thumbs_186 (by decide) rfl (congrArg (fun z => x9 + z) ic_1) rfl ?_
            refine hJ.goto (pc := 189) 96 dX12_thumbs_189 (by decide) ?_
            exact ih x1 x2 x3 x4 (x5 + 1) x8 x9 x8 (x9 + 1) S19 hF hK
        · rw [if_neg h21] at hF
          refine hJ.goto (pc := 149) 186 dX12_thumbs_149 (by decide) ?_
          refine hJ.iinc (pc := 186) (x9 + 1) [some (vr 12 0), some (vi x1), some (vi x2), some (vi x3), some (vi x4), some (vi x5), some (vi x6), some (vi x7), some (vi x8), some (vi (x9 + 1))] dX12_thumbs_186 (by decide) rfl (congrArg (fun z => x9 + z) ic_1) rfl ?_
          refine hJ.goto (pc := 189) 96 dX12_thumbs_189 (by decide) ?_
          exact ih x1 x2 x3 x4 x5 x6 x7 x8 (x9 + 1) S19 hF hK
      · rw [if_pos h13] at hF
        refine hJ.goto (pc := 116) 186 dX12_thumbs_116 (by decide) ?_
        refine hJ.iinc (pc := 186) (x9 + 1) [some (vr 12 0), some (vi x1), some (vi x2), some (vi x3), some (vi x4), some (vi x5), some (vi x6), some (vi x7), some (vi x8), some (vi (x9 + 1))] dX12_thumbs_186 (by decide) rfl (congrArg (fun z => x9 + z) ic_1) rfl ?_
        refine hJ.goto (pc := 189) 96 dX12_thumbs_189 (by decide) ?_
        exact ih x1 x2 x3 x4 x5 x6 x7 x8 (x9 + 1) S hF hK
set_option maxRecDepth 100000 in
set_option maxHeartbeats 4000000 in
theorem wX12_thumbs_83 {J : Nat → Lv → List AV → Obs → Lay → Nat → Nat → Mem → Mem → Prop} (hJ : Cl RX12 cX12_thumbs 10 4 94 0 0 none false J) {r : Int32} {Sc S' : Mem} (hR : Rk cX12_thumbs (some .int) (some (vi r)) wl0 L0 0 0 Sc S' J) : ∀ (n : Nat) (x1 : Int32) (x2 : Int32) (x3 : Int32) (x4 : Int32) (x5 : Int32) (x6 : Int32) (x7 : Int32) (x8 : Int32) (S : Mem), fX12_thumbs_83 n x1 x2 x3 x4 x5 x6 x7 x8 S = some (r, S') → J 83 [some (vr 12 0), some (vi x1), some (vi x2), some (vi x3), some (vi x4), some (vi x5), some (vi x6), some (vi x7), some (vi x8), none] [] wl0 L0 0 0 Sc S := by
  intro n
  induction n with
  | zero =>
    intro x1 x2 x3 x4 x5 x6 x7 x8 S hF
    rw [fX12_thumbs_83] at hF
    cases hF
  | succ n ih =>
    intro x1 x2 x3 x4 x5 x6 x7 x8 S hF
    rw [fX12_thumbs_83] at hF
    refine hJ.iload (pc := 83) dX12_thumbs_83 rfl ?_
    refine hJ.aload_n (pc := 85) dX12_thumbs_85 rfl ?_
    refine hJ.gM (pc := 86) dX12_thumbs_86 fi_X12_112 ?_
    refine hJ.icmp_ge (pc := 89) 198 dX12_thumbs_89 (by decide) (fun h7 => ?_) (fun h7 => ?_)
    · rw [if_pos h7] at hF
      refine hJ.iload_n (pc := 198) dX12_thumbs_198 rfl ?_
      refine hJ.if_ne (pc := 199) 207 dX12_thumbs_199 (by decide) (fun h8 => ?_) (fun h8 => ?_)
      · rw [if_neg h8] at hF
        refine hJ.iload_n (pc := 207) dX12_thumbs_207 rfl ?_
        refine hJ.iconst (pc := 208) 1 dX12_thumbs_208 ic_1 ?_
        refine hJ.icmp_ne (pc := 209) 217 dX12_thumbs_209 (by decide) (fun h9 => ?_) (fun h9 => ?_)
        · rw [if_neg h9] at hF
          refine hJ.iload (pc := 217) dX12_thumbs_217 rfl ?_
          cases hF
          exact hR.i (pc := 219) dX12_thumbs_219
        · rw [if_pos h9] at hF
          refine hJ.iload (pc := 212) dX12_thumbs_212 rfl ?_
          refine hJ.goto (pc := 214) 219 dX12_thumbs_214 (by decide) ?_
          cases hF
          exact hR.i (pc := 219) dX12_thumbs_219
      · rw [if_pos h8] at hF
        refine hJ.iload (pc := 202) dX12_thumbs_202 rfl ?_
        refine hJ.goto (pc := 204) 219 dX12_thumbs_204 (by decide) ?_
        cases hF
        exact hR.i (pc := 219) dX12_thumbs_219
    · rw [if_neg h7] at hF
      refine hJ.iload (pc := 92) dX12_thumbs_92 rfl ?_
      refine hJ.istore (pc := 94) [some (vr 12 0), some (vi x1), some (vi x2), some (vi x3), some (vi x4), some (vi x5), some (vi x6), some (vi x7), some (vi x8), some (vi x4)] dX12_thumbs_94 (by decide) rfl ?_
      obtain ⟨v23, v24, v25, S26, h27, hF⟩ := bd4_some hF
      refine wX12_thumbs_96 hJ 5000 x1 x2 x3 x4 x5 x6 x7 x8 x4 S h27 ?_
      refine hJ.iinc (pc := 192) (x8 + 1) [some (vr 12 0), some (vi x1), some (vi x2), some (vi x3), some (vi x4), some (vi v23), some (vi v24), some (vi v25), some (vi (x8 + 1)), none] dX12_thumbs_192 (by decide) rfl (congrArg (fun z => x8 + z) ic_1) rfl ?_
      refine hJ.goto (pc := 195) 83 dX12_thumbs_195 (by decide) ?_
      exact ih x1 x2 x3 x4 v23 v24 v25 (x8 + 1) S26 hF
set_option maxRecDepth 100000 in
set_option maxHeartbeats 4000000 in
theorem wX12_thumbs_69 {J : Nat → Lv → List AV → Obs → Lay → Nat → Nat → Mem → Mem → Prop} (hJ : Cl RX12 cX12_thumbs 10 4 94 0 0 none false J) {r : Int32} {Sc S' : Mem} (hR : Rk cX12_thumbs (some .int) (some (vi r)) wl0 L0 0 0 Sc S' J) (x1 : Int32) (x2 : Int32) (x3 : Int32) (y0 : Int32) (S : Mem) (hF : fX12_thumbs_69 x1 x2 x3 y0 S = some (r, S')) : J 69 [some (vr 12 0), some (vi x1), some (vi x2), some (vi x3), none, none, none, none, none, none] [vi y0] wl0 L0 0 0 Sc S := by
  rw [fX12_thumbs_69] at hF
  refine hJ.istore (pc := 69) [some (vr 12 0), some (vi x1), some (vi x2), some (vi x3), some (vi y0), none, none, none, none, none] dX12_thumbs_69 (by decide) rfl ?_
  refine hJ.iconst (pc := 71) 0 dX12_thumbs_71 ic_0 ?_
  refine hJ.istore (pc := 72) [some (vr 12 0), some (vi x1), some (vi x2), some (vi x3), some (vi y0), some (vi 0), none, none, none, none] dX12_thumbs_72 (by decide) rfl ?_
  refine hJ.iconst (pc := 74) (-1) dX12_thumbs_74 ic_m1 ?_
  refine hJ.istore (pc := 75) [some (vr 12 0), some (vi x1), some (vi x2), some (vi x3), some (vi y0), some (vi 0), some (vi (-1)), none, none, none] dX12_thumbs_75 (by decide) rfl ?_
  refine hJ.iconst (pc := 77) (-1) dX12_thumbs_77 ic_m1 ?_
  refine hJ.istore (pc := 78) [some (vr 12 0), some (vi x1), some (vi x2), some (vi x3), some (vi y0), some (vi 0), some (vi (-1)), some (vi (-1)), none, none] dX12_thumbs_78 (by decide) rfl ?_
  refine hJ.iconst (pc := 80) 0 dX12_thumbs_80 ic_0 ?_
  refine hJ.istore (pc := 81) [some (vr 12 0), some (vi x1), some (vi x2), some (vi x3), some (vi y0), some (vi 0), some (vi (-1)), some (vi (-1)), some (vi 0), none] dX12_thumbs_81 (by decide) rfl ?_
  exact wX12_thumbs_83 hJ hR 5000 x1 x2 x3 y0 0 (-1) (-1) 0 S hF
set_option maxRecDepth 100000 in
set_option maxHeartbeats 4000000 in
theorem ctX12_thumbs (p0 : Int32) (p1 : Int32) (p2 : Int32) (Sc S : Mem) (r : Int32) (S' : Mem) (hF : fX12_thumbs p0 p1 p2 S = some (r, S')) : Ct yX12_thumbs cX12_thumbs 10 (some .int) 4 94 0 0 [vr 12 0, vi p0, vi p1, vi p2] wl0 L0 Sc S (some (vi r)) wl0 L0 Sc S' := by
  refine Ct.of RX12 false (by decide) rfl (fun h => by cases h) (Nat.le_of_ble_eq_true rfl) (fun J hJ hR => ?_)
  rw [fX12_thumbs] at hF
  show J 0 [some (vr 12 0), some (vi p0), some (vi p1), some (vi p2), none, none, none, none, none, none] [] wl0 L0 0 0 Sc S
  refine hJ.aload_n (pc := 0) dX12_thumbs_0 rfl ?_
  refine hJ.iconst (pc := 1) 0 dX12_thumbs_1 ic_0 ?_
  refine hJ.pIM (pc := 2) dX12_thumbs_2 fp_X12_104 ?_
  refine hJ.aload_n (pc := 5) dX12_thumbs_5 rfl ?_
  refine hJ.iload_n (pc := 6) dX12_thumbs_6 rfl ?_
  refine hJ.cV (pc := 7) [vi p0] [] [vi (fX12_isPaper p0 (up S 12 0 0 0))] dX12_thumbs_7 lk_X12_140 (ctX12_isPaper p0 _ _ (fX12_isPaper p0 (up S 12 0 0 0)) rfl) rfl rfl rfl rfl ?_
  refine hJ.if_eq (pc := 10) 35 dX12_thumbs_10 (by decide) (fun h1 => ?_) (fun h1 => ?_)
  · rw [if_pos h1] at hF
    refine hJ.iconst (pc := 35) (-1) dX12_thumbs_35 ic_m1 ?_
    cases hF
    exact hR.i (pc := 36) dX12_thumbs_36
  · rw [if_neg h1] at hF
    refine hJ.aload_n (pc := 13) dX12_thumbs_13 rfl ?_
    refine hJ.iload_n (pc := 14) dX12_thumbs_14 rfl ?_
    refine hJ.iconst (pc := 15) 0 dX12_thumbs_15 ic_0 ?_
    refine hJ.sipush (pc := 16) 999 dX12_thumbs_16 sc_999 ?_
    refine hJ.cV (pc := 19) [vi p1, vi 0, vi 999] [] [vi (fX12_isIn p1 0 999)] dX12_thumbs_19 lk_X12_116 (ctX12_isIn p1 0 999 _ _ (fX12_isIn p1 0 999) rfl) rfl rfl rfl rfl ?_
    refine hJ.if_eq (pc := 22) 35 dX12_thumbs_22 (by decide) (fun h2 => ?_) (fun h2 => ?_)
    · rw [if_pos h2] at hF
      refine hJ.iconst (pc := 35) (-1) dX12_thumbs_35 ic_m1 ?_
      cases hF
      exact hR.i (pc := 36) dX12_thumbs_36
    · rw [if_neg h2] at hF
      refine hJ.aload_n (pc := 25) dX12_thumbs_25 rfl ?_
      refine hJ.iload_n (pc := 26) dX12_thumbs_26 rfl ?_
      refine hJ.iconst (pc := 27) 0 dX12_thumbs_27 ic_0 ?_
      refine hJ.iconst (pc := 28) 2 dX12_thumbs_28 ic_2 ?_
      refine hJ.cV (pc := 29) [vi p2, vi 0, vi 2] [] [vi (fX12_isIn p2 0 2)] dX12_thumbs_29 lk_X12_116 (ctX12_isIn p2 0 2 _ _ (fX12_isIn p2 0 2) rfl) rfl rfl rfl rfl ?_
      refine hJ.if_ne (pc := 32) 37 dX12_thumbs_32 (by decide) (fun h3 => ?_) (fun h3 => ?_)
      · rw [if_neg h3] at hF
        refine hJ.aload_n (pc := 37) dX12_thumbs_37 rfl ?_
        refine hJ.gR (pc := 38) (k' := 66) (i' := 0) dX12_thumbs_38 fr_X12_28 rfl ?_
        refine hJ.iload_n (pc := 41) dX12_thumbs_41 rfl ?_
        obtain ⟨j4, h5, hF⟩ := bn_some hF
        refine hJ.lialdM (pc := 42) dX12_thumbs_42 al_66 h5 ?_
        refine hJ.istore (pc := 43) [some (vr 12 0), some (vi p0), some (vi p1), some (vi p2), some (vi ((up S 12 0 0 0) 66 0 j4)), none, none, none, none, none] dX12_thumbs_43 (by decide) rfl ?_
        refine hJ.aload_n (pc := 45) dX12_thumbs_45 rfl ?_
        refine hJ.gM (pc := 46) dX12_thumbs_46 fi_X12_127 ?_
        refine hJ.bipush (pc := 49) 99 dX12_thumbs_49 bc_99 ?_
        refine hJ.isub (pc := 51) dX12_thumbs_51 ?_
        refine hJ.iload (pc := 52) dX12_thumbs_52 rfl ?_
        refine hJ.icmp_le (pc := 54) 67 dX12_thumbs_54 (by decide) (fun h6 => ?_) (fun h6 => ?_)
        · rw [if_pos h6] at hF
          refine hJ.iload (pc := 67) dX12_thumbs_67 rfl ?_
          refine hJ.weak [some (vr 12 0), some (vi p0), some (vi p1), some (vi p2), none, none, none, none, none, none] ⟨rfl, rfl, rfl, rfl, trivial⟩ ?_
          exact wX12_thumbs_69 hJ hR p0 p1 p2 ((up S 12 0 0 0) 66 0 j4) (up S 12 0 0 0) hF
        · rw [if_neg h6] at hF
          refine hJ.aload_n (pc := 57) dX12_thumbs_57 rfl ?_
          refine hJ.gM (pc := 58) dX12_thumbs_58 fi_X12_127 ?_
          refine hJ.bipush (pc := 61) 99 dX12_thumbs_61 bc_99 ?_
          refine hJ.isub (pc := 63) dX12_thumbs_63 ?_
          refine hJ.goto (pc := 64) 69 dX12_thumbs_64 (by decide) ?_
          refine hJ.weak [some (vr 12 0), some (vi p0), some (vi p1), some (vi p2), none, none, none, none, none, none] ⟨rfl, rfl, rfl, rfl, trivial⟩ ?_
          exact wX12_thumbs_69 hJ hR p0 p1 p2 (((up S 12 0 0 0) 12 0 2) - 99) (up S 12 0 0 0) hF
      · rw [if_pos h3] at hF
        refine hJ.iconst (pc := 35) (-1) dX12_thumbs_35 ic_m1 ?_
        cases hF
        exact hR.i (pc := 36) dX12_thumbs_36
set_option maxRecDepth 100000 in
set_option maxHeartbeats 4000000 in
theorem ctX12_without (p0 : Int32) (Sc Sm : Mem) (r : Int32) (hF : fX12_without p0 = r) : Ct yX12_without cX12_without 2 (some .int) 0 0 0 0 [vr 12 0, vi p0] wl0 L0 Sc Sm (some (vi r)) wl0 L0 Sc Sm := by
  refine Ct.of RX12 false (by decide) rfl (fun h => by cases h) (Nat.le_of_ble_eq_true rfl) (fun J hJ hR => ?_)
  rw [fX12_without] at hF
  show J 0 [some (vr 12 0), some (vi p0)] [] wl0 L0 0 0 Sc Sm
  refine hJ.iload_n (pc := 0) dX12_without_0 rfl ?_
  refine hJ.if_ge (pc := 1) 9 dX12_without_1 (by decide) (fun h1 => ?_) (fun h1 => ?_)
  · rw [if_pos h1] at hF
    refine hJ.iload_n (pc := 9) dX12_without_9 rfl ?_
    cases hF
    exact hR.i (pc := 10) dX12_without_10
  · rw [if_neg h1] at hF
    refine hJ.iload_n (pc := 4) dX12_without_4 rfl ?_
    refine hJ.ineg (pc := 5) dX12_without_5 ?_
    refine hJ.goto (pc := 6) 10 dX12_without_6 (by decide) ?_
    cases hF
    exact hR.i (pc := 10) dX12_without_10
set_option maxRecDepth 100000 in
set_option maxHeartbeats 4000000 in
theorem wX12_leaps_48 {J : Nat → Lv → List AV → Obs → Lay → Nat → Nat → Mem → Mem → Prop} (hJ : Cl RX12 cX12_leaps 7 1 23 0 0 none false J) {r : Int32} {Sc S' : Mem} (hR : Rk cX12_leaps (some .int) (some (vi r)) wl0 L0 0 0 Sc S' J) : ∀ (n : Nat) (x1 : Int32) (x2 : Int32) (x3 : Int32) (x4 : Int32) (x5 : Int32) (x6 : Int32) (S : Mem), fX12_leaps_48 n x1 x2 x3 x4 x5 x6 S = some (r, S') → J 48 [some (vr 12 0), some (vi x1), some (vi x2), some (vi x3), some (vi x4), some (vi x5), some (vi x6)] [] wl0 L0 0 0 Sc S := by
  intro n
  induction n with
  | zero =>
    intro x1 x2 x3 x4 x5 x6 S hF
    rw [fX12_leaps_48] at hF
    cases hF
  | succ n ih =>
    intro x1 x2 x3 x4 x5 x6 S hF
    rw [fX12_leaps_48] at hF
    refine hJ.iload (pc := 48) dX12_leaps_48 rfl ?_
    refine hJ.aload_n (pc := 50) dX12_leaps_50 rfl ?_
    refine hJ.gM (pc := 51) dX12_leaps_51 fi_X12_260 ?_
    refine hJ.icmp_ge (pc := 54) 137 dX12_leaps_54 (by decide) (fun h4 => ?_) (fun h4 => ?_)
    · rw [if_pos h4] at hF
      refine hJ.iload_n (pc := 137) dX12_leaps_137 rfl ?_
      refine hJ.if_ne (pc := 138) 146 dX12_leaps_138 (by decide) (fun h5 => ?_) (fun h5 => ?_)
      · rw [if_neg h5] at hF
        refine hJ.iload (pc := 146) dX12_leaps_146 rfl ?_
        cases hF
        exact hR.i (pc := 148) dX12_leaps_148
      · rw [if_pos h5] at hF
        refine hJ.iload (pc := 141) dX12_leaps_141 rfl ?_
        refine hJ.goto (pc := 143) 148 dX12_leaps_143 (by decide) ?_
        cases hF
        exact hR.i (pc := 148) dX12_leaps_148
    · rw [if_neg h4] at hF
      refine hJ.aload_n (pc := 57) dX12_leaps_57 rfl ?_
      refine hJ.gR (pc := 58) (k' := 63) (i' := 0) dX12_leaps_58 fr_X12_19 rfl ?_
      refine hJ.aload_n (pc := 61) dX12_leaps_61 rfl ?_
      refine hJ.gR (pc := 62) (k' := 72) (i' := 0) dX12_leaps_62 fr_X12_46 rfl ?_
      refine hJ.iconst (pc := 65) 5 dX12_leaps_65 ic_5 ?_
      refine hJ.iload (pc := 66) dX12_leaps_66 rfl ?_
      refine hJ.imul (pc := 68) dX12_leaps_68 ?_
      refine hJ.iconst (pc := 69) 1 dX12_leaps_69 ic_1 ?_
      refine hJ.iadd (pc := 70) dX12_leaps_70 ?_
      obtain ⟨j6, h7, hF⟩ := bn_some hF
      refine hJ.lialdM (pc := 71) dX12_leaps_71 al_72 h7 ?_
      obtain ⟨j8, h9, hF⟩ := bn_some hF
      refine hJ.lialdM (pc := 72) dX12_leaps_72 al_63 h9 ?_
      refine hJ.iload_n (pc := 73) dX12_leaps_73 rfl ?_
      refine hJ.icmp_ne (pc := 74) 131 dX12_leaps_74 (by decide) (fun h10 => ?_) (fun h10 => ?_)
      · rw [if_neg h10] at hF
        refine hJ.iinc (pc := 131) (x6 + 1) [some (vr 12 0), some (vi x1), some (vi x2), some (vi x3), some (vi x4), some (vi x5), some (vi (x6 + 1))] dX12_leaps_131 (by decide) rfl (congrArg (fun z => x6 + z) ic_1) rfl ?_
        refine hJ.goto (pc := 134) 48 dX12_leaps_134 (by decide) ?_
        exact ih x1 x2 x3 x4 x5 (x6 + 1) S hF
      · rw [if_pos h10] at hF
        refine hJ.aload_n (pc := 77) dX12_leaps_77 rfl ?_
        refine hJ.aload_n (pc := 78) dX12_leaps_78 rfl ?_
        refine hJ.gR (pc := 79) (k' := 72) (i' := 0) dX12_leaps_79 fr_X12_46 rfl ?_
        refine hJ.iconst (pc := 82) 5 dX12_leaps_82 ic_5 ?_
        refine hJ.iload (pc := 83) dX12_leaps_83 rfl ?_
        refine hJ.imul (pc := 85) dX12_leaps_85 ?_
        refine hJ.iconst (pc := 86) 3 dX12_leaps_86 ic_3 ?_
        refine hJ.iadd (pc := 87) dX12_leaps_87 ?_
        obtain ⟨j11, h12, hF⟩ := bn_some hF
        refine hJ.lialdM (pc := 88) dX12_leaps_88 al_72 h12 ?_
        refine hJ.aload_n (pc := 89) dX12_leaps_89 rfl ?_
        refine hJ.gR (pc := 90) (k' := 72) (i' := 0) dX12_leaps_90 fr_X12_46 rfl ?_
        refine hJ.iconst (pc := 93) 5 dX12_leaps_93 ic_5 ?_
        refine hJ.iload (pc := 94) dX12_leaps_94 rfl ?_
        refine hJ.imul (pc := 96) dX12_leaps_96 ?_
        refine hJ.iconst (pc := 97) 4 dX12_leaps_97 ic_4 ?_
        refine hJ.iadd (pc := 98) dX12_leaps_98 ?_
        obtain ⟨j13, h14, hF⟩ := bn_some hF
        refine hJ.lialdM (pc := 99) dX12_leaps_99 al_72 h14 ?_
        refine hJ.isub (pc := 100) dX12_leaps_100 ?_
        refine hJ.cV (pc := 101) [vi ((S 72 0 j11) - (S 72 0 j13))] [] [vi (fX12_without ((S 72 0 j11) - (S 72 0 j13)))] dX12_leaps_101 lk_X12_313 (ctX12_without ((S 72 0 j11) - (S 72 0 j13)) _ _ (fX12_without ((S 72 0 j11) - (S 72 0 j13))) rfl) rfl rfl rfl rfl ?_
        refine hJ.iload_n (pc := 104) dX12_leaps_104 rfl ?_
        refine hJ.icmp_ge (pc := 105) 111 dX12_leaps_105 (by decide) (fun h15 => ?_) (fun h15 => ?_)
        · rw [if_pos h15] at hF
          refine hJ.iload (pc := 111) dX12_leaps_111 rfl ?_
          refine hJ.if_ne (pc := 113) 121 dX12_leaps_113 (by decide) (fun h16 => ?_) (fun h16 => ?_)
          · rw [if_neg h16] at hF
            refine hJ.iload (pc := 121) dX12_leaps_121 rfl ?_
            refine hJ.istore (pc := 123) [some (vr 12 0), some (vi x1), some (vi x2), some (vi x3), some (vi x4), some (vi x5), some (vi x6)] dX12_leaps_123 (by decide) rfl ?_
            refine hJ.iload (pc := 125) dX12_leaps_125 rfl ?_
            refine hJ.iconst (pc := 127) 1 dX12_leaps_127 ic_1 ?_
            refine hJ.iadd (pc := 128) dX12_leaps_128 ?_
            refine hJ.istore (pc := 129) [some (vr 12 0), some (vi x1), some (vi x2), some (vi x3), some (vi (x4 + 1)), some (vi x5), some (vi x6)] dX12_leaps_129 (by decide) rfl ?_
            refine hJ.iinc (pc := 131) (x6 + 1) [some (vr 12 0), some (vi x1), some (vi x2), some (vi x3), some (vi (x4 + 1)), some (vi x5), some (vi (x6 + 1))] dX12_leaps_131 (by decide) rfl (congrArg (fun z => x6 + z) ic_1) rfl ?_
            refine hJ.goto (pc := 134) 48 dX12_leaps_134 (by decide) ?_
            exact ih x1 x2 x3 (x4 + 1) x5 (x6 + 1) S hF
          · rw [if_pos h16] at hF
            refine hJ.iload (pc := 116) dX12_leaps_116 rfl ?_
            refine hJ.goto (pc := 118) 123 dX12_leaps_118 (by decide) ?_
            refine hJ.istore (pc := 123) [some (vr 12 0), some (vi x1), some (vi x2), some (vi x3), some (vi x4), some (vi x6), some (vi x6)] dX12_leaps_123 (by decide) rfl ?_
            refine hJ.iload (pc := 125) dX12_leaps_125 rfl ?_
            refine hJ.iconst (pc := 127) 1 dX12_leaps_127 ic_1 ?_
            refine hJ.iadd (pc := 128) dX12_leaps_128 ?_
            refine hJ.istore (pc := 129) [some (vr 12 0), some (vi x1), some (vi x2), some (vi x3), some (vi (x4 + 1)), some (vi x6), some (vi x6)] dX12_leaps_129 (by decide) rfl ?_
            refine hJ.iinc (pc := 131) (x6 + 1) [some (vr 12 0), some (vi x1), some (vi x2), some (vi x3), some (vi (x4 + 1)), some (vi x6), some (vi (x6 + 1))] dX12_leaps_131 (by decide) rfl (congrArg (fun z => x6 + z) ic_1) rfl ?_
            refine hJ.goto (pc := 134) 48 dX12_leaps_134 (by decide) ?_
            exact ih x1 x2 x3 (x4 + 1) x6 (x6 + 1) S hF
        · rw [if_neg h15] at hF
          refine hJ.goto (pc := 108) 131 dX12_leaps_108 (by decide) ?_
          refine hJ.iinc (pc := 131) (x6 + 1) [some (vr 12 0), some (vi x1), some (vi x2), some (vi x3), some (vi x4), some (vi x5), some (vi (x6 + 1))] dX12_leaps_131 (by decide) rfl (congrArg (fun z => x6 + z) ic_1) rfl ?_
          refine hJ.goto (pc := 134) 48 dX12_leaps_134 (by decide) ?_
          exact ih x1 x2 x3 x4 x5 (x6 + 1) S hF
set_option maxRecDepth 100000 in
set_option maxHeartbeats 4000000 in
theorem ctX12_leaps (p0 : Int32) (p1 : Int32) (p2 : Int32) (Sc S : Mem) (r : Int32) (S' : Mem) (hF : fX12_leaps p0 p1 p2 S = some (r, S')) : Ct yX12_leaps cX12_leaps 7 (some .int) 1 23 0 0 [vr 12 0, vi p0, vi p1, vi p2] wl0 L0 Sc S (some (vi r)) wl0 L0 Sc S' := by
  refine Ct.of RX12 false (by decide) rfl (fun h => by cases h) (Nat.le_of_ble_eq_true rfl) (fun J hJ hR => ?_)
  rw [fX12_leaps] at hF
  show J 0 [some (vr 12 0), some (vi p0), some (vi p1), some (vi p2), none, none, none] [] wl0 L0 0 0 Sc S
  refine hJ.aload_n (pc := 0) dX12_leaps_0 rfl ?_
  refine hJ.iconst (pc := 1) 0 dX12_leaps_1 ic_0 ?_
  refine hJ.pIM (pc := 2) dX12_leaps_2 fp_X12_104 ?_
  refine hJ.aload_n (pc := 5) dX12_leaps_5 rfl ?_
  refine hJ.iload_n (pc := 6) dX12_leaps_6 rfl ?_
  refine hJ.iconst (pc := 7) 0 dX12_leaps_7 ic_0 ?_
  refine hJ.iconst (pc := 8) 3 dX12_leaps_8 ic_3 ?_
  refine hJ.cV (pc := 9) [vi p0, vi 0, vi 3] [] [vi (fX12_isIn p0 0 3)] dX12_leaps_9 lk_X12_116 (ctX12_isIn p0 0 3 _ _ (fX12_isIn p0 0 3) rfl) rfl rfl rfl rfl ?_
  refine hJ.if_eq (pc := 12) 37 dX12_leaps_12 (by decide) (fun h1 => ?_) (fun h1 => ?_)
  · rw [if_pos h1] at hF
    refine hJ.iconst (pc := 37) (-1) dX12_leaps_37 ic_m1 ?_
    cases hF
    exact hR.i (pc := 38) dX12_leaps_38
  · rw [if_neg h1] at hF
    refine hJ.aload_n (pc := 15) dX12_leaps_15 rfl ?_
    refine hJ.iload_n (pc := 16) dX12_leaps_16 rfl ?_
    refine hJ.iconst (pc := 17) 0 dX12_leaps_17 ic_0 ?_
    refine hJ.sipush (pc := 18) 999 dX12_leaps_18 sc_999 ?_
    refine hJ.cV (pc := 21) [vi p1, vi 0, vi 999] [] [vi (fX12_isIn p1 0 999)] dX12_leaps_21 lk_X12_116 (ctX12_isIn p1 0 999 _ _ (fX12_isIn p1 0 999) rfl) rfl rfl rfl rfl ?_
    refine hJ.if_eq (pc := 24) 37 dX12_leaps_24 (by decide) (fun h2 => ?_) (fun h2 => ?_)
    · rw [if_pos h2] at hF
      refine hJ.iconst (pc := 37) (-1) dX12_leaps_37 ic_m1 ?_
      cases hF
      exact hR.i (pc := 38) dX12_leaps_38
    · rw [if_neg h2] at hF
      refine hJ.aload_n (pc := 27) dX12_leaps_27 rfl ?_
      refine hJ.iload_n (pc := 28) dX12_leaps_28 rfl ?_
      refine hJ.iconst (pc := 29) 0 dX12_leaps_29 ic_0 ?_
      refine hJ.iconst (pc := 30) 1 dX12_leaps_30 ic_1 ?_
      refine hJ.cV (pc := 31) [vi p2, vi 0, vi 1] [] [vi (fX12_isIn p2 0 1)] dX12_leaps_31 lk_X12_116 (ctX12_isIn p2 0 1 _ _ (fX12_isIn p2 0 1) rfl) rfl rfl rfl rfl ?_
      refine hJ.if_ne (pc := 34) 39 dX12_leaps_34 (by decide) (fun h3 => ?_) (fun h3 => ?_)
      · rw [if_neg h3] at hF
        refine hJ.iconst (pc := 39) 0 dX12_leaps_39 ic_0 ?_
        refine hJ.istore (pc := 40) [some (vr 12 0), some (vi p0), some (vi p1), some (vi p2), some (vi 0), none, none] dX12_leaps_40 (by decide) rfl ?_
        refine hJ.iconst (pc := 42) (-1) dX12_leaps_42 ic_m1 ?_
        refine hJ.istore (pc := 43) [some (vr 12 0), some (vi p0), some (vi p1), some (vi p2), some (vi 0), some (vi (-1)), none] dX12_leaps_43 (by decide) rfl ?_
        refine hJ.iconst (pc := 45) 0 dX12_leaps_45 ic_0 ?_
        refine hJ.istore (pc := 46) [some (vr 12 0), some (vi p0), some (vi p1), some (vi p2), some (vi 0), some (vi (-1)), some (vi 0)] dX12_leaps_46 (by decide) rfl ?_
        exact wX12_leaps_48 hJ hR 5000 p0 p1 p2 0 (-1) 0 (up S 12 0 0 0) hF
      · rw [if_pos h3] at hF
        refine hJ.iconst (pc := 37) (-1) dX12_leaps_37 ic_m1 ?_
        cases hF
        exact hR.i (pc := 38) dX12_leaps_38
set_option maxRecDepth 100000 in
set_option maxHeartbeats 4000000 in
theorem ctX12_next (Sc S : Mem) (r : Int32) (S' : Mem) (hF : fX12_next S = some (r, S')) : Ct yX12_next cX12_next 1 (some .int) 2 45 0 0 [vr 12 0] wl0 L0 Sc S (some (vi r)) wl0 L0 Sc S' := by
  refine Ct.of RX12 false (by decide) rfl (fun h => by cases h) (Nat.le_of_ble_eq_true rfl) (fun J hJ hR => ?_)
  rw [fX12_next] at hF
  show J 0 [some (vr 12 0)] [] wl0 L0 0 0 Sc S
  refine hJ.aload_n (pc := 0) dX12_next_0 rfl ?_
  refine hJ.iconst (pc := 1) 0 dX12_next_1 ic_0 ?_
  refine hJ.pIM (pc := 2) dX12_next_2 fp_X12_104 ?_
  refine hJ.aload_n (pc := 5) dX12_next_5 rfl ?_
  obtain ⟨r2, h1, hF⟩ := bn_some hF
  refine hJ.cV (pc := 6) [] [] [vi r2] dX12_next_6 lk_X12_279 (ctX12_nextOne _ _ _ h1) rfl rfl rfl rfl ?_
  cases hF
  exact hR.i (pc := 9) dX12_next_9
set_option maxRecDepth 100000 in
set_option maxHeartbeats 4000000 in
theorem wX12_papersOn_4 {J : Nat → Lv → List AV → Obs → Lay → Nat → Nat → Mem → Mem → Prop} (hJ : Cl RX12 cX12_papersOn 4 0 0 0 0 none false J) {r : Int32} {Sc S : Mem} (hR : Rk cX12_papersOn (some .int) (some (vi r)) wl0 L0 0 0 Sc S J) : ∀ (n : Nat) (x1 : Int32) (x2 : Int32) (x3 : Int32), fX12_papersOn_4 n x1 x2 x3 S = some r → J 4 [some (vr 12 0), some (vi x1), some (vi x2), some (vi x3)] [] wl0 L0 0 0 Sc S := by
  intro n
  induction n with
  | zero =>
    intro x1 x2 x3 hF
    rw [fX12_papersOn_4] at hF
    cases hF
  | succ n ih =>
    intro x1 x2 x3 hF
    rw [fX12_papersOn_4] at hF
    refine hJ.iload_n (pc := 4) dX12_papersOn_4 rfl ?_
    refine hJ.aload_n (pc := 5) dX12_papersOn_5 rfl ?_
    refine hJ.gM (pc := 6) dX12_papersOn_6 fi_X12_130 ?_
    refine hJ.icmp_ge (pc := 9) 32 dX12_papersOn_9 (by decide) (fun h1 => ?_) (fun h1 => ?_)
    · rw [if_pos h1] at hF
      refine hJ.iload_n (pc := 32) dX12_papersOn_32 rfl ?_
      cases hF
      exact hR.i (pc := 33) dX12_papersOn_33
    · rw [if_neg h1] at hF
      refine hJ.aload_n (pc := 12) dX12_papersOn_12 rfl ?_
      refine hJ.gR (pc := 13) (k' := 65) (i' := 0) dX12_papersOn_13 fr_X12_25 rfl ?_
      refine hJ.iload_n (pc := 16) dX12_papersOn_16 rfl ?_
      obtain ⟨j2, h3, hF⟩ := bn_some hF
      refine hJ.lialdM (pc := 17) dX12_papersOn_17 al_65 h3 ?_
      refine hJ.iload_n (pc := 18) dX12_papersOn_18 rfl ?_
      refine hJ.icmp_ne (pc := 19) 26 dX12_papersOn_19 (by decide) (fun h4 => ?_) (fun h4 => ?_)
      · rw [if_neg h4] at hF
        refine hJ.iinc (pc := 26) (x3 + 1) [some (vr 12 0), some (vi x1), some (vi x2), some (vi (x3 + 1))] dX12_papersOn_26 (by decide) rfl (congrArg (fun z => x3 + z) ic_1) rfl ?_
        refine hJ.goto (pc := 29) 4 dX12_papersOn_29 (by decide) ?_
        exact ih x1 x2 (x3 + 1) hF
      · rw [if_pos h4] at hF
        refine hJ.iload_n (pc := 22) dX12_papersOn_22 rfl ?_
        refine hJ.iconst (pc := 23) 1 dX12_papersOn_23 ic_1 ?_
        refine hJ.iadd (pc := 24) dX12_papersOn_24 ?_
        refine hJ.istore_n (pc := 25) [some (vr 12 0), some (vi x1), some (vi (x2 + 1)), some (vi x3)] dX12_papersOn_25 (by decide) rfl ?_
        refine hJ.iinc (pc := 26) (x3 + 1) [some (vr 12 0), some (vi x1), some (vi (x2 + 1)), some (vi (x3 + 1))] dX12_papersOn_26 (by decide) rfl (congrArg (fun z => x3 + z) ic_1) rfl ?_
        refine hJ.goto (pc := 29) 4 dX12_papersOn_29 (by decide) ?_
        exact ih x1 (x2 + 1) (x3 + 1) hF
set_option maxRecDepth 100000 in
set_option maxHeartbeats 4000000 in
theorem ctX12_papersOn (p0 : Int32) (Sc S : Mem) (r : Int32) (hF : fX12_papersOn p0 S = some r) : Ct yX12_papersOn cX12_papersOn 4 (some .int) 0 0 0 0 [vr 12 0, vi p0] wl0 L0 Sc S (some (vi r)) wl0 L0 Sc S := by
  refine Ct.of RX12 false (by decide) rfl (fun h => by cases h) (Nat.le_of_ble_eq_true rfl) (fun J hJ hR => ?_)
  rw [fX12_papersOn] at hF
  show J 0 [some (vr 12 0), some (vi p0), none, none] [] wl0 L0 0 0 Sc S
  refine hJ.iconst (pc := 0) 0 dX12_papersOn_0 ic_0 ?_
  refine hJ.istore_n (pc := 1) [some (vr 12 0), some (vi p0), some (vi 0), none] dX12_papersOn_1 (by decide) rfl ?_
  refine hJ.iconst (pc := 2) 0 dX12_papersOn_2 ic_0 ?_
  refine hJ.istore_n (pc := 3) [some (vr 12 0), some (vi p0), some (vi 0), some (vi 0)] dX12_papersOn_3 (by decide) rfl ?_
  exact wX12_papersOn_4 hJ hR 5000 p0 0 0 hF
set_option maxRecDepth 100000 in
set_option maxHeartbeats 4000000 in
theorem wX12_agesOn_4 {J : Nat → Lv → List AV → Obs → Lay → Nat → Nat → Mem → Mem → Prop} (hJ : Cl RX12 cX12_agesOn 4 4 94 0 0 none false J) {r : Int32} {Sc S' : Mem} (hR : Rk cX12_agesOn (some .int) (some (vi r)) wl0 L0 0 0 Sc S' J) : ∀ (n : Nat) (x1 : Int32) (x2 : Int32) (x3 : Int32) (S : Mem), fX12_agesOn_4 n x1 x2 x3 S = some (r, S') → J 4 [some (vr 12 0), some (vi x1), some (vi x2), some (vi x3)] [] wl0 L0 0 0 Sc S := by
  intro n
  induction n with
  | zero =>
    intro x1 x2 x3 S hF
    rw [fX12_agesOn_4] at hF
    cases hF
  | succ n ih =>
    intro x1 x2 x3 S hF
    rw [fX12_agesOn_4] at hF
    refine hJ.iload_n (pc := 4) dX12_agesOn_4 rfl ?_
    refine hJ.aload_n (pc := 5) dX12_agesOn_5 rfl ?_
    refine hJ.gM (pc := 6) dX12_agesOn_6 fi_X12_130 ?_
    refine hJ.icmp_ge (pc := 9) 41 dX12_agesOn_9 (by decide) (fun h1 => ?_) (fun h1 => ?_)
    · rw [if_pos h1] at hF
      refine hJ.iload_n (pc := 41) dX12_agesOn_41 rfl ?_
      cases hF
      exact hR.i (pc := 42) dX12_agesOn_42
    · rw [if_neg h1] at hF
      refine hJ.aload_n (pc := 12) dX12_agesOn_12 rfl ?_
      refine hJ.gR (pc := 13) (k' := 65) (i' := 0) dX12_agesOn_13 fr_X12_25 rfl ?_
      refine hJ.iload_n (pc := 16) dX12_agesOn_16 rfl ?_
      obtain ⟨j2, h3, hF⟩ := bn_some hF
      refine hJ.lialdM (pc := 17) dX12_agesOn_17 al_65 h3 ?_
      refine hJ.iload_n (pc := 18) dX12_agesOn_18 rfl ?_
      refine hJ.icmp_ne (pc := 19) 35 dX12_agesOn_19 (by decide) (fun h4 => ?_) (fun h4 => ?_)
      · rw [if_neg h4] at hF
        refine hJ.iinc (pc := 35) (x3 + 1) [some (vr 12 0), some (vi x1), some (vi x2), some (vi (x3 + 1))] dX12_agesOn_35 (by decide) rfl (congrArg (fun z => x3 + z) ic_1) rfl ?_
        refine hJ.goto (pc := 38) 4 dX12_agesOn_38 (by decide) ?_
        exact ih x1 x2 (x3 + 1) S hF
      · rw [if_pos h4] at hF
        refine hJ.iload_n (pc := 22) dX12_agesOn_22 rfl ?_
        refine hJ.aload_n (pc := 23) dX12_agesOn_23 rfl ?_
        refine hJ.iload_n (pc := 24) dX12_agesOn_24 rfl ?_
        refine hJ.iload_n (pc := 25) dX12_agesOn_25 rfl ?_
        refine hJ.aload_n (pc := 26) dX12_agesOn_26 rfl ?_
        refine hJ.gM (pc := 27) dX12_agesOn_27 fi_X12_127 ?_
        obtain ⟨r7, S6, h5, hF⟩ := bd_some hF
        refine hJ.cV (pc := 30) [vi x3, vi x3, vi (S 12 0 2)] [vi x2] [vi r7, vi x2] dX12_agesOn_30 lk_X12_257 (ctX12_ageOf x3 x3 (S 12 0 2) _ _ _ _ h5) rfl rfl rfl rfl ?_
        refine hJ.iadd (pc := 33) dX12_agesOn_33 ?_
        refine hJ.istore_n (pc := 34) [some (vr 12 0), some (vi x1), some (vi (x2 + r7)), some (vi x3)] dX12_agesOn_34 (by decide) rfl ?_
        refine hJ.iinc (pc := 35) (x3 + 1) [some (vr 12 0), some (vi x1), some (vi (x2 + r7)), some (vi (x3 + 1))] dX12_agesOn_35 (by decide) rfl (congrArg (fun z => x3 + z) ic_1) rfl ?_
        refine hJ.goto (pc := 38) 4 dX12_agesOn_38 (by decide) ?_
        exact ih x1 (x2 + r7) (x3 + 1) S6 hF
set_option maxRecDepth 100000 in
set_option maxHeartbeats 4000000 in
theorem ctX12_agesOn (p0 : Int32) (Sc S : Mem) (r : Int32) (S' : Mem) (hF : fX12_agesOn p0 S = some (r, S')) : Ct yX12_agesOn cX12_agesOn 4 (some .int) 4 94 0 0 [vr 12 0, vi p0] wl0 L0 Sc S (some (vi r)) wl0 L0 Sc S' := by
  refine Ct.of RX12 false (by decide) rfl (fun h => by cases h) (Nat.le_of_ble_eq_true rfl) (fun J hJ hR => ?_)
  rw [fX12_agesOn] at hF
  show J 0 [some (vr 12 0), some (vi p0), none, none] [] wl0 L0 0 0 Sc S
  refine hJ.iconst (pc := 0) 0 dX12_agesOn_0 ic_0 ?_
  refine hJ.istore_n (pc := 1) [some (vr 12 0), some (vi p0), some (vi 0), none] dX12_agesOn_1 (by decide) rfl ?_
  refine hJ.iconst (pc := 2) 0 dX12_agesOn_2 ic_0 ?_
  refine hJ.istore_n (pc := 3) [some (vr 12 0), some (vi p0), some (vi 0), some (vi 0)] dX12_agesOn_3 (by decide) rfl ?_
  exact wX12_agesOn_4 hJ hR 5000 p0 0 0 S hF
set_option maxRecDepth 100000 in
set_option maxHeartbeats 4000000 in
theorem wX12_close_9 {J : Nat → Lv → List AV → Obs → Lay → Nat → Nat → Mem → Mem → Prop} (hJ : Cl RX12 cX12_close 3 5 117 0 0 none false J) {r : Int32} {Sc S' : Mem} (hR : Rk cX12_close (some .int) (some (vi r)) wl0 L0 0 0 Sc S' J) : ∀ (n : Nat) (x1 : Int32) (x2 : Int32) (S : Mem), fX12_close_9 n x1 x2 S = some (r, S') → J 9 [some (vr 12 0), some (vi x1), some (vi x2)] [] wl0 L0 0 0 Sc S := by
  intro n
  induction n with
  | zero =>
    intro x1 x2 S hF
    rw [fX12_close_9] at hF
    cases hF
  | succ n ih =>
    intro x1 x2 S hF
    rw [fX12_close_9] at hF
    refine hJ.iload_n (pc := 9) dX12_close_9 rfl ?_
    refine hJ.iconst (pc := 10) 5 dX12_close_10 ic_5 ?_
    refine hJ.icmp_ge (pc := 11) 48 dX12_close_11 (by decide) (fun h1 => ?_) (fun h1 => ?_)
    · rw [if_pos h1] at hF
      refine hJ.iload_n (pc := 48) dX12_close_48 rfl ?_
      cases hF
      exact hR.i (pc := 49) dX12_close_49
    · rw [if_neg h1] at hF
      refine hJ.aload_n (pc := 14) dX12_close_14 rfl ?_
      refine hJ.iload_n (pc := 15) dX12_close_15 rfl ?_
      obtain ⟨r3, h2, hF⟩ := bn_some hF
      refine hJ.cV (pc := 16) [vi x2] [] [vi r3] dX12_close_16 lk_X12_316 (ctX12_papersOn x2 _ _ _ h2) rfl rfl rfl rfl ?_
      refine hJ.if_le (pc := 19) 42 dX12_close_19 (by decide) (fun h4 => ?_) (fun h4 => ?_)
      · rw [if_pos h4] at hF
        refine hJ.iinc (pc := 42) (x2 + 1) [some (vr 12 0), some (vi x1), some (vi (x2 + 1))] dX12_close_42 (by decide) rfl (congrArg (fun z => x2 + z) ic_1) rfl ?_
        refine hJ.goto (pc := 45) 9 dX12_close_45 (by decide) ?_
        exact ih x1 (x2 + 1) S hF
      · rw [if_neg h4] at hF
        refine hJ.iload_n (pc := 22) dX12_close_22 rfl ?_
        refine hJ.iconst (pc := 23) (-1) dX12_close_23 ic_m1 ?_
        refine hJ.icmp_eq (pc := 24) 40 dX12_close_24 (by decide) (fun h5 => ?_) (fun h5 => ?_)
        · rw [if_pos h5] at hF
          refine hJ.iload_n (pc := 40) dX12_close_40 rfl ?_
          refine hJ.istore_n (pc := 41) [some (vr 12 0), some (vi x2), some (vi x2)] dX12_close_41 (by decide) rfl ?_
          refine hJ.iinc (pc := 42) (x2 + 1) [some (vr 12 0), some (vi x2), some (vi (x2 + 1))] dX12_close_42 (by decide) rfl (congrArg (fun z => x2 + z) ic_1) rfl ?_
          refine hJ.goto (pc := 45) 9 dX12_close_45 (by decide) ?_
          exact ih x2 (x2 + 1) S hF
        · rw [if_neg h5] at hF
          refine hJ.aload_n (pc := 27) dX12_close_27 rfl ?_
          refine hJ.iload_n (pc := 28) dX12_close_28 rfl ?_
          obtain ⟨r8, S7, h6, hF⟩ := bd_some hF
          refine hJ.cV (pc := 29) [vi x2] [] [vi r8] dX12_close_29 lk_X12_319 (ctX12_agesOn x2 _ _ _ _ h6) rfl rfl rfl rfl ?_
          refine hJ.aload_n (pc := 32) dX12_close_32 rfl ?_
          refine hJ.iload_n (pc := 33) dX12_close_33 rfl ?_
          obtain ⟨r11, S10, h9, hF⟩ := bd_some hF
          refine hJ.cV (pc := 34) [vi x1] [vi r8] [vi r11, vi r8] dX12_close_34 lk_X12_319 (ctX12_agesOn x1 _ _ _ _ h9) rfl rfl rfl rfl ?_
          refine hJ.icmp_le (pc := 37) 42 dX12_close_37 (by decide) (fun h12 => ?_) (fun h12 => ?_)
          · rw [if_pos h12] at hF
            refine hJ.iinc (pc := 42) (x2 + 1) [some (vr 12 0), some (vi x1), some (vi (x2 + 1))] dX12_close_42 (by decide) rfl (congrArg (fun z => x2 + z) ic_1) rfl ?_
            refine hJ.goto (pc := 45) 9 dX12_close_45 (by decide) ?_
            exact ih x1 (x2 + 1) S10 hF
          · rw [if_neg h12] at hF
            refine hJ.iload_n (pc := 40) dX12_close_40 rfl ?_
            refine hJ.istore_n (pc := 41) [some (vr 12 0), some (vi x2), some (vi x2)] dX12_close_41 (by decide) rfl ?_
            refine hJ.iinc (pc := 42) (x2 + 1) [some (vr 12 0), some (vi x2), some (vi (x2 + 1))] dX12_close_42 (by decide) rfl (congrArg (fun z => x2 + z) ic_1) rfl ?_
            refine hJ.goto (pc := 45) 9 dX12_close_45 (by decide) ?_
            exact ih x2 (x2 + 1) S10 hF
set_option maxRecDepth 100000 in
set_option maxHeartbeats 4000000 in
theorem ctX12_close (Sc S : Mem) (r : Int32) (S' : Mem) (hF : fX12_close S = some (r, S')) : Ct yX12_close cX12_close 3 (some .int) 5 117 0 0 [vr 12 0] wl0 L0 Sc S (some (vi r)) wl0 L0 Sc S' := by
  refine Ct.of RX12 false (by decide) rfl (fun h => by cases h) (Nat.le_of_ble_eq_true rfl) (fun J hJ hR => ?_)
  rw [fX12_close] at hF
  show J 0 [some (vr 12 0), none, none] [] wl0 L0 0 0 Sc S
  refine hJ.aload_n (pc := 0) dX12_close_0 rfl ?_
  refine hJ.iconst (pc := 1) 0 dX12_close_1 ic_0 ?_
  refine hJ.pIM (pc := 2) dX12_close_2 fp_X12_104 ?_
  refine hJ.iconst (pc := 5) (-1) dX12_close_5 ic_m1 ?_
  refine hJ.istore_n (pc := 6) [some (vr 12 0), some (vi (-1)), none] dX12_close_6 (by decide) rfl ?_
  refine hJ.iconst (pc := 7) 0 dX12_close_7 ic_0 ?_
  refine hJ.istore_n (pc := 8) [some (vr 12 0), some (vi (-1)), some (vi 0)] dX12_close_8 (by decide) rfl ?_
  exact wX12_close_9 hJ hR 5000 (-1) 0 (up S 12 0 0 0) hF
set_option maxRecDepth 100000 in
set_option maxHeartbeats 4000000 in
theorem ctX12_mean (p0 : Int32) (Sc S : Mem) (r : Int32) (S' : Mem) (hF : fX12_mean p0 S = some (r, S')) : Ct yX12_mean cX12_mean 2 (some .int) 5 117 0 0 [vr 12 0, vi p0] wl0 L0 Sc S (some (vi r)) wl0 L0 Sc S' := by
  refine Ct.of RX12 false (by decide) rfl (fun h => by cases h) (Nat.le_of_ble_eq_true rfl) (fun J hJ hR => ?_)
  rw [fX12_mean] at hF
  show J 0 [some (vr 12 0), some (vi p0)] [] wl0 L0 0 0 Sc S
  refine hJ.aload_n (pc := 0) dX12_mean_0 rfl ?_
  refine hJ.iconst (pc := 1) 0 dX12_mean_1 ic_0 ?_
  refine hJ.pIM (pc := 2) dX12_mean_2 fp_X12_104 ?_
  refine hJ.aload_n (pc := 5) dX12_mean_5 rfl ?_
  refine hJ.iload_n (pc := 6) dX12_mean_6 rfl ?_
  refine hJ.cV (pc := 7) [vi p0] [] [vi (fX12_isShelf p0)] dX12_mean_7 lk_X12_133 (ctX12_isShelf p0 _ _ (fX12_isShelf p0) rfl) rfl rfl rfl rfl ?_
  refine hJ.if_eq (pc := 10) 35 dX12_mean_10 (by decide) (fun h1 => ?_) (fun h1 => ?_)
  · rw [if_pos h1] at hF
    refine hJ.iconst (pc := 35) (-1) dX12_mean_35 ic_m1 ?_
    cases hF
    exact hR.i (pc := 36) dX12_mean_36
  · rw [if_neg h1] at hF
    refine hJ.aload_n (pc := 13) dX12_mean_13 rfl ?_
    refine hJ.iload_n (pc := 14) dX12_mean_14 rfl ?_
    obtain ⟨r3, h2, hF⟩ := bn_some hF
    refine hJ.cV (pc := 15) [vi p0] [] [vi r3] dX12_mean_15 lk_X12_316 (ctX12_papersOn p0 _ _ _ h2) rfl rfl rfl rfl ?_
    refine hJ.if_le (pc := 18) 35 dX12_mean_18 (by decide) (fun h4 => ?_) (fun h4 => ?_)
    · rw [if_pos h4] at hF
      refine hJ.iconst (pc := 35) (-1) dX12_mean_35 ic_m1 ?_
      cases hF
      exact hR.i (pc := 36) dX12_mean_36
    · rw [if_neg h4] at hF
      refine hJ.aload_n (pc := 21) dX12_mean_21 rfl ?_
      refine hJ.iload_n (pc := 22) dX12_mean_22 rfl ?_
      obtain ⟨r7, S6, h5, hF⟩ := bd_some hF
      refine hJ.cV (pc := 23) [vi p0] [] [vi r7] dX12_mean_23 lk_X12_319 (ctX12_agesOn p0 _ _ _ _ h5) rfl rfl rfl rfl ?_
      refine hJ.aload_n (pc := 26) dX12_mean_26 rfl ?_
      refine hJ.iload_n (pc := 27) dX12_mean_27 rfl ?_
      obtain ⟨r9, h8, hF⟩ := bn_some hF
      refine hJ.cV (pc := 28) [vi p0] [vi r7] [vi r9, vi r7] dX12_mean_28 lk_X12_316 (ctX12_papersOn p0 _ _ _ h8) rfl rfl rfl rfl ?_
      obtain ⟨h10, hF⟩ := gn_some hF
      refine hJ.idiv (pc := 31) dX12_mean_31 h10 ?_
      refine hJ.goto (pc := 32) 36 dX12_mean_32 (by decide) ?_
      cases hF
      exact hR.i (pc := 36) dX12_mean_36
