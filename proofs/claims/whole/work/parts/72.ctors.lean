/-! ===== the constructors ===== -/
set_option maxRecDepth 100000 in
set_option maxHeartbeats 4000000 in
theorem nt_X1_init_0 {Sm : Mem} : Ct yX1_init cX1_init 1 none 1 20 1 600 [vr 1 0] nw5 nl7 nc5 Sm none nw6 nl9 nc7 Sm := by
  refine Ct.of RX1 true (by decide) rfl (fun _ => rfl) (by decide) (fun J hJ hR => ?_)
  show J 0 [some (vr 1 0)] [] nw5 nl7 0 0 nc5 Sm
  refine hJ.aload_n (pc := 0) dX1_init_0 rfl ?_
  refine hJ.objInit (pc := 1) dX1_init_1 now_X1_3 ⟨by decide, by decide⟩ ?_
  refine hJ.aload_n (pc := 4) dX1_init_4 rfl ?_
  refine hJ.sipush (pc := 5) 600 dX1_init_5 (by decide) ?_
  refine hJ.newaC (pc := 8) (k := 16) (i := 0) dX1_init_8 (Or.inl ⟨rfl, rfl⟩) nac_0 (by decide +kernel) (by decide) rfl (Nat.le_of_ble_eq_true rfl) rfl ⟨Nat.le_of_ble_eq_true rfl, Nat.le_of_ble_eq_true rfl⟩ ?_
  show J 10 [some (vr 1 0)] [vr 16 0, vr 1 0] nw6 nl8 1 600 nc6 Sm
  refine hJ.putR (pc := 10) dX1_init_10 nff_X1_11 rfl (by decide) ?_
  show J 13 [some (vr 1 0)] [] nw6 nl9 1 600 nc6 Sm
  refine hJ.aload_n (pc := 13) dX1_init_13 rfl ?_
  refine hJ.iconst (pc := 14) 0 dX1_init_14 (by decide) ?_
  refine hJ.pI (pc := 15) dX1_init_15 nfp_X1_15 ?_
  show J 18 [some (vr 1 0)] [] nw6 nl9 1 600 nc7 Sm
  exact hR.v (pc := 18) dX1_init_18
set_option maxRecDepth 100000 in
set_option maxHeartbeats 4000000 in
theorem nt_X2_init_0 {Sm : Mem} : Ct yX2_init cX2_init 1 none 1 20 4 24 [vr 2 0] nw7 nl11 nc8 Sm none nw11 nl19 nc13 Sm := by
  refine Ct.of RX2 true (by decide) rfl (fun _ => rfl) (by decide) (fun J hJ hR => ?_)
  show J 0 [some (vr 2 0)] [] nw7 nl11 0 0 nc8 Sm
  refine hJ.aload_n (pc := 0) dX2_init_0 rfl ?_
  refine hJ.objInit (pc := 1) dX2_init_1 now_X2_3 ⟨by decide, by decide⟩ ?_
  refine hJ.aload_n (pc := 4) dX2_init_4 rfl ?_
  refine hJ.bipush (pc := 5) 6 dX2_init_5 (by decide) ?_
  refine hJ.newaC (pc := 7) (k := 17) (i := 0) dX2_init_7 (Or.inl ⟨rfl, rfl⟩) nac_0 (by decide +kernel) (by decide) rfl (Nat.le_of_ble_eq_true rfl) rfl ⟨Nat.le_of_ble_eq_true rfl, Nat.le_of_ble_eq_true rfl⟩ ?_
  show J 9 [some (vr 2 0)] [vr 17 0, vr 2 0] nw8 nl12 1 6 nc9 Sm
  refine hJ.putR (pc := 9) dX2_init_9 nff_X2_11 rfl (by decide) ?_
  show J 12 [some (vr 2 0)] [] nw8 nl13 1 6 nc9 Sm
  refine hJ.aload_n (pc := 12) dX2_init_12 rfl ?_
  refine hJ.bipush (pc := 13) 6 dX2_init_13 (by decide) ?_
  refine hJ.newaC (pc := 15) (k := 18) (i := 0) dX2_init_15 (Or.inl ⟨rfl, rfl⟩) nac_0 (by decide +kernel) (by decide) rfl (Nat.le_of_ble_eq_true rfl) rfl ⟨Nat.le_of_ble_eq_true rfl, Nat.le_of_ble_eq_true rfl⟩ ?_
  show J 17 [some (vr 2 0)] [vr 18 0, vr 2 0] nw9 nl14 2 12 nc10 Sm
  refine hJ.putR (pc := 17) dX2_init_17 nff_X2_15 rfl (by decide) ?_
  show J 20 [some (vr 2 0)] [] nw9 nl15 2 12 nc10 Sm
  refine hJ.aload_n (pc := 20) dX2_init_20 rfl ?_
  refine hJ.bipush (pc := 21) 6 dX2_init_21 (by decide) ?_
  refine hJ.newaC (pc := 23) (k := 19) (i := 0) dX2_init_23 (Or.inl ⟨rfl, rfl⟩) nac_0 (by decide +kernel) (by decide) rfl (Nat.le_of_ble_eq_true rfl) rfl ⟨Nat.le_of_ble_eq_true rfl, Nat.le_of_ble_eq_true rfl⟩ ?_
  show J 25 [some (vr 2 0)] [vr 19 0, vr 2 0] nw10 nl16 3 18 nc11 Sm
  refine hJ.putR (pc := 25) dX2_init_25 nff_X2_18 rfl (by decide) ?_
  show J 28 [some (vr 2 0)] [] nw10 nl17 3 18 nc11 Sm
  refine hJ.aload_n (pc := 28) dX2_init_28 rfl ?_
  refine hJ.bipush (pc := 29) 6 dX2_init_29 (by decide) ?_
  refine hJ.newaC (pc := 31) (k := 20) (i := 0) dX2_init_31 (Or.inl ⟨rfl, rfl⟩) nac_0 (by decide +kernel) (by decide) rfl (Nat.le_of_ble_eq_true rfl) rfl ⟨Nat.le_of_ble_eq_true rfl, Nat.le_of_ble_eq_true rfl⟩ ?_
  show J 33 [some (vr 2 0)] [vr 20 0, vr 2 0] nw11 nl18 4 24 nc12 Sm
  refine hJ.putR (pc := 33) dX2_init_33 nff_X2_21 rfl (by decide) ?_
  show J 36 [some (vr 2 0)] [] nw11 nl19 4 24 nc12 Sm
  refine hJ.aload_n (pc := 36) dX2_init_36 rfl ?_
  refine hJ.iconst (pc := 37) 0 dX2_init_37 (by decide) ?_
  refine hJ.pI (pc := 38) dX2_init_38 nfp_X2_24 ?_
  show J 41 [some (vr 2 0)] [] nw11 nl19 4 24 nc13 Sm
  exact hR.v (pc := 41) dX2_init_41
set_option maxRecDepth 100000 in
set_option maxHeartbeats 4000000 in
theorem nt_X3_init_0 {Sm : Mem} : Ct yX3_init cX3_init 1 none 1 20 5 488 [vr 3 0] nw12 nl21 nc14 Sm none nw17 nl31 nc21 Sm := by
  refine Ct.of RX3 true (by decide) rfl (fun _ => rfl) (by decide) (fun J hJ hR => ?_)
  show J 0 [some (vr 3 0)] [] nw12 nl21 0 0 nc14 Sm
  refine hJ.aload_n (pc := 0) dX3_init_0 rfl ?_
  refine hJ.objInit (pc := 1) dX3_init_1 now_X3_3 ⟨by decide, by decide⟩ ?_
  refine hJ.aload_n (pc := 4) dX3_init_4 rfl ?_
  refine hJ.sipush (pc := 5) 400 dX3_init_5 (by decide) ?_
  refine hJ.newaC (pc := 8) (k := 21) (i := 0) dX3_init_8 (Or.inl ⟨rfl, rfl⟩) nac_0 (by decide +kernel) (by decide) rfl (Nat.le_of_ble_eq_true rfl) rfl ⟨Nat.le_of_ble_eq_true rfl, Nat.le_of_ble_eq_true rfl⟩ ?_
  show J 10 [some (vr 3 0)] [vr 21 0, vr 3 0] nw13 nl22 1 400 nc15 Sm
  refine hJ.putR (pc := 10) dX3_init_10 nff_X3_11 rfl (by decide) ?_
  show J 13 [some (vr 3 0)] [] nw13 nl23 1 400 nc15 Sm
  refine hJ.aload_n (pc := 13) dX3_init_13 rfl ?_
  refine hJ.bipush (pc := 14) 16 dX3_init_14 (by decide) ?_
  refine hJ.newaC (pc := 16) (k := 22) (i := 0) dX3_init_16 (Or.inl ⟨rfl, rfl⟩) nac_0 (by decide +kernel) (by decide) rfl (Nat.le_of_ble_eq_true rfl) rfl ⟨Nat.le_of_ble_eq_true rfl, Nat.le_of_ble_eq_true rfl⟩ ?_
  show J 18 [some (vr 3 0)] [vr 22 0, vr 3 0] nw14 nl24 2 416 nc16 Sm
  refine hJ.putR (pc := 18) dX3_init_18 nff_X3_17 rfl (by decide) ?_
  show J 21 [some (vr 3 0)] [] nw14 nl25 2 416 nc16 Sm
  refine hJ.aload_n (pc := 21) dX3_init_21 rfl ?_
  refine hJ.bipush (pc := 22) 16 dX3_init_22 (by decide) ?_
  refine hJ.newaC (pc := 24) (k := 23) (i := 0) dX3_init_24 (Or.inl ⟨rfl, rfl⟩) nac_0 (by decide +kernel) (by decide) rfl (Nat.le_of_ble_eq_true rfl) rfl ⟨Nat.le_of_ble_eq_true rfl, Nat.le_of_ble_eq_true rfl⟩ ?_
  show J 26 [some (vr 3 0)] [vr 23 0, vr 3 0] nw15 nl26 3 432 nc17 Sm
  refine hJ.putR (pc := 26) dX3_init_26 nff_X3_20 rfl (by decide) ?_
  show J 29 [some (vr 3 0)] [] nw15 nl27 3 432 nc17 Sm
  refine hJ.aload_n (pc := 29) dX3_init_29 rfl ?_
  refine hJ.bipush (pc := 30) 16 dX3_init_30 (by decide) ?_
  refine hJ.newaC (pc := 32) (k := 24) (i := 0) dX3_init_32 (Or.inl ⟨rfl, rfl⟩) nac_0 (by decide +kernel) (by decide) rfl (Nat.le_of_ble_eq_true rfl) rfl ⟨Nat.le_of_ble_eq_true rfl, Nat.le_of_ble_eq_true rfl⟩ ?_
  show J 34 [some (vr 3 0)] [vr 24 0, vr 3 0] nw16 nl28 4 448 nc18 Sm
  refine hJ.putR (pc := 34) dX3_init_34 nff_X3_23 rfl (by decide) ?_
  show J 37 [some (vr 3 0)] [] nw16 nl29 4 448 nc18 Sm
  refine hJ.aload_n (pc := 37) dX3_init_37 rfl ?_
  refine hJ.bipush (pc := 38) 40 dX3_init_38 (by decide) ?_
  refine hJ.newaC (pc := 40) (k := 25) (i := 0) dX3_init_40 (Or.inl ⟨rfl, rfl⟩) nac_0 (by decide +kernel) (by decide) rfl (Nat.le_of_ble_eq_true rfl) rfl ⟨Nat.le_of_ble_eq_true rfl, Nat.le_of_ble_eq_true rfl⟩ ?_
  show J 42 [some (vr 3 0)] [vr 25 0, vr 3 0] nw17 nl30 5 488 nc19 Sm
  refine hJ.putR (pc := 42) dX3_init_42 nff_X3_26 rfl (by decide) ?_
  show J 45 [some (vr 3 0)] [] nw17 nl31 5 488 nc19 Sm
  refine hJ.aload_n (pc := 45) dX3_init_45 rfl ?_
  refine hJ.iconst (pc := 46) 0 dX3_init_46 (by decide) ?_
  refine hJ.pI (pc := 47) dX3_init_47 nfp_X3_29 ?_
  show J 50 [some (vr 3 0)] [] nw17 nl31 5 488 nc20 Sm
  refine hJ.aload_n (pc := 50) dX3_init_50 rfl ?_
  refine hJ.iconst (pc := 51) 0 dX3_init_51 (by decide) ?_
  refine hJ.pI (pc := 52) dX3_init_52 nfp_X3_33 ?_
  show J 55 [some (vr 3 0)] [] nw17 nl31 5 488 nc21 Sm
  exact hR.v (pc := 55) dX3_init_55
set_option maxRecDepth 100000 in
set_option maxHeartbeats 4000000 in
theorem nt_X6_init {i : Nat} {wl : Obs} {L : Lay} {Sc Sm : Mem} : Ct yX6_init cX6_init 1 none 1 20 0 0 [vr 6 i] wl L Sc Sm none wl L Sc Sm := by
  refine Ct.of RX6 true (by decide) rfl (fun _ => rfl) (Nat.le_refl 1) (fun J hJ hR => ?_)
  show J 0 [some (vr 6 i)] [] wl L 0 0 Sc Sm
  refine hJ.aload_n (pc := 0) dX6_init_0 rfl ?_
  refine hJ.objInit (pc := 1) dX6_init_1 now_X6_3 ⟨by decide, by decide⟩ ?_
  exact hR.v (pc := 4) dX6_init_4
set_option maxRecDepth 100000 in
set_option maxHeartbeats 4000000 in
theorem nt_X5_init {i : Nat} {wl : Obs} {L : Lay} {Sc Sm : Mem} : Ct yX5_init cX5_init 1 none 1 20 0 0 [vr 5 i] wl L Sc Sm none wl L Sc Sm := by
  refine Ct.of RX5 true (by decide) rfl (fun _ => rfl) (Nat.le_refl 1) (fun J hJ hR => ?_)
  show J 0 [some (vr 5 i)] [] wl L 0 0 Sc Sm
  refine hJ.aload_n (pc := 0) dX5_init_0 rfl ?_
  refine hJ.objInit (pc := 1) dX5_init_1 now_X5_3 ⟨by decide, by decide⟩ ?_
  exact hR.v (pc := 4) dX5_init_4
set_option maxRecDepth 100000 in
set_option maxHeartbeats 4000000 in
theorem nt_X0_init_0 {Sm : Mem} : Ct yX0_init cX0_init 2 none 2 40 40 1315 [vr 0 0] nw2 nl2 nc2 Sm none nw42 nl82 nc51 Sm := by
  refine Ct.of RX0 true (by decide) rfl (fun _ => rfl) (by decide) (fun J hJ hR => ?_)
  show J 0 [some (vr 0 0), none] [] nw2 nl2 0 0 nc2 Sm
  refine hJ.aload_n (pc := 0) dX0_init_0 rfl ?_
  refine hJ.objInit (pc := 1) dX0_init_1 now_X0_3 ⟨by decide, by decide⟩ ?_
  refine hJ.aload_n (pc := 4) dX0_init_4 rfl ?_
  refine hJ.bipush (pc := 5) 12 dX0_init_5 (by decide) ?_
  refine hJ.newq (pc := 7) (k := 13) (i := 0) dX0_init_7 aq_13 ncl_X0_9 (by decide +kernel) (by decide) rfl (Nat.le_of_ble_eq_true rfl) rfl ⟨Nat.le_of_ble_eq_true rfl, Nat.le_of_ble_eq_true rfl⟩ ?_
  show J 10 [some (vr 0 0), none] [vr 13 0, vr 0 0] nw3 nl3 1 12 nc3 Sm
  refine hJ.putR (pc := 10) dX0_init_10 nff_X0_11 rfl (by decide) ?_
  show J 13 [some (vr 0 0), none] [] nw3 nl4 1 12 nc3 Sm
  refine hJ.aload_n (pc := 13) dX0_init_13 rfl ?_
  refine hJ.bipush (pc := 14) 12 dX0_init_14 (by decide) ?_
  refine hJ.newq (pc := 16) (k := 14) (i := 0) dX0_init_16 aq_14 ncl_X0_17 (by decide +kernel) (by decide) rfl (Nat.le_of_ble_eq_true rfl) rfl ⟨Nat.le_of_ble_eq_true rfl, Nat.le_of_ble_eq_true rfl⟩ ?_
  show J 19 [some (vr 0 0), none] [vr 14 0, vr 0 0] nw4 nl5 2 24 nc4 Sm
  refine hJ.putR (pc := 19) dX0_init_19 nff_X0_19 rfl (by decide) ?_
  show J 22 [some (vr 0 0), none] [] nw4 nl6 2 24 nc4 Sm
  refine hJ.aload_n (pc := 22) dX0_init_22 rfl ?_
  refine hJ.newC (pc := 23) (i := 0) dX0_init_23 nnw_X0_23 (by decide +kernel) rfl ⟨Nat.le_of_ble_eq_true rfl, Nat.le_of_ble_eq_true rfl⟩ ?_
  show J 26 [some (vr 0 0), none] [vr 1 0, vr 0 0] nw5 nl7 3 26 nc5 Sm
  refine hJ.dup (pc := 26) dX0_init_26 ?_
  refine hJ.callIN (pc := 27) (as := []) (rest := [vr 1 0, vr 0 0]) dX0_init_27 nlk_X0_25 rfl nnm_X1_init nt_X1_init_0 rfl ⟨Nat.le_of_ble_eq_true rfl, Nat.le_of_ble_eq_true rfl, Nat.le_of_ble_eq_true rfl, Nat.le_of_ble_eq_true rfl, by decide⟩ ?_
  show J 30 [some (vr 0 0), none] [vr 1 0, vr 0 0] nw6 nl9 4 626 nc7 Sm
  refine hJ.putR (pc := 30) dX0_init_30 nff_X0_26 rfl (by decide) ?_
  show J 33 [some (vr 0 0), none] [] nw6 nl10 4 626 nc7 Sm
  refine hJ.aload_n (pc := 33) dX0_init_33 rfl ?_
  refine hJ.newC (pc := 34) (i := 0) dX0_init_34 nnw_X0_30 (by decide +kernel) rfl ⟨Nat.le_of_ble_eq_true rfl, Nat.le_of_ble_eq_true rfl⟩ ?_
  show J 37 [some (vr 0 0), none] [vr 2 0, vr 0 0] nw7 nl11 5 631 nc8 Sm
  refine hJ.dup (pc := 37) dX0_init_37 ?_
  refine hJ.callIN (pc := 38) (as := []) (rest := [vr 2 0, vr 0 0]) dX0_init_38 nlk_X0_32 rfl nnm_X2_init nt_X2_init_0 rfl ⟨Nat.le_of_ble_eq_true rfl, Nat.le_of_ble_eq_true rfl, Nat.le_of_ble_eq_true rfl, Nat.le_of_ble_eq_true rfl, by decide⟩ ?_
  show J 41 [some (vr 0 0), none] [vr 2 0, vr 0 0] nw11 nl19 9 655 nc13 Sm
  refine hJ.putR (pc := 41) dX0_init_41 nff_X0_33 rfl (by decide) ?_
  show J 44 [some (vr 0 0), none] [] nw11 nl20 9 655 nc13 Sm
  refine hJ.aload_n (pc := 44) dX0_init_44 rfl ?_
  refine hJ.newC (pc := 45) (i := 0) dX0_init_45 nnw_X0_37 (by decide +kernel) rfl ⟨Nat.le_of_ble_eq_true rfl, Nat.le_of_ble_eq_true rfl⟩ ?_
  show J 48 [some (vr 0 0), none] [vr 3 0, vr 0 0] nw12 nl21 10 662 nc14 Sm
  refine hJ.dup (pc := 48) dX0_init_48 ?_
  refine hJ.callIN (pc := 49) (as := []) (rest := [vr 3 0, vr 0 0]) dX0_init_49 nlk_X0_39 rfl nnm_X3_init nt_X3_init_0 rfl ⟨Nat.le_of_ble_eq_true rfl, Nat.le_of_ble_eq_true rfl, Nat.le_of_ble_eq_true rfl, Nat.le_of_ble_eq_true rfl, by decide⟩ ?_
  show J 52 [some (vr 0 0), none] [vr 3 0, vr 0 0] nw17 nl31 15 1150 nc21 Sm
  refine hJ.putR (pc := 52) dX0_init_52 nff_X0_40 rfl (by decide) ?_
  show J 55 [some (vr 0 0), none] [] nw17 nl32 15 1150 nc21 Sm
  refine hJ.aload_n (pc := 55) dX0_init_55 rfl ?_
  refine hJ.bipush (pc := 56) 9 dX0_init_56 (by decide) ?_
  refine hJ.newaC (pc := 58) (k := 15) (i := 0) dX0_init_58 (Or.inl ⟨rfl, rfl⟩) nac_0 (by decide +kernel) (by decide) rfl (Nat.le_of_ble_eq_true rfl) rfl ⟨Nat.le_of_ble_eq_true rfl, Nat.le_of_ble_eq_true rfl⟩ ?_
  show J 60 [some (vr 0 0), none] [vr 15 0, vr 0 0] nw18 nl33 16 1159 nc22 Sm
  refine hJ.putR (pc := 60) dX0_init_60 nff_X0_46 rfl (by decide) ?_
  show J 63 [some (vr 0 0), none] [] nw18 nl34 16 1159 nc22 Sm
  refine hJ.aload_n (pc := 63) dX0_init_63 rfl ?_
  refine hJ.iconst (pc := 64) 0 dX0_init_64 (by decide) ?_
  refine hJ.pI (pc := 65) dX0_init_65 nfp_X0_50 ?_
  show J 68 [some (vr 0 0), none] [] nw18 nl34 16 1159 nc23 Sm
  refine hJ.aload_n (pc := 68) dX0_init_68 rfl ?_
  refine hJ.iconst (pc := 69) 0 dX0_init_69 (by decide) ?_
  refine hJ.pI (pc := 70) dX0_init_70 nfp_X0_54 ?_
  show J 73 [some (vr 0 0), none] [] nw18 nl34 16 1159 nc24 Sm
  refine hJ.aload_n (pc := 73) dX0_init_73 rfl ?_
  refine hJ.iconst (pc := 74) 0 dX0_init_74 (by decide) ?_
  refine hJ.pI (pc := 75) dX0_init_75 nfp_X0_57 ?_
  show J 78 [some (vr 0 0), none] [] nw18 nl34 16 1159 nc25 Sm
  refine hJ.aload_n (pc := 78) dX0_init_78 rfl ?_
  refine hJ.iconst (pc := 79) 0 dX0_init_79 (by decide) ?_
  refine hJ.pI (pc := 80) dX0_init_80 nfp_X0_60 ?_
  show J 83 [some (vr 0 0), none] [] nw18 nl34 16 1159 nc26 Sm
  refine hJ.aload_n (pc := 83) dX0_init_83 rfl ?_
  refine hJ.iconst (pc := 84) 0 dX0_init_84 (by decide) ?_
  refine hJ.pI (pc := 85) dX0_init_85 nfp_X0_63 ?_
  show J 88 [some (vr 0 0), none] [] nw18 nl34 16 1159 nc27 Sm
  refine hJ.iconst (pc := 88) 0 dX0_init_88 (by decide) ?_
  refine hJ.istore_n (pc := 89) [some (vr 0 0), some (vi 0)] dX0_init_89 (by decide) rfl ?_
  refine hJ.iload_n (pc := 90) dX0_init_90 rfl ?_
  refine hJ.bipush (pc := 91) 12 dX0_init_91 (by decide) ?_
  refine hJ.icmp_ge (pc := 93) 115 dX0_init_93 (by decide) (fun h0 => absurd h0 (by decide)) (fun _ => ?_)
  refine hJ.aload_n (pc := 96) dX0_init_96 rfl ?_
  refine hJ.getR (pc := 97) (k' := 13) (i' := 0) dX0_init_97 nfr_X0_11 rfl (by decide +kernel) ?_
  refine hJ.iload_n (pc := 100) dX0_init_100 rfl ?_
  refine hJ.newC (pc := 101) (i := 0) dX0_init_101 nnw_X0_9 (by decide +kernel) rfl ⟨Nat.le_of_ble_eq_true rfl, Nat.le_of_ble_eq_true rfl⟩ ?_
  show J 104 [some (vr 0 0), some (vi 0)] [vr 6 0, vi 0, vr 13 0] nw19 nl35 17 1164 nc28 Sm
  refine hJ.dup (pc := 104) dX0_init_104 ?_
  refine hJ.callIN (pc := 105) (as := []) (rest := [vr 6 0, vi 0, vr 13 0]) dX0_init_105 nlk_X0_66 rfl nnm_X6_init nt_X6_init rfl ⟨Nat.le_of_ble_eq_true rfl, Nat.le_of_ble_eq_true rfl, Nat.le_of_ble_eq_true rfl, Nat.le_of_ble_eq_true rfl, by decide⟩ ?_
  show J 108 [some (vr 0 0), some (vi 0)] [vr 6 0, vi 0, vr 13 0] nw19 nl35 17 1164 nc28 Sm
  refine hJ.aast (pc := 108) dX0_init_108 aq_13 rfl (show ix 0 12 = some 0 by decide) (show vwCl[6]? = some (RX6, TX6, nsl 6) from rfl) (by decide) rfl ?_
  show J 109 [some (vr 0 0), some (vi 0)] [] nw19 nl36 17 1164 nc28 Sm
  refine hJ.iinc (pc := 109) 1 [some (vr 0 0), some (vi 1)] dX0_init_109 (by decide) rfl (by decide) rfl ?_
  refine hJ.goto (pc := 112) 90 dX0_init_112 (by decide) ?_
  refine hJ.iload_n (pc := 90) dX0_init_90 rfl ?_
  refine hJ.bipush (pc := 91) 12 dX0_init_91 (by decide) ?_
  refine hJ.icmp_ge (pc := 93) 115 dX0_init_93 (by decide) (fun h0 => absurd h0 (by decide)) (fun _ => ?_)
  refine hJ.aload_n (pc := 96) dX0_init_96 rfl ?_
  refine hJ.getR (pc := 97) (k' := 13) (i' := 0) dX0_init_97 nfr_X0_11 rfl (by decide +kernel) ?_
  refine hJ.iload_n (pc := 100) dX0_init_100 rfl ?_
  refine hJ.newC (pc := 101) (i := 1) dX0_init_101 nnw_X0_9 (by decide +kernel) rfl ⟨Nat.le_of_ble_eq_true rfl, Nat.le_of_ble_eq_true rfl⟩ ?_
  show J 104 [some (vr 0 0), some (vi 1)] [vr 6 1, vi 1, vr 13 0] nw20 nl37 18 1169 nc29 Sm
  refine hJ.dup (pc := 104) dX0_init_104 ?_
  refine hJ.callIN (pc := 105) (as := []) (rest := [vr 6 1, vi 1, vr 13 0]) dX0_init_105 nlk_X0_66 rfl nnm_X6_init nt_X6_init rfl ⟨Nat.le_of_ble_eq_true rfl, Nat.le_of_ble_eq_true rfl, Nat.le_of_ble_eq_true rfl, Nat.le_of_ble_eq_true rfl, by decide⟩ ?_
  show J 108 [some (vr 0 0), some (vi 1)] [vr 6 1, vi 1, vr 13 0] nw20 nl37 18 1169 nc29 Sm
  refine hJ.aast (pc := 108) dX0_init_108 aq_13 rfl (show ix 1 12 = some 1 by decide) (show vwCl[6]? = some (RX6, TX6, nsl 6) from rfl) (by decide) rfl ?_
  show J 109 [some (vr 0 0), some (vi 1)] [] nw20 nl38 18 1169 nc29 Sm
  refine hJ.iinc (pc := 109) 2 [some (vr 0 0), some (vi 2)] dX0_init_109 (by decide) rfl (by decide) rfl ?_
  refine hJ.goto (pc := 112) 90 dX0_init_112 (by decide) ?_
  refine hJ.iload_n (pc := 90) dX0_init_90 rfl ?_
  refine hJ.bipush (pc := 91) 12 dX0_init_91 (by decide) ?_
  refine hJ.icmp_ge (pc := 93) 115 dX0_init_93 (by decide) (fun h0 => absurd h0 (by decide)) (fun _ => ?_)
  refine hJ.aload_n (pc := 96) dX0_init_96 rfl ?_
  refine hJ.getR (pc := 97) (k' := 13) (i' := 0) dX0_init_97 nfr_X0_11 rfl (by decide +kernel) ?_
  refine hJ.iload_n (pc := 100) dX0_init_100 rfl ?_
  refine hJ.newC (pc := 101) (i := 2) dX0_init_101 nnw_X0_9 (by decide +kernel) rfl ⟨Nat.le_of_ble_eq_true rfl, Nat.le_of_ble_eq_true rfl⟩ ?_
  show J 104 [some (vr 0 0), some (vi 2)] [vr 6 2, vi 2, vr 13 0] nw21 nl39 19 1174 nc30 Sm
  refine hJ.dup (pc := 104) dX0_init_104 ?_
  refine hJ.callIN (pc := 105) (as := []) (rest := [vr 6 2, vi 2, vr 13 0]) dX0_init_105 nlk_X0_66 rfl nnm_X6_init nt_X6_init rfl ⟨Nat.le_of_ble_eq_true rfl, Nat.le_of_ble_eq_true rfl, Nat.le_of_ble_eq_true rfl, Nat.le_of_ble_eq_true rfl, by decide⟩ ?_
  show J 108 [some (vr 0 0), some (vi 2)] [vr 6 2, vi 2, vr 13 0] nw21 nl39 19 1174 nc30 Sm
  refine hJ.aast (pc := 108) dX0_init_108 aq_13 rfl (show ix 2 12 = some 2 by decide) (show vwCl[6]? = some (RX6, TX6, nsl 6) from rfl) (by decide) rfl ?_
  show J 109 [some (vr 0 0), some (vi 2)] [] nw21 nl40 19 1174 nc30 Sm
  refine hJ.iinc (pc := 109) 3 [some (vr 0 0), some (vi 3)] dX0_init_109 (by decide) rfl (by decide) rfl ?_
  refine hJ.goto (pc := 112) 90 dX0_init_112 (by decide) ?_
  refine hJ.iload_n (pc := 90) dX0_init_90 rfl ?_
  refine hJ.bipush (pc := 91) 12 dX0_init_91 (by decide) ?_
  refine hJ.icmp_ge (pc := 93) 115 dX0_init_93 (by decide) (fun h0 => absurd h0 (by decide)) (fun _ => ?_)
  refine hJ.aload_n (pc := 96) dX0_init_96 rfl ?_
  refine hJ.getR (pc := 97) (k' := 13) (i' := 0) dX0_init_97 nfr_X0_11 rfl (by decide +kernel) ?_
  refine hJ.iload_n (pc := 100) dX0_init_100 rfl ?_
  refine hJ.newC (pc := 101) (i := 3) dX0_init_101 nnw_X0_9 (by decide +kernel) rfl ⟨Nat.le_of_ble_eq_true rfl, Nat.le_of_ble_eq_true rfl⟩ ?_
  show J 104 [some (vr 0 0), some (vi 3)] [vr 6 3, vi 3, vr 13 0] nw22 nl41 20 1179 nc31 Sm
  refine hJ.dup (pc := 104) dX0_init_104 ?_
  refine hJ.callIN (pc := 105) (as := []) (rest := [vr 6 3, vi 3, vr 13 0]) dX0_init_105 nlk_X0_66 rfl nnm_X6_init nt_X6_init rfl ⟨Nat.le_of_ble_eq_true rfl, Nat.le_of_ble_eq_true rfl, Nat.le_of_ble_eq_true rfl, Nat.le_of_ble_eq_true rfl, by decide⟩ ?_
  show J 108 [some (vr 0 0), some (vi 3)] [vr 6 3, vi 3, vr 13 0] nw22 nl41 20 1179 nc31 Sm
  refine hJ.aast (pc := 108) dX0_init_108 aq_13 rfl (show ix 3 12 = some 3 by decide) (show vwCl[6]? = some (RX6, TX6, nsl 6) from rfl) (by decide) rfl ?_
  show J 109 [some (vr 0 0), some (vi 3)] [] nw22 nl42 20 1179 nc31 Sm
  refine hJ.iinc (pc := 109) 4 [some (vr 0 0), some (vi 4)] dX0_init_109 (by decide) rfl (by decide) rfl ?_
  refine hJ.goto (pc := 112) 90 dX0_init_112 (by decide) ?_
  refine hJ.iload_n (pc := 90) dX0_init_90 rfl ?_
  refine hJ.bipush (pc := 91) 12 dX0_init_91 (by decide) ?_
  refine hJ.icmp_ge (pc := 93) 115 dX0_init_93 (by decide) (fun h0 => absurd h0 (by decide)) (fun _ => ?_)
  refine hJ.aload_n (pc := 96) dX0_init_96 rfl ?_
  refine hJ.getR (pc := 97) (k' := 13) (i' := 0) dX0_init_97 nfr_X0_11 rfl (by decide +kernel) ?_
  refine hJ.iload_n (pc := 100) dX0_init_100 rfl ?_
  refine hJ.newC (pc := 101) (i := 4) dX0_init_101 nnw_X0_9 (by decide +kernel) rfl ⟨Nat.le_of_ble_eq_true rfl, Nat.le_of_ble_eq_true rfl⟩ ?_
  show J 104 [some (vr 0 0), some (vi 4)] [vr 6 4, vi 4, vr 13 0] nw23 nl43 21 1184 nc32 Sm
  refine hJ.dup (pc := 104) dX0_init_104 ?_
  refine hJ.callIN (pc := 105) (as := []) (rest := [vr 6 4, vi 4, vr 13 0]) dX0_init_105 nlk_X0_66 rfl nnm_X6_init nt_X6_init rfl ⟨Nat.le_of_ble_eq_true rfl, Nat.le_of_ble_eq_true rfl, Nat.le_of_ble_eq_true rfl, Nat.le_of_ble_eq_true rfl, by decide⟩ ?_
  show J 108 [some (vr 0 0), some (vi 4)] [vr 6 4, vi 4, vr 13 0] nw23 nl43 21 1184 nc32 Sm
  refine hJ.aast (pc := 108) dX0_init_108 aq_13 rfl (show ix 4 12 = some 4 by decide) (show vwCl[6]? = some (RX6, TX6, nsl 6) from rfl) (by decide) rfl ?_
  show J 109 [some (vr 0 0), some (vi 4)] [] nw23 nl44 21 1184 nc32 Sm
  refine hJ.iinc (pc := 109) 5 [some (vr 0 0), some (vi 5)] dX0_init_109 (by decide) rfl (by decide) rfl ?_
  refine hJ.goto (pc := 112) 90 dX0_init_112 (by decide) ?_
  refine hJ.iload_n (pc := 90) dX0_init_90 rfl ?_
  refine hJ.bipush (pc := 91) 12 dX0_init_91 (by decide) ?_
  refine hJ.icmp_ge (pc := 93) 115 dX0_init_93 (by decide) (fun h0 => absurd h0 (by decide)) (fun _ => ?_)
  refine hJ.aload_n (pc := 96) dX0_init_96 rfl ?_
  refine hJ.getR (pc := 97) (k' := 13) (i' := 0) dX0_init_97 nfr_X0_11 rfl (by decide +kernel) ?_
  refine hJ.iload_n (pc := 100) dX0_init_100 rfl ?_
  refine hJ.newC (pc := 101) (i := 5) dX0_init_101 nnw_X0_9 (by decide +kernel) rfl ⟨Nat.le_of_ble_eq_true rfl, Nat.le_of_ble_eq_true rfl⟩ ?_
  show J 104 [some (vr 0 0), some (vi 5)] [vr 6 5, vi 5, vr 13 0] nw24 nl45 22 1189 nc33 Sm
  refine hJ.dup (pc := 104) dX0_init_104 ?_
  refine hJ.callIN (pc := 105) (as := []) (rest := [vr 6 5, vi 5, vr 13 0]) dX0_init_105 nlk_X0_66 rfl nnm_X6_init nt_X6_init rfl ⟨Nat.le_of_ble_eq_true rfl, Nat.le_of_ble_eq_true rfl, Nat.le_of_ble_eq_true rfl, Nat.le_of_ble_eq_true rfl, by decide⟩ ?_
  show J 108 [some (vr 0 0), some (vi 5)] [vr 6 5, vi 5, vr 13 0] nw24 nl45 22 1189 nc33 Sm
  refine hJ.aast (pc := 108) dX0_init_108 aq_13 rfl (show ix 5 12 = some 5 by decide) (show vwCl[6]? = some (RX6, TX6, nsl 6) from rfl) (by decide) rfl ?_
  show J 109 [some (vr 0 0), some (vi 5)] [] nw24 nl46 22 1189 nc33 Sm
  refine hJ.iinc (pc := 109) 6 [some (vr 0 0), some (vi 6)] dX0_init_109 (by decide) rfl (by decide) rfl ?_
  refine hJ.goto (pc := 112) 90 dX0_init_112 (by decide) ?_
  refine hJ.iload_n (pc := 90) dX0_init_90 rfl ?_
  refine hJ.bipush (pc := 91) 12 dX0_init_91 (by decide) ?_
  refine hJ.icmp_ge (pc := 93) 115 dX0_init_93 (by decide) (fun h0 => absurd h0 (by decide)) (fun _ => ?_)
  refine hJ.aload_n (pc := 96) dX0_init_96 rfl ?_
  refine hJ.getR (pc := 97) (k' := 13) (i' := 0) dX0_init_97 nfr_X0_11 rfl (by decide +kernel) ?_
  refine hJ.iload_n (pc := 100) dX0_init_100 rfl ?_
  refine hJ.newC (pc := 101) (i := 6) dX0_init_101 nnw_X0_9 (by decide +kernel) rfl ⟨Nat.le_of_ble_eq_true rfl, Nat.le_of_ble_eq_true rfl⟩ ?_
  show J 104 [some (vr 0 0), some (vi 6)] [vr 6 6, vi 6, vr 13 0] nw25 nl47 23 1194 nc34 Sm
  refine hJ.dup (pc := 104) dX0_init_104 ?_
  refine hJ.callIN (pc := 105) (as := []) (rest := [vr 6 6, vi 6, vr 13 0]) dX0_init_105 nlk_X0_66 rfl nnm_X6_init nt_X6_init rfl ⟨Nat.le_of_ble_eq_true rfl, Nat.le_of_ble_eq_true rfl, Nat.le_of_ble_eq_true rfl, Nat.le_of_ble_eq_true rfl, by decide⟩ ?_
  show J 108 [some (vr 0 0), some (vi 6)] [vr 6 6, vi 6, vr 13 0] nw25 nl47 23 1194 nc34 Sm
  refine hJ.aast (pc := 108) dX0_init_108 aq_13 rfl (show ix 6 12 = some 6 by decide) (show vwCl[6]? = some (RX6, TX6, nsl 6) from rfl) (by decide) rfl ?_
  show J 109 [some (vr 0 0), some (vi 6)] [] nw25 nl48 23 1194 nc34 Sm
  refine hJ.iinc (pc := 109) 7 [some (vr 0 0), some (vi 7)] dX0_init_109 (by decide) rfl (by decide) rfl ?_
  refine hJ.goto (pc := 112) 90 dX0_init_112 (by decide) ?_
  refine hJ.iload_n (pc := 90) dX0_init_90 rfl ?_
  refine hJ.bipush (pc := 91) 12 dX0_init_91 (by decide) ?_
  refine hJ.icmp_ge (pc := 93) 115 dX0_init_93 (by decide) (fun h0 => absurd h0 (by decide)) (fun _ => ?_)
  refine hJ.aload_n (pc := 96) dX0_init_96 rfl ?_
  refine hJ.getR (pc := 97) (k' := 13) (i' := 0) dX0_init_97 nfr_X0_11 rfl (by decide +kernel) ?_
  refine hJ.iload_n (pc := 100) dX0_init_100 rfl ?_
  refine hJ.newC (pc := 101) (i := 7) dX0_init_101 nnw_X0_9 (by decide +kernel) rfl ⟨Nat.le_of_ble_eq_true rfl, Nat.le_of_ble_eq_true rfl⟩ ?_
  show J 104 [some (vr 0 0), some (vi 7)] [vr 6 7, vi 7, vr 13 0] nw26 nl49 24 1199 nc35 Sm
  refine hJ.dup (pc := 104) dX0_init_104 ?_
  refine hJ.callIN (pc := 105) (as := []) (rest := [vr 6 7, vi 7, vr 13 0]) dX0_init_105 nlk_X0_66 rfl nnm_X6_init nt_X6_init rfl ⟨Nat.le_of_ble_eq_true rfl, Nat.le_of_ble_eq_true rfl, Nat.le_of_ble_eq_true rfl, Nat.le_of_ble_eq_true rfl, by decide⟩ ?_
  show J 108 [some (vr 0 0), some (vi 7)] [vr 6 7, vi 7, vr 13 0] nw26 nl49 24 1199 nc35 Sm
  refine hJ.aast (pc := 108) dX0_init_108 aq_13 rfl (show ix 7 12 = some 7 by decide) (show vwCl[6]? = some (RX6, TX6, nsl 6) from rfl) (by decide) rfl ?_
  show J 109 [some (vr 0 0), some (vi 7)] [] nw26 nl50 24 1199 nc35 Sm
  refine hJ.iinc (pc := 109) 8 [some (vr 0 0), some (vi 8)] dX0_init_109 (by decide) rfl (by decide) rfl ?_
  refine hJ.goto (pc := 112) 90 dX0_init_112 (by decide) ?_
  refine hJ.iload_n (pc := 90) dX0_init_90 rfl ?_
  refine hJ.bipush (pc := 91) 12 dX0_init_91 (by decide) ?_
  refine hJ.icmp_ge (pc := 93) 115 dX0_init_93 (by decide) (fun h0 => absurd h0 (by decide)) (fun _ => ?_)
  refine hJ.aload_n (pc := 96) dX0_init_96 rfl ?_
  refine hJ.getR (pc := 97) (k' := 13) (i' := 0) dX0_init_97 nfr_X0_11 rfl (by decide +kernel) ?_
  refine hJ.iload_n (pc := 100) dX0_init_100 rfl ?_
  refine hJ.newC (pc := 101) (i := 8) dX0_init_101 nnw_X0_9 (by decide +kernel) rfl ⟨Nat.le_of_ble_eq_true rfl, Nat.le_of_ble_eq_true rfl⟩ ?_
  show J 104 [some (vr 0 0), some (vi 8)] [vr 6 8, vi 8, vr 13 0] nw27 nl51 25 1204 nc36 Sm
  refine hJ.dup (pc := 104) dX0_init_104 ?_
  refine hJ.callIN (pc := 105) (as := []) (rest := [vr 6 8, vi 8, vr 13 0]) dX0_init_105 nlk_X0_66 rfl nnm_X6_init nt_X6_init rfl ⟨Nat.le_of_ble_eq_true rfl, Nat.le_of_ble_eq_true rfl, Nat.le_of_ble_eq_true rfl, Nat.le_of_ble_eq_true rfl, by decide⟩ ?_
  show J 108 [some (vr 0 0), some (vi 8)] [vr 6 8, vi 8, vr 13 0] nw27 nl51 25 1204 nc36 Sm
  refine hJ.aast (pc := 108) dX0_init_108 aq_13 rfl (show ix 8 12 = some 8 by decide) (show vwCl[6]? = some (RX6, TX6, nsl 6) from rfl) (by decide) rfl ?_
  show J 109 [some (vr 0 0), some (vi 8)] [] nw27 nl52 25 1204 nc36 Sm
  refine hJ.iinc (pc := 109) 9 [some (vr 0 0), some (vi 9)] dX0_init_109 (by decide) rfl (by decide) rfl ?_
  refine hJ.goto (pc := 112) 90 dX0_init_112 (by decide) ?_
  refine hJ.iload_n (pc := 90) dX0_init_90 rfl ?_
  refine hJ.bipush (pc := 91) 12 dX0_init_91 (by decide) ?_
  refine hJ.icmp_ge (pc := 93) 115 dX0_init_93 (by decide) (fun h0 => absurd h0 (by decide)) (fun _ => ?_)
  refine hJ.aload_n (pc := 96) dX0_init_96 rfl ?_
  refine hJ.getR (pc := 97) (k' := 13) (i' := 0) dX0_init_97 nfr_X0_11 rfl (by decide +kernel) ?_
  refine hJ.iload_n (pc := 100) dX0_init_100 rfl ?_
  refine hJ.newC (pc := 101) (i := 9) dX0_init_101 nnw_X0_9 (by decide +kernel) rfl ⟨Nat.le_of_ble_eq_true rfl, Nat.le_of_ble_eq_true rfl⟩ ?_
  show J 104 [some (vr 0 0), some (vi 9)] [vr 6 9, vi 9, vr 13 0] nw28 nl53 26 1209 nc37 Sm
  refine hJ.dup (pc := 104) dX0_init_104 ?_
  refine hJ.callIN (pc := 105) (as := []) (rest := [vr 6 9, vi 9, vr 13 0]) dX0_init_105 nlk_X0_66 rfl nnm_X6_init nt_X6_init rfl ⟨Nat.le_of_ble_eq_true rfl, Nat.le_of_ble_eq_true rfl, Nat.le_of_ble_eq_true rfl, Nat.le_of_ble_eq_true rfl, by decide⟩ ?_
  show J 108 [some (vr 0 0), some (vi 9)] [vr 6 9, vi 9, vr 13 0] nw28 nl53 26 1209 nc37 Sm
  refine hJ.aast (pc := 108) dX0_init_108 aq_13 rfl (show ix 9 12 = some 9 by decide) (show vwCl[6]? = some (RX6, TX6, nsl 6) from rfl) (by decide) rfl ?_
  show J 109 [some (vr 0 0), some (vi 9)] [] nw28 nl54 26 1209 nc37 Sm
  refine hJ.iinc (pc := 109) 10 [some (vr 0 0), some (vi 10)] dX0_init_109 (by decide) rfl (by decide) rfl ?_
  refine hJ.goto (pc := 112) 90 dX0_init_112 (by decide) ?_
  refine hJ.iload_n (pc := 90) dX0_init_90 rfl ?_
  refine hJ.bipush (pc := 91) 12 dX0_init_91 (by decide) ?_
  refine hJ.icmp_ge (pc := 93) 115 dX0_init_93 (by decide) (fun h0 => absurd h0 (by decide)) (fun _ => ?_)
  refine hJ.aload_n (pc := 96) dX0_init_96 rfl ?_
  refine hJ.getR (pc := 97) (k' := 13) (i' := 0) dX0_init_97 nfr_X0_11 rfl (by decide +kernel) ?_
  refine hJ.iload_n (pc := 100) dX0_init_100 rfl ?_
  refine hJ.newC (pc := 101) (i := 10) dX0_init_101 nnw_X0_9 (by decide +kernel) rfl ⟨Nat.le_of_ble_eq_true rfl, Nat.le_of_ble_eq_true rfl⟩ ?_
  show J 104 [some (vr 0 0), some (vi 10)] [vr 6 10, vi 10, vr 13 0] nw29 nl55 27 1214 nc38 Sm
  refine hJ.dup (pc := 104) dX0_init_104 ?_
  refine hJ.callIN (pc := 105) (as := []) (rest := [vr 6 10, vi 10, vr 13 0]) dX0_init_105 nlk_X0_66 rfl nnm_X6_init nt_X6_init rfl ⟨Nat.le_of_ble_eq_true rfl, Nat.le_of_ble_eq_true rfl, Nat.le_of_ble_eq_true rfl, Nat.le_of_ble_eq_true rfl, by decide⟩ ?_
  show J 108 [some (vr 0 0), some (vi 10)] [vr 6 10, vi 10, vr 13 0] nw29 nl55 27 1214 nc38 Sm
  refine hJ.aast (pc := 108) dX0_init_108 aq_13 rfl (show ix 10 12 = some 10 by decide) (show vwCl[6]? = some (RX6, TX6, nsl 6) from rfl) (by decide) rfl ?_
  show J 109 [some (vr 0 0), some (vi 10)] [] nw29 nl56 27 1214 nc38 Sm
  refine hJ.iinc (pc := 109) 11 [some (vr 0 0), some (vi 11)] dX0_init_109 (by decide) rfl (by decide) rfl ?_
  refine hJ.goto (pc := 112) 90 dX0_init_112 (by decide) ?_
  refine hJ.iload_n (pc := 90) dX0_init_90 rfl ?_
  refine hJ.bipush (pc := 91) 12 dX0_init_91 (by decide) ?_
  refine hJ.icmp_ge (pc := 93) 115 dX0_init_93 (by decide) (fun h0 => absurd h0 (by decide)) (fun _ => ?_)
  refine hJ.aload_n (pc := 96) dX0_init_96 rfl ?_
  refine hJ.getR (pc := 97) (k' := 13) (i' := 0) dX0_init_97 nfr_X0_11 rfl (by decide +kernel) ?_
  refine hJ.iload_n (pc := 100) dX0_init_100 rfl ?_
  refine hJ.newC (pc := 101) (i := 11) dX0_init_101 nnw_X0_9 (by decide +kernel) rfl ⟨Nat.le_of_ble_eq_true rfl, Nat.le_of_ble_eq_true rfl⟩ ?_
  show J 104 [some (vr 0 0), some (vi 11)] [vr 6 11, vi 11, vr 13 0] nw30 nl57 28 1219 nc39 Sm
  refine hJ.dup (pc := 104) dX0_init_104 ?_
  refine hJ.callIN (pc := 105) (as := []) (rest := [vr 6 11, vi 11, vr 13 0]) dX0_init_105 nlk_X0_66 rfl nnm_X6_init nt_X6_init rfl ⟨Nat.le_of_ble_eq_true rfl, Nat.le_of_ble_eq_true rfl, Nat.le_of_ble_eq_true rfl, Nat.le_of_ble_eq_true rfl, by decide⟩ ?_
  show J 108 [some (vr 0 0), some (vi 11)] [vr 6 11, vi 11, vr 13 0] nw30 nl57 28 1219 nc39 Sm
  refine hJ.aast (pc := 108) dX0_init_108 aq_13 rfl (show ix 11 12 = some 11 by decide) (show vwCl[6]? = some (RX6, TX6, nsl 6) from rfl) (by decide) rfl ?_
  show J 109 [some (vr 0 0), some (vi 11)] [] nw30 nl58 28 1219 nc39 Sm
  refine hJ.iinc (pc := 109) 12 [some (vr 0 0), some (vi 12)] dX0_init_109 (by decide) rfl (by decide) rfl ?_
  refine hJ.goto (pc := 112) 90 dX0_init_112 (by decide) ?_
  refine hJ.iload_n (pc := 90) dX0_init_90 rfl ?_
  refine hJ.bipush (pc := 91) 12 dX0_init_91 (by decide) ?_
  refine hJ.icmp_ge (pc := 93) 115 dX0_init_93 (by decide) (fun _ => ?_) (fun h0 => absurd (by decide) h0)
  refine hJ.iconst (pc := 115) 0 dX0_init_115 (by decide) ?_
  refine hJ.istore_n (pc := 116) [some (vr 0 0), some (vi 0)] dX0_init_116 (by decide) rfl ?_
  refine hJ.iload_n (pc := 117) dX0_init_117 rfl ?_
  refine hJ.bipush (pc := 118) 12 dX0_init_118 (by decide) ?_
  refine hJ.icmp_ge (pc := 120) 142 dX0_init_120 (by decide) (fun h0 => absurd h0 (by decide)) (fun _ => ?_)
  refine hJ.aload_n (pc := 123) dX0_init_123 rfl ?_
  refine hJ.getR (pc := 124) (k' := 14) (i' := 0) dX0_init_124 nfr_X0_19 rfl (by decide +kernel) ?_
  refine hJ.iload_n (pc := 127) dX0_init_127 rfl ?_
  refine hJ.newC (pc := 128) (i := 0) dX0_init_128 nnw_X0_17 (by decide +kernel) rfl ⟨Nat.le_of_ble_eq_true rfl, Nat.le_of_ble_eq_true rfl⟩ ?_
  show J 131 [some (vr 0 0), some (vi 0)] [vr 5 0, vi 0, vr 14 0] nw31 nl59 29 1227 nc40 Sm
  refine hJ.dup (pc := 131) dX0_init_131 ?_
  refine hJ.callIN (pc := 132) (as := []) (rest := [vr 5 0, vi 0, vr 14 0]) dX0_init_132 nlk_X0_67 rfl nnm_X5_init nt_X5_init rfl ⟨Nat.le_of_ble_eq_true rfl, Nat.le_of_ble_eq_true rfl, Nat.le_of_ble_eq_true rfl, Nat.le_of_ble_eq_true rfl, by decide⟩ ?_
  show J 135 [some (vr 0 0), some (vi 0)] [vr 5 0, vi 0, vr 14 0] nw31 nl59 29 1227 nc40 Sm
  refine hJ.aast (pc := 135) dX0_init_135 aq_14 rfl (show ix 0 12 = some 0 by decide) (show vwCl[5]? = some (RX5, TX5, nsl 5) from rfl) (by decide) rfl ?_
  show J 136 [some (vr 0 0), some (vi 0)] [] nw31 nl60 29 1227 nc40 Sm
  refine hJ.iinc (pc := 136) 1 [some (vr 0 0), some (vi 1)] dX0_init_136 (by decide) rfl (by decide) rfl ?_
  refine hJ.goto (pc := 139) 117 dX0_init_139 (by decide) ?_
  refine hJ.iload_n (pc := 117) dX0_init_117 rfl ?_
  refine hJ.bipush (pc := 118) 12 dX0_init_118 (by decide) ?_
  refine hJ.icmp_ge (pc := 120) 142 dX0_init_120 (by decide) (fun h0 => absurd h0 (by decide)) (fun _ => ?_)
  refine hJ.aload_n (pc := 123) dX0_init_123 rfl ?_
  refine hJ.getR (pc := 124) (k' := 14) (i' := 0) dX0_init_124 nfr_X0_19 rfl (by decide +kernel) ?_
  refine hJ.iload_n (pc := 127) dX0_init_127 rfl ?_
  refine hJ.newC (pc := 128) (i := 1) dX0_init_128 nnw_X0_17 (by decide +kernel) rfl ⟨Nat.le_of_ble_eq_true rfl, Nat.le_of_ble_eq_true rfl⟩ ?_
  show J 131 [some (vr 0 0), some (vi 1)] [vr 5 1, vi 1, vr 14 0] nw32 nl61 30 1235 nc41 Sm
  refine hJ.dup (pc := 131) dX0_init_131 ?_
  refine hJ.callIN (pc := 132) (as := []) (rest := [vr 5 1, vi 1, vr 14 0]) dX0_init_132 nlk_X0_67 rfl nnm_X5_init nt_X5_init rfl ⟨Nat.le_of_ble_eq_true rfl, Nat.le_of_ble_eq_true rfl, Nat.le_of_ble_eq_true rfl, Nat.le_of_ble_eq_true rfl, by decide⟩ ?_
  show J 135 [some (vr 0 0), some (vi 1)] [vr 5 1, vi 1, vr 14 0] nw32 nl61 30 1235 nc41 Sm
  refine hJ.aast (pc := 135) dX0_init_135 aq_14 rfl (show ix 1 12 = some 1 by decide) (show vwCl[5]? = some (RX5, TX5, nsl 5) from rfl) (by decide) rfl ?_
  show J 136 [some (vr 0 0), some (vi 1)] [] nw32 nl62 30 1235 nc41 Sm
  refine hJ.iinc (pc := 136) 2 [some (vr 0 0), some (vi 2)] dX0_init_136 (by decide) rfl (by decide) rfl ?_
  refine hJ.goto (pc := 139) 117 dX0_init_139 (by decide) ?_
  refine hJ.iload_n (pc := 117) dX0_init_117 rfl ?_
  refine hJ.bipush (pc := 118) 12 dX0_init_118 (by decide) ?_
  refine hJ.icmp_ge (pc := 120) 142 dX0_init_120 (by decide) (fun h0 => absurd h0 (by decide)) (fun _ => ?_)
  refine hJ.aload_n (pc := 123) dX0_init_123 rfl ?_
  refine hJ.getR (pc := 124) (k' := 14) (i' := 0) dX0_init_124 nfr_X0_19 rfl (by decide +kernel) ?_
  refine hJ.iload_n (pc := 127) dX0_init_127 rfl ?_
  refine hJ.newC (pc := 128) (i := 2) dX0_init_128 nnw_X0_17 (by decide +kernel) rfl ⟨Nat.le_of_ble_eq_true rfl, Nat.le_of_ble_eq_true rfl⟩ ?_
  show J 131 [some (vr 0 0), some (vi 2)] [vr 5 2, vi 2, vr 14 0] nw33 nl63 31 1243 nc42 Sm
  refine hJ.dup (pc := 131) dX0_init_131 ?_
  refine hJ.callIN (pc := 132) (as := []) (rest := [vr 5 2, vi 2, vr 14 0]) dX0_init_132 nlk_X0_67 rfl nnm_X5_init nt_X5_init rfl ⟨Nat.le_of_ble_eq_true rfl, Nat.le_of_ble_eq_true rfl, Nat.le_of_ble_eq_true rfl, Nat.le_of_ble_eq_true rfl, by decide⟩ ?_
  show J 135 [some (vr 0 0), some (vi 2)] [vr 5 2, vi 2, vr 14 0] nw33 nl63 31 1243 nc42 Sm
  refine hJ.aast (pc := 135) dX0_init_135 aq_14 rfl (show ix 2 12 = some 2 by decide) (show vwCl[5]? = some (RX5, TX5, nsl 5) from rfl) (by decide) rfl ?_
  show J 136 [some (vr 0 0), some (vi 2)] [] nw33 nl64 31 1243 nc42 Sm
  refine hJ.iinc (pc := 136) 3 [some (vr 0 0), some (vi 3)] dX0_init_136 (by decide) rfl (by decide) rfl ?_
  refine hJ.goto (pc := 139) 117 dX0_init_139 (by decide) ?_
  refine hJ.iload_n (pc := 117) dX0_init_117 rfl ?_
  refine hJ.bipush (pc := 118) 12 dX0_init_118 (by decide) ?_
  refine hJ.icmp_ge (pc := 120) 142 dX0_init_120 (by decide) (fun h0 => absurd h0 (by decide)) (fun _ => ?_)
  refine hJ.aload_n (pc := 123) dX0_init_123 rfl ?_
  refine hJ.getR (pc := 124) (k' := 14) (i' := 0) dX0_init_124 nfr_X0_19 rfl (by decide +kernel) ?_
  refine hJ.iload_n (pc := 127) dX0_init_127 rfl ?_
  refine hJ.newC (pc := 128) (i := 3) dX0_init_128 nnw_X0_17 (by decide +kernel) rfl ⟨Nat.le_of_ble_eq_true rfl, Nat.le_of_ble_eq_true rfl⟩ ?_
  show J 131 [some (vr 0 0), some (vi 3)] [vr 5 3, vi 3, vr 14 0] nw34 nl65 32 1251 nc43 Sm
  refine hJ.dup (pc := 131) dX0_init_131 ?_
  refine hJ.callIN (pc := 132) (as := []) (rest := [vr 5 3, vi 3, vr 14 0]) dX0_init_132 nlk_X0_67 rfl nnm_X5_init nt_X5_init rfl ⟨Nat.le_of_ble_eq_true rfl, Nat.le_of_ble_eq_true rfl, Nat.le_of_ble_eq_true rfl, Nat.le_of_ble_eq_true rfl, by decide⟩ ?_
  show J 135 [some (vr 0 0), some (vi 3)] [vr 5 3, vi 3, vr 14 0] nw34 nl65 32 1251 nc43 Sm
  refine hJ.aast (pc := 135) dX0_init_135 aq_14 rfl (show ix 3 12 = some 3 by decide) (show vwCl[5]? = some (RX5, TX5, nsl 5) from rfl) (by decide) rfl ?_
  show J 136 [some (vr 0 0), some (vi 3)] [] nw34 nl66 32 1251 nc43 Sm
  refine hJ.iinc (pc := 136) 4 [some (vr 0 0), some (vi 4)] dX0_init_136 (by decide) rfl (by decide) rfl ?_
  refine hJ.goto (pc := 139) 117 dX0_init_139 (by decide) ?_
  refine hJ.iload_n (pc := 117) dX0_init_117 rfl ?_
  refine hJ.bipush (pc := 118) 12 dX0_init_118 (by decide) ?_
  refine hJ.icmp_ge (pc := 120) 142 dX0_init_120 (by decide) (fun h0 => absurd h0 (by decide)) (fun _ => ?_)
  refine hJ.aload_n (pc := 123) dX0_init_123 rfl ?_
  refine hJ.getR (pc := 124) (k' := 14) (i' := 0) dX0_init_124 nfr_X0_19 rfl (by decide +kernel) ?_
  refine hJ.iload_n (pc := 127) dX0_init_127 rfl ?_
  refine hJ.newC (pc := 128) (i := 4) dX0_init_128 nnw_X0_17 (by decide +kernel) rfl ⟨Nat.le_of_ble_eq_true rfl, Nat.le_of_ble_eq_true rfl⟩ ?_
  show J 131 [some (vr 0 0), some (vi 4)] [vr 5 4, vi 4, vr 14 0] nw35 nl67 33 1259 nc44 Sm
  refine hJ.dup (pc := 131) dX0_init_131 ?_
  refine hJ.callIN (pc := 132) (as := []) (rest := [vr 5 4, vi 4, vr 14 0]) dX0_init_132 nlk_X0_67 rfl nnm_X5_init nt_X5_init rfl ⟨Nat.le_of_ble_eq_true rfl, Nat.le_of_ble_eq_true rfl, Nat.le_of_ble_eq_true rfl, Nat.le_of_ble_eq_true rfl, by decide⟩ ?_
  show J 135 [some (vr 0 0), some (vi 4)] [vr 5 4, vi 4, vr 14 0] nw35 nl67 33 1259 nc44 Sm
  refine hJ.aast (pc := 135) dX0_init_135 aq_14 rfl (show ix 4 12 = some 4 by decide) (show vwCl[5]? = some (RX5, TX5, nsl 5) from rfl) (by decide) rfl ?_
  show J 136 [some (vr 0 0), some (vi 4)] [] nw35 nl68 33 1259 nc44 Sm
  refine hJ.iinc (pc := 136) 5 [some (vr 0 0), some (vi 5)] dX0_init_136 (by decide) rfl (by decide) rfl ?_
  refine hJ.goto (pc := 139) 117 dX0_init_139 (by decide) ?_
  refine hJ.iload_n (pc := 117) dX0_init_117 rfl ?_
  refine hJ.bipush (pc := 118) 12 dX0_init_118 (by decide) ?_
  refine hJ.icmp_ge (pc := 120) 142 dX0_init_120 (by decide) (fun h0 => absurd h0 (by decide)) (fun _ => ?_)
  refine hJ.aload_n (pc := 123) dX0_init_123 rfl ?_
  refine hJ.getR (pc := 124) (k' := 14) (i' := 0) dX0_init_124 nfr_X0_19 rfl (by decide +kernel) ?_
  refine hJ.iload_n (pc := 127) dX0_init_127 rfl ?_
  refine hJ.newC (pc := 128) (i := 5) dX0_init_128 nnw_X0_17 (by decide +kernel) rfl ⟨Nat.le_of_ble_eq_true rfl, Nat.le_of_ble_eq_true rfl⟩ ?_
  show J 131 [some (vr 0 0), some (vi 5)] [vr 5 5, vi 5, vr 14 0] nw36 nl69 34 1267 nc45 Sm
  refine hJ.dup (pc := 131) dX0_init_131 ?_
  refine hJ.callIN (pc := 132) (as := []) (rest := [vr 5 5, vi 5, vr 14 0]) dX0_init_132 nlk_X0_67 rfl nnm_X5_init nt_X5_init rfl ⟨Nat.le_of_ble_eq_true rfl, Nat.le_of_ble_eq_true rfl, Nat.le_of_ble_eq_true rfl, Nat.le_of_ble_eq_true rfl, by decide⟩ ?_
  show J 135 [some (vr 0 0), some (vi 5)] [vr 5 5, vi 5, vr 14 0] nw36 nl69 34 1267 nc45 Sm
  refine hJ.aast (pc := 135) dX0_init_135 aq_14 rfl (show ix 5 12 = some 5 by decide) (show vwCl[5]? = some (RX5, TX5, nsl 5) from rfl) (by decide) rfl ?_
  show J 136 [some (vr 0 0), some (vi 5)] [] nw36 nl70 34 1267 nc45 Sm
  refine hJ.iinc (pc := 136) 6 [some (vr 0 0), some (vi 6)] dX0_init_136 (by decide) rfl (by decide) rfl ?_
  refine hJ.goto (pc := 139) 117 dX0_init_139 (by decide) ?_
  refine hJ.iload_n (pc := 117) dX0_init_117 rfl ?_
  refine hJ.bipush (pc := 118) 12 dX0_init_118 (by decide) ?_
  refine hJ.icmp_ge (pc := 120) 142 dX0_init_120 (by decide) (fun h0 => absurd h0 (by decide)) (fun _ => ?_)
  refine hJ.aload_n (pc := 123) dX0_init_123 rfl ?_
  refine hJ.getR (pc := 124) (k' := 14) (i' := 0) dX0_init_124 nfr_X0_19 rfl (by decide +kernel) ?_
  refine hJ.iload_n (pc := 127) dX0_init_127 rfl ?_
  refine hJ.newC (pc := 128) (i := 6) dX0_init_128 nnw_X0_17 (by decide +kernel) rfl ⟨Nat.le_of_ble_eq_true rfl, Nat.le_of_ble_eq_true rfl⟩ ?_
  show J 131 [some (vr 0 0), some (vi 6)] [vr 5 6, vi 6, vr 14 0] nw37 nl71 35 1275 nc46 Sm
  refine hJ.dup (pc := 131) dX0_init_131 ?_
  refine hJ.callIN (pc := 132) (as := []) (rest := [vr 5 6, vi 6, vr 14 0]) dX0_init_132 nlk_X0_67 rfl nnm_X5_init nt_X5_init rfl ⟨Nat.le_of_ble_eq_true rfl, Nat.le_of_ble_eq_true rfl, Nat.le_of_ble_eq_true rfl, Nat.le_of_ble_eq_true rfl, by decide⟩ ?_
  show J 135 [some (vr 0 0), some (vi 6)] [vr 5 6, vi 6, vr 14 0] nw37 nl71 35 1275 nc46 Sm
  refine hJ.aast (pc := 135) dX0_init_135 aq_14 rfl (show ix 6 12 = some 6 by decide) (show vwCl[5]? = some (RX5, TX5, nsl 5) from rfl) (by decide) rfl ?_
  show J 136 [some (vr 0 0), some (vi 6)] [] nw37 nl72 35 1275 nc46 Sm
  refine hJ.iinc (pc := 136) 7 [some (vr 0 0), some (vi 7)] dX0_init_136 (by decide) rfl (by decide) rfl ?_
  refine hJ.goto (pc := 139) 117 dX0_init_139 (by decide) ?_
  refine hJ.iload_n (pc := 117) dX0_init_117 rfl ?_
  refine hJ.bipush (pc := 118) 12 dX0_init_118 (by decide) ?_
  refine hJ.icmp_ge (pc := 120) 142 dX0_init_120 (by decide) (fun h0 => absurd h0 (by decide)) (fun _ => ?_)
  refine hJ.aload_n (pc := 123) dX0_init_123 rfl ?_
  refine hJ.getR (pc := 124) (k' := 14) (i' := 0) dX0_init_124 nfr_X0_19 rfl (by decide +kernel) ?_
  refine hJ.iload_n (pc := 127) dX0_init_127 rfl ?_
  refine hJ.newC (pc := 128) (i := 7) dX0_init_128 nnw_X0_17 (by decide +kernel) rfl ⟨Nat.le_of_ble_eq_true rfl, Nat.le_of_ble_eq_true rfl⟩ ?_
  show J 131 [some (vr 0 0), some (vi 7)] [vr 5 7, vi 7, vr 14 0] nw38 nl73 36 1283 nc47 Sm
  refine hJ.dup (pc := 131) dX0_init_131 ?_
  refine hJ.callIN (pc := 132) (as := []) (rest := [vr 5 7, vi 7, vr 14 0]) dX0_init_132 nlk_X0_67 rfl nnm_X5_init nt_X5_init rfl ⟨Nat.le_of_ble_eq_true rfl, Nat.le_of_ble_eq_true rfl, Nat.le_of_ble_eq_true rfl, Nat.le_of_ble_eq_true rfl, by decide⟩ ?_
  show J 135 [some (vr 0 0), some (vi 7)] [vr 5 7, vi 7, vr 14 0] nw38 nl73 36 1283 nc47 Sm
  refine hJ.aast (pc := 135) dX0_init_135 aq_14 rfl (show ix 7 12 = some 7 by decide) (show vwCl[5]? = some (RX5, TX5, nsl 5) from rfl) (by decide) rfl ?_
  show J 136 [some (vr 0 0), some (vi 7)] [] nw38 nl74 36 1283 nc47 Sm
  refine hJ.iinc (pc := 136) 8 [some (vr 0 0), some (vi 8)] dX0_init_136 (by decide) rfl (by decide) rfl ?_
  refine hJ.goto (pc := 139) 117 dX0_init_139 (by decide) ?_
  refine hJ.iload_n (pc := 117) dX0_init_117 rfl ?_
  refine hJ.bipush (pc := 118) 12 dX0_init_118 (by decide) ?_
  refine hJ.icmp_ge (pc := 120) 142 dX0_init_120 (by decide) (fun h0 => absurd h0 (by decide)) (fun _ => ?_)
  refine hJ.aload_n (pc := 123) dX0_init_123 rfl ?_
  refine hJ.getR (pc := 124) (k' := 14) (i' := 0) dX0_init_124 nfr_X0_19 rfl (by decide +kernel) ?_
  refine hJ.iload_n (pc := 127) dX0_init_127 rfl ?_
  refine hJ.newC (pc := 128) (i := 8) dX0_init_128 nnw_X0_17 (by decide +kernel) rfl ⟨Nat.le_of_ble_eq_true rfl, Nat.le_of_ble_eq_true rfl⟩ ?_
  show J 131 [some (vr 0 0), some (vi 8)] [vr 5 8, vi 8, vr 14 0] nw39 nl75 37 1291 nc48 Sm
  refine hJ.dup (pc := 131) dX0_init_131 ?_
  refine hJ.callIN (pc := 132) (as := []) (rest := [vr 5 8, vi 8, vr 14 0]) dX0_init_132 nlk_X0_67 rfl nnm_X5_init nt_X5_init rfl ⟨Nat.le_of_ble_eq_true rfl, Nat.le_of_ble_eq_true rfl, Nat.le_of_ble_eq_true rfl, Nat.le_of_ble_eq_true rfl, by decide⟩ ?_
  show J 135 [some (vr 0 0), some (vi 8)] [vr 5 8, vi 8, vr 14 0] nw39 nl75 37 1291 nc48 Sm
  refine hJ.aast (pc := 135) dX0_init_135 aq_14 rfl (show ix 8 12 = some 8 by decide) (show vwCl[5]? = some (RX5, TX5, nsl 5) from rfl) (by decide) rfl ?_
  show J 136 [some (vr 0 0), some (vi 8)] [] nw39 nl76 37 1291 nc48 Sm
  refine hJ.iinc (pc := 136) 9 [some (vr 0 0), some (vi 9)] dX0_init_136 (by decide) rfl (by decide) rfl ?_
  refine hJ.goto (pc := 139) 117 dX0_init_139 (by decide) ?_
  refine hJ.iload_n (pc := 117) dX0_init_117 rfl ?_
  refine hJ.bipush (pc := 118) 12 dX0_init_118 (by decide) ?_
  refine hJ.icmp_ge (pc := 120) 142 dX0_init_120 (by decide) (fun h0 => absurd h0 (by decide)) (fun _ => ?_)
  refine hJ.aload_n (pc := 123) dX0_init_123 rfl ?_
  refine hJ.getR (pc := 124) (k' := 14) (i' := 0) dX0_init_124 nfr_X0_19 rfl (by decide +kernel) ?_
  refine hJ.iload_n (pc := 127) dX0_init_127 rfl ?_
  refine hJ.newC (pc := 128) (i := 9) dX0_init_128 nnw_X0_17 (by decide +kernel) rfl ⟨Nat.le_of_ble_eq_true rfl, Nat.le_of_ble_eq_true rfl⟩ ?_
  show J 131 [some (vr 0 0), some (vi 9)] [vr 5 9, vi 9, vr 14 0] nw40 nl77 38 1299 nc49 Sm
  refine hJ.dup (pc := 131) dX0_init_131 ?_
  refine hJ.callIN (pc := 132) (as := []) (rest := [vr 5 9, vi 9, vr 14 0]) dX0_init_132 nlk_X0_67 rfl nnm_X5_init nt_X5_init rfl ⟨Nat.le_of_ble_eq_true rfl, Nat.le_of_ble_eq_true rfl, Nat.le_of_ble_eq_true rfl, Nat.le_of_ble_eq_true rfl, by decide⟩ ?_
  show J 135 [some (vr 0 0), some (vi 9)] [vr 5 9, vi 9, vr 14 0] nw40 nl77 38 1299 nc49 Sm
  refine hJ.aast (pc := 135) dX0_init_135 aq_14 rfl (show ix 9 12 = some 9 by decide) (show vwCl[5]? = some (RX5, TX5, nsl 5) from rfl) (by decide) rfl ?_
  show J 136 [some (vr 0 0), some (vi 9)] [] nw40 nl78 38 1299 nc49 Sm
  refine hJ.iinc (pc := 136) 10 [some (vr 0 0), some (vi 10)] dX0_init_136 (by decide) rfl (by decide) rfl ?_
  refine hJ.goto (pc := 139) 117 dX0_init_139 (by decide) ?_
  refine hJ.iload_n (pc := 117) dX0_init_117 rfl ?_
  refine hJ.bipush (pc := 118) 12 dX0_init_118 (by decide) ?_
  refine hJ.icmp_ge (pc := 120) 142 dX0_init_120 (by decide) (fun h0 => absurd h0 (by decide)) (fun _ => ?_)
  refine hJ.aload_n (pc := 123) dX0_init_123 rfl ?_
  refine hJ.getR (pc := 124) (k' := 14) (i' := 0) dX0_init_124 nfr_X0_19 rfl (by decide +kernel) ?_
  refine hJ.iload_n (pc := 127) dX0_init_127 rfl ?_
  refine hJ.newC (pc := 128) (i := 10) dX0_init_128 nnw_X0_17 (by decide +kernel) rfl ⟨Nat.le_of_ble_eq_true rfl, Nat.le_of_ble_eq_true rfl⟩ ?_
  show J 131 [some (vr 0 0), some (vi 10)] [vr 5 10, vi 10, vr 14 0] nw41 nl79 39 1307 nc50 Sm
  refine hJ.dup (pc := 131) dX0_init_131 ?_
  refine hJ.callIN (pc := 132) (as := []) (rest := [vr 5 10, vi 10, vr 14 0]) dX0_init_132 nlk_X0_67 rfl nnm_X5_init nt_X5_init rfl ⟨Nat.le_of_ble_eq_true rfl, Nat.le_of_ble_eq_true rfl, Nat.le_of_ble_eq_true rfl, Nat.le_of_ble_eq_true rfl, by decide⟩ ?_
  show J 135 [some (vr 0 0), some (vi 10)] [vr 5 10, vi 10, vr 14 0] nw41 nl79 39 1307 nc50 Sm
  refine hJ.aast (pc := 135) dX0_init_135 aq_14 rfl (show ix 10 12 = some 10 by decide) (show vwCl[5]? = some (RX5, TX5, nsl 5) from rfl) (by decide) rfl ?_
  show J 136 [some (vr 0 0), some (vi 10)] [] nw41 nl80 39 1307 nc50 Sm
  refine hJ.iinc (pc := 136) 11 [some (vr 0 0), some (vi 11)] dX0_init_136 (by decide) rfl (by decide) rfl ?_
  refine hJ.goto (pc := 139) 117 dX0_init_139 (by decide) ?_
  refine hJ.iload_n (pc := 117) dX0_init_117 rfl ?_
  refine hJ.bipush (pc := 118) 12 dX0_init_118 (by decide) ?_
  refine hJ.icmp_ge (pc := 120) 142 dX0_init_120 (by decide) (fun h0 => absurd h0 (by decide)) (fun _ => ?_)
  refine hJ.aload_n (pc := 123) dX0_init_123 rfl ?_
  refine hJ.getR (pc := 124) (k' := 14) (i' := 0) dX0_init_124 nfr_X0_19 rfl (by decide +kernel) ?_
  refine hJ.iload_n (pc := 127) dX0_init_127 rfl ?_
  refine hJ.newC (pc := 128) (i := 11) dX0_init_128 nnw_X0_17 (by decide +kernel) rfl ⟨Nat.le_of_ble_eq_true rfl, Nat.le_of_ble_eq_true rfl⟩ ?_
  show J 131 [some (vr 0 0), some (vi 11)] [vr 5 11, vi 11, vr 14 0] nw42 nl81 40 1315 nc51 Sm
  refine hJ.dup (pc := 131) dX0_init_131 ?_
  refine hJ.callIN (pc := 132) (as := []) (rest := [vr 5 11, vi 11, vr 14 0]) dX0_init_132 nlk_X0_67 rfl nnm_X5_init nt_X5_init rfl ⟨Nat.le_of_ble_eq_true rfl, Nat.le_of_ble_eq_true rfl, Nat.le_of_ble_eq_true rfl, Nat.le_of_ble_eq_true rfl, by decide⟩ ?_
  show J 135 [some (vr 0 0), some (vi 11)] [vr 5 11, vi 11, vr 14 0] nw42 nl81 40 1315 nc51 Sm
  refine hJ.aast (pc := 135) dX0_init_135 aq_14 rfl (show ix 11 12 = some 11 by decide) (show vwCl[5]? = some (RX5, TX5, nsl 5) from rfl) (by decide) rfl ?_
  show J 136 [some (vr 0 0), some (vi 11)] [] nw42 nl82 40 1315 nc51 Sm
  refine hJ.iinc (pc := 136) 12 [some (vr 0 0), some (vi 12)] dX0_init_136 (by decide) rfl (by decide) rfl ?_
  refine hJ.goto (pc := 139) 117 dX0_init_139 (by decide) ?_
  refine hJ.iload_n (pc := 117) dX0_init_117 rfl ?_
  refine hJ.bipush (pc := 118) 12 dX0_init_118 (by decide) ?_
  refine hJ.icmp_ge (pc := 120) 142 dX0_init_120 (by decide) (fun _ => ?_) (fun h0 => absurd (by decide) h0)
  exact hR.v (pc := 142) dX0_init_142
set_option maxRecDepth 100000 in
set_option maxHeartbeats 4000000 in
theorem nt_X1_init_1 {Sm : Mem} : Ct yX1_init cX1_init 1 none 1 20 1 600 [vr 1 1] nw46 nl89 nc55 Sm none nw47 nl91 nc57 Sm := by
  refine Ct.of RX1 true (by decide) rfl (fun _ => rfl) (by decide) (fun J hJ hR => ?_)
  show J 0 [some (vr 1 1)] [] nw46 nl89 0 0 nc55 Sm
  refine hJ.aload_n (pc := 0) dX1_init_0 rfl ?_
  refine hJ.objInit (pc := 1) dX1_init_1 now_X1_3 ⟨by decide, by decide⟩ ?_
  refine hJ.aload_n (pc := 4) dX1_init_4 rfl ?_
  refine hJ.sipush (pc := 5) 600 dX1_init_5 (by decide) ?_
  refine hJ.newaC (pc := 8) (k := 16) (i := 1) dX1_init_8 (Or.inl ⟨rfl, rfl⟩) nac_0 (by decide +kernel) (by decide) rfl (Nat.le_of_ble_eq_true rfl) rfl ⟨Nat.le_of_ble_eq_true rfl, Nat.le_of_ble_eq_true rfl⟩ ?_
  show J 10 [some (vr 1 1)] [vr 16 1, vr 1 1] nw47 nl90 1 600 nc56 Sm
  refine hJ.putR (pc := 10) dX1_init_10 nff_X1_11 rfl (by decide) ?_
  show J 13 [some (vr 1 1)] [] nw47 nl91 1 600 nc56 Sm
  refine hJ.aload_n (pc := 13) dX1_init_13 rfl ?_
  refine hJ.iconst (pc := 14) 0 dX1_init_14 (by decide) ?_
  refine hJ.pI (pc := 15) dX1_init_15 nfp_X1_15 ?_
  show J 18 [some (vr 1 1)] [] nw47 nl91 1 600 nc57 Sm
  exact hR.v (pc := 18) dX1_init_18
set_option maxRecDepth 100000 in
set_option maxHeartbeats 4000000 in
theorem nt_X2_init_1 {Sm : Mem} : Ct yX2_init cX2_init 1 none 1 20 4 24 [vr 2 1] nw48 nl93 nc58 Sm none nw52 nl101 nc63 Sm := by
  refine Ct.of RX2 true (by decide) rfl (fun _ => rfl) (by decide) (fun J hJ hR => ?_)
  show J 0 [some (vr 2 1)] [] nw48 nl93 0 0 nc58 Sm
  refine hJ.aload_n (pc := 0) dX2_init_0 rfl ?_
  refine hJ.objInit (pc := 1) dX2_init_1 now_X2_3 ⟨by decide, by decide⟩ ?_
  refine hJ.aload_n (pc := 4) dX2_init_4 rfl ?_
  refine hJ.bipush (pc := 5) 6 dX2_init_5 (by decide) ?_
  refine hJ.newaC (pc := 7) (k := 17) (i := 1) dX2_init_7 (Or.inl ⟨rfl, rfl⟩) nac_0 (by decide +kernel) (by decide) rfl (Nat.le_of_ble_eq_true rfl) rfl ⟨Nat.le_of_ble_eq_true rfl, Nat.le_of_ble_eq_true rfl⟩ ?_
  show J 9 [some (vr 2 1)] [vr 17 1, vr 2 1] nw49 nl94 1 6 nc59 Sm
  refine hJ.putR (pc := 9) dX2_init_9 nff_X2_11 rfl (by decide) ?_
  show J 12 [some (vr 2 1)] [] nw49 nl95 1 6 nc59 Sm
  refine hJ.aload_n (pc := 12) dX2_init_12 rfl ?_
  refine hJ.bipush (pc := 13) 6 dX2_init_13 (by decide) ?_
  refine hJ.newaC (pc := 15) (k := 18) (i := 1) dX2_init_15 (Or.inl ⟨rfl, rfl⟩) nac_0 (by decide +kernel) (by decide) rfl (Nat.le_of_ble_eq_true rfl) rfl ⟨Nat.le_of_ble_eq_true rfl, Nat.le_of_ble_eq_true rfl⟩ ?_
  show J 17 [some (vr 2 1)] [vr 18 1, vr 2 1] nw50 nl96 2 12 nc60 Sm
  refine hJ.putR (pc := 17) dX2_init_17 nff_X2_15 rfl (by decide) ?_
  show J 20 [some (vr 2 1)] [] nw50 nl97 2 12 nc60 Sm
  refine hJ.aload_n (pc := 20) dX2_init_20 rfl ?_
  refine hJ.bipush (pc := 21) 6 dX2_init_21 (by decide) ?_
  refine hJ.newaC (pc := 23) (k := 19) (i := 1) dX2_init_23 (Or.inl ⟨rfl, rfl⟩) nac_0 (by decide +kernel) (by decide) rfl (Nat.le_of_ble_eq_true rfl) rfl ⟨Nat.le_of_ble_eq_true rfl, Nat.le_of_ble_eq_true rfl⟩ ?_
  show J 25 [some (vr 2 1)] [vr 19 1, vr 2 1] nw51 nl98 3 18 nc61 Sm
  refine hJ.putR (pc := 25) dX2_init_25 nff_X2_18 rfl (by decide) ?_
  show J 28 [some (vr 2 1)] [] nw51 nl99 3 18 nc61 Sm
  refine hJ.aload_n (pc := 28) dX2_init_28 rfl ?_
  refine hJ.bipush (pc := 29) 6 dX2_init_29 (by decide) ?_
  refine hJ.newaC (pc := 31) (k := 20) (i := 1) dX2_init_31 (Or.inl ⟨rfl, rfl⟩) nac_0 (by decide +kernel) (by decide) rfl (Nat.le_of_ble_eq_true rfl) rfl ⟨Nat.le_of_ble_eq_true rfl, Nat.le_of_ble_eq_true rfl⟩ ?_
  show J 33 [some (vr 2 1)] [vr 20 1, vr 2 1] nw52 nl100 4 24 nc62 Sm
  refine hJ.putR (pc := 33) dX2_init_33 nff_X2_21 rfl (by decide) ?_
  show J 36 [some (vr 2 1)] [] nw52 nl101 4 24 nc62 Sm
  refine hJ.aload_n (pc := 36) dX2_init_36 rfl ?_
  refine hJ.iconst (pc := 37) 0 dX2_init_37 (by decide) ?_
  refine hJ.pI (pc := 38) dX2_init_38 nfp_X2_24 ?_
  show J 41 [some (vr 2 1)] [] nw52 nl101 4 24 nc63 Sm
  exact hR.v (pc := 41) dX2_init_41
set_option maxRecDepth 100000 in
set_option maxHeartbeats 4000000 in
theorem nt_X3_init_1 {Sm : Mem} : Ct yX3_init cX3_init 1 none 1 20 5 488 [vr 3 1] nw53 nl103 nc64 Sm none nw58 nl113 nc71 Sm := by
  refine Ct.of RX3 true (by decide) rfl (fun _ => rfl) (by decide) (fun J hJ hR => ?_)
  show J 0 [some (vr 3 1)] [] nw53 nl103 0 0 nc64 Sm
  refine hJ.aload_n (pc := 0) dX3_init_0 rfl ?_
  refine hJ.objInit (pc := 1) dX3_init_1 now_X3_3 ⟨by decide, by decide⟩ ?_
  refine hJ.aload_n (pc := 4) dX3_init_4 rfl ?_
  refine hJ.sipush (pc := 5) 400 dX3_init_5 (by decide) ?_
  refine hJ.newaC (pc := 8) (k := 21) (i := 1) dX3_init_8 (Or.inl ⟨rfl, rfl⟩) nac_0 (by decide +kernel) (by decide) rfl (Nat.le_of_ble_eq_true rfl) rfl ⟨Nat.le_of_ble_eq_true rfl, Nat.le_of_ble_eq_true rfl⟩ ?_
  show J 10 [some (vr 3 1)] [vr 21 1, vr 3 1] nw54 nl104 1 400 nc65 Sm
  refine hJ.putR (pc := 10) dX3_init_10 nff_X3_11 rfl (by decide) ?_
  show J 13 [some (vr 3 1)] [] nw54 nl105 1 400 nc65 Sm
  refine hJ.aload_n (pc := 13) dX3_init_13 rfl ?_
  refine hJ.bipush (pc := 14) 16 dX3_init_14 (by decide) ?_
  refine hJ.newaC (pc := 16) (k := 22) (i := 1) dX3_init_16 (Or.inl ⟨rfl, rfl⟩) nac_0 (by decide +kernel) (by decide) rfl (Nat.le_of_ble_eq_true rfl) rfl ⟨Nat.le_of_ble_eq_true rfl, Nat.le_of_ble_eq_true rfl⟩ ?_
  show J 18 [some (vr 3 1)] [vr 22 1, vr 3 1] nw55 nl106 2 416 nc66 Sm
  refine hJ.putR (pc := 18) dX3_init_18 nff_X3_17 rfl (by decide) ?_
  show J 21 [some (vr 3 1)] [] nw55 nl107 2 416 nc66 Sm
  refine hJ.aload_n (pc := 21) dX3_init_21 rfl ?_
  refine hJ.bipush (pc := 22) 16 dX3_init_22 (by decide) ?_
  refine hJ.newaC (pc := 24) (k := 23) (i := 1) dX3_init_24 (Or.inl ⟨rfl, rfl⟩) nac_0 (by decide +kernel) (by decide) rfl (Nat.le_of_ble_eq_true rfl) rfl ⟨Nat.le_of_ble_eq_true rfl, Nat.le_of_ble_eq_true rfl⟩ ?_
  show J 26 [some (vr 3 1)] [vr 23 1, vr 3 1] nw56 nl108 3 432 nc67 Sm
  refine hJ.putR (pc := 26) dX3_init_26 nff_X3_20 rfl (by decide) ?_
  show J 29 [some (vr 3 1)] [] nw56 nl109 3 432 nc67 Sm
  refine hJ.aload_n (pc := 29) dX3_init_29 rfl ?_
  refine hJ.bipush (pc := 30) 16 dX3_init_30 (by decide) ?_
  refine hJ.newaC (pc := 32) (k := 24) (i := 1) dX3_init_32 (Or.inl ⟨rfl, rfl⟩) nac_0 (by decide +kernel) (by decide) rfl (Nat.le_of_ble_eq_true rfl) rfl ⟨Nat.le_of_ble_eq_true rfl, Nat.le_of_ble_eq_true rfl⟩ ?_
  show J 34 [some (vr 3 1)] [vr 24 1, vr 3 1] nw57 nl110 4 448 nc68 Sm
  refine hJ.putR (pc := 34) dX3_init_34 nff_X3_23 rfl (by decide) ?_
  show J 37 [some (vr 3 1)] [] nw57 nl111 4 448 nc68 Sm
  refine hJ.aload_n (pc := 37) dX3_init_37 rfl ?_
  refine hJ.bipush (pc := 38) 40 dX3_init_38 (by decide) ?_
  refine hJ.newaC (pc := 40) (k := 25) (i := 1) dX3_init_40 (Or.inl ⟨rfl, rfl⟩) nac_0 (by decide +kernel) (by decide) rfl (Nat.le_of_ble_eq_true rfl) rfl ⟨Nat.le_of_ble_eq_true rfl, Nat.le_of_ble_eq_true rfl⟩ ?_
  show J 42 [some (vr 3 1)] [vr 25 1, vr 3 1] nw58 nl112 5 488 nc69 Sm
  refine hJ.putR (pc := 42) dX3_init_42 nff_X3_26 rfl (by decide) ?_
  show J 45 [some (vr 3 1)] [] nw58 nl113 5 488 nc69 Sm
  refine hJ.aload_n (pc := 45) dX3_init_45 rfl ?_
  refine hJ.iconst (pc := 46) 0 dX3_init_46 (by decide) ?_
  refine hJ.pI (pc := 47) dX3_init_47 nfp_X3_29 ?_
  show J 50 [some (vr 3 1)] [] nw58 nl113 5 488 nc70 Sm
  refine hJ.aload_n (pc := 50) dX3_init_50 rfl ?_
  refine hJ.iconst (pc := 51) 0 dX3_init_51 (by decide) ?_
  refine hJ.pI (pc := 52) dX3_init_52 nfp_X3_33 ?_
  show J 55 [some (vr 3 1)] [] nw58 nl113 5 488 nc71 Sm
  exact hR.v (pc := 55) dX3_init_55
set_option maxRecDepth 100000 in
set_option maxHeartbeats 4000000 in
theorem nt_X0_init_1 {Sm : Mem} : Ct yX0_init cX0_init 2 none 2 40 40 1315 [vr 0 1] nw43 nl84 nc52 Sm none nw83 nl164 nc101 Sm := by
  refine Ct.of RX0 true (by decide) rfl (fun _ => rfl) (by decide) (fun J hJ hR => ?_)
  show J 0 [some (vr 0 1), none] [] nw43 nl84 0 0 nc52 Sm
  refine hJ.aload_n (pc := 0) dX0_init_0 rfl ?_
  refine hJ.objInit (pc := 1) dX0_init_1 now_X0_3 ⟨by decide, by decide⟩ ?_
  refine hJ.aload_n (pc := 4) dX0_init_4 rfl ?_
  refine hJ.bipush (pc := 5) 12 dX0_init_5 (by decide) ?_
  refine hJ.newq (pc := 7) (k := 13) (i := 1) dX0_init_7 aq_13 ncl_X0_9 (by decide +kernel) (by decide) rfl (Nat.le_of_ble_eq_true rfl) rfl ⟨Nat.le_of_ble_eq_true rfl, Nat.le_of_ble_eq_true rfl⟩ ?_
  show J 10 [some (vr 0 1), none] [vr 13 1, vr 0 1] nw44 nl85 1 12 nc53 Sm
  refine hJ.putR (pc := 10) dX0_init_10 nff_X0_11 rfl (by decide) ?_
  show J 13 [some (vr 0 1), none] [] nw44 nl86 1 12 nc53 Sm
  refine hJ.aload_n (pc := 13) dX0_init_13 rfl ?_
  refine hJ.bipush (pc := 14) 12 dX0_init_14 (by decide) ?_
  refine hJ.newq (pc := 16) (k := 14) (i := 1) dX0_init_16 aq_14 ncl_X0_17 (by decide +kernel) (by decide) rfl (Nat.le_of_ble_eq_true rfl) rfl ⟨Nat.le_of_ble_eq_true rfl, Nat.le_of_ble_eq_true rfl⟩ ?_
  show J 19 [some (vr 0 1), none] [vr 14 1, vr 0 1] nw45 nl87 2 24 nc54 Sm
  refine hJ.putR (pc := 19) dX0_init_19 nff_X0_19 rfl (by decide) ?_
  show J 22 [some (vr 0 1), none] [] nw45 nl88 2 24 nc54 Sm
  refine hJ.aload_n (pc := 22) dX0_init_22 rfl ?_
  refine hJ.newC (pc := 23) (i := 1) dX0_init_23 nnw_X0_23 (by decide +kernel) rfl ⟨Nat.le_of_ble_eq_true rfl, Nat.le_of_ble_eq_true rfl⟩ ?_
  show J 26 [some (vr 0 1), none] [vr 1 1, vr 0 1] nw46 nl89 3 26 nc55 Sm
  refine hJ.dup (pc := 26) dX0_init_26 ?_
  refine hJ.callIN (pc := 27) (as := []) (rest := [vr 1 1, vr 0 1]) dX0_init_27 nlk_X0_25 rfl nnm_X1_init nt_X1_init_1 rfl ⟨Nat.le_of_ble_eq_true rfl, Nat.le_of_ble_eq_true rfl, Nat.le_of_ble_eq_true rfl, Nat.le_of_ble_eq_true rfl, by decide⟩ ?_
  show J 30 [some (vr 0 1), none] [vr 1 1, vr 0 1] nw47 nl91 4 626 nc57 Sm
  refine hJ.putR (pc := 30) dX0_init_30 nff_X0_26 rfl (by decide) ?_
  show J 33 [some (vr 0 1), none] [] nw47 nl92 4 626 nc57 Sm
  refine hJ.aload_n (pc := 33) dX0_init_33 rfl ?_
  refine hJ.newC (pc := 34) (i := 1) dX0_init_34 nnw_X0_30 (by decide +kernel) rfl ⟨Nat.le_of_ble_eq_true rfl, Nat.le_of_ble_eq_true rfl⟩ ?_
  show J 37 [some (vr 0 1), none] [vr 2 1, vr 0 1] nw48 nl93 5 631 nc58 Sm
  refine hJ.dup (pc := 37) dX0_init_37 ?_
  refine hJ.callIN (pc := 38) (as := []) (rest := [vr 2 1, vr 0 1]) dX0_init_38 nlk_X0_32 rfl nnm_X2_init nt_X2_init_1 rfl ⟨Nat.le_of_ble_eq_true rfl, Nat.le_of_ble_eq_true rfl, Nat.le_of_ble_eq_true rfl, Nat.le_of_ble_eq_true rfl, by decide⟩ ?_
  show J 41 [some (vr 0 1), none] [vr 2 1, vr 0 1] nw52 nl101 9 655 nc63 Sm
  refine hJ.putR (pc := 41) dX0_init_41 nff_X0_33 rfl (by decide) ?_
  show J 44 [some (vr 0 1), none] [] nw52 nl102 9 655 nc63 Sm
  refine hJ.aload_n (pc := 44) dX0_init_44 rfl ?_
  refine hJ.newC (pc := 45) (i := 1) dX0_init_45 nnw_X0_37 (by decide +kernel) rfl ⟨Nat.le_of_ble_eq_true rfl, Nat.le_of_ble_eq_true rfl⟩ ?_
  show J 48 [some (vr 0 1), none] [vr 3 1, vr 0 1] nw53 nl103 10 662 nc64 Sm
  refine hJ.dup (pc := 48) dX0_init_48 ?_
  refine hJ.callIN (pc := 49) (as := []) (rest := [vr 3 1, vr 0 1]) dX0_init_49 nlk_X0_39 rfl nnm_X3_init nt_X3_init_1 rfl ⟨Nat.le_of_ble_eq_true rfl, Nat.le_of_ble_eq_true rfl, Nat.le_of_ble_eq_true rfl, Nat.le_of_ble_eq_true rfl, by decide⟩ ?_
  show J 52 [some (vr 0 1), none] [vr 3 1, vr 0 1] nw58 nl113 15 1150 nc71 Sm
  refine hJ.putR (pc := 52) dX0_init_52 nff_X0_40 rfl (by decide) ?_
  show J 55 [some (vr 0 1), none] [] nw58 nl114 15 1150 nc71 Sm
  refine hJ.aload_n (pc := 55) dX0_init_55 rfl ?_
  refine hJ.bipush (pc := 56) 9 dX0_init_56 (by decide) ?_
  refine hJ.newaC (pc := 58) (k := 15) (i := 1) dX0_init_58 (Or.inl ⟨rfl, rfl⟩) nac_0 (by decide +kernel) (by decide) rfl (Nat.le_of_ble_eq_true rfl) rfl ⟨Nat.le_of_ble_eq_true rfl, Nat.le_of_ble_eq_true rfl⟩ ?_
  show J 60 [some (vr 0 1), none] [vr 15 1, vr 0 1] nw59 nl115 16 1159 nc72 Sm
  refine hJ.putR (pc := 60) dX0_init_60 nff_X0_46 rfl (by decide) ?_
  show J 63 [some (vr 0 1), none] [] nw59 nl116 16 1159 nc72 Sm
  refine hJ.aload_n (pc := 63) dX0_init_63 rfl ?_
  refine hJ.iconst (pc := 64) 0 dX0_init_64 (by decide) ?_
  refine hJ.pI (pc := 65) dX0_init_65 nfp_X0_50 ?_
  show J 68 [some (vr 0 1), none] [] nw59 nl116 16 1159 nc73 Sm
  refine hJ.aload_n (pc := 68) dX0_init_68 rfl ?_
  refine hJ.iconst (pc := 69) 0 dX0_init_69 (by decide) ?_
  refine hJ.pI (pc := 70) dX0_init_70 nfp_X0_54 ?_
  show J 73 [some (vr 0 1), none] [] nw59 nl116 16 1159 nc74 Sm
  refine hJ.aload_n (pc := 73) dX0_init_73 rfl ?_
  refine hJ.iconst (pc := 74) 0 dX0_init_74 (by decide) ?_
  refine hJ.pI (pc := 75) dX0_init_75 nfp_X0_57 ?_
  show J 78 [some (vr 0 1), none] [] nw59 nl116 16 1159 nc75 Sm
  refine hJ.aload_n (pc := 78) dX0_init_78 rfl ?_
  refine hJ.iconst (pc := 79) 0 dX0_init_79 (by decide) ?_
  refine hJ.pI (pc := 80) dX0_init_80 nfp_X0_60 ?_
  show J 83 [some (vr 0 1), none] [] nw59 nl116 16 1159 nc76 Sm
  refine hJ.aload_n (pc := 83) dX0_init_83 rfl ?_
  refine hJ.iconst (pc := 84) 0 dX0_init_84 (by decide) ?_
  refine hJ.pI (pc := 85) dX0_init_85 nfp_X0_63 ?_
  show J 88 [some (vr 0 1), none] [] nw59 nl116 16 1159 nc77 Sm
  refine hJ.iconst (pc := 88) 0 dX0_init_88 (by decide) ?_
  refine hJ.istore_n (pc := 89) [some (vr 0 1), some (vi 0)] dX0_init_89 (by decide) rfl ?_
  refine hJ.iload_n (pc := 90) dX0_init_90 rfl ?_
  refine hJ.bipush (pc := 91) 12 dX0_init_91 (by decide) ?_
  refine hJ.icmp_ge (pc := 93) 115 dX0_init_93 (by decide) (fun h0 => absurd h0 (by decide)) (fun _ => ?_)
  refine hJ.aload_n (pc := 96) dX0_init_96 rfl ?_
  refine hJ.getR (pc := 97) (k' := 13) (i' := 1) dX0_init_97 nfr_X0_11 rfl (by decide +kernel) ?_
  refine hJ.iload_n (pc := 100) dX0_init_100 rfl ?_
  refine hJ.newC (pc := 101) (i := 12) dX0_init_101 nnw_X0_9 (by decide +kernel) rfl ⟨Nat.le_of_ble_eq_true rfl, Nat.le_of_ble_eq_true rfl⟩ ?_
  show J 104 [some (vr 0 1), some (vi 0)] [vr 6 12, vi 0, vr 13 1] nw60 nl117 17 1164 nc78 Sm
  refine hJ.dup (pc := 104) dX0_init_104 ?_
  refine hJ.callIN (pc := 105) (as := []) (rest := [vr 6 12, vi 0, vr 13 1]) dX0_init_105 nlk_X0_66 rfl nnm_X6_init nt_X6_init rfl ⟨Nat.le_of_ble_eq_true rfl, Nat.le_of_ble_eq_true rfl, Nat.le_of_ble_eq_true rfl, Nat.le_of_ble_eq_true rfl, by decide⟩ ?_
  show J 108 [some (vr 0 1), some (vi 0)] [vr 6 12, vi 0, vr 13 1] nw60 nl117 17 1164 nc78 Sm
  refine hJ.aast (pc := 108) dX0_init_108 aq_13 rfl (show ix 0 12 = some 0 by decide) (show vwCl[6]? = some (RX6, TX6, nsl 6) from rfl) (by decide) rfl ?_
  show J 109 [some (vr 0 1), some (vi 0)] [] nw60 nl118 17 1164 nc78 Sm
  refine hJ.iinc (pc := 109) 1 [some (vr 0 1), some (vi 1)] dX0_init_109 (by decide) rfl (by decide) rfl ?_
  refine hJ.goto (pc := 112) 90 dX0_init_112 (by decide) ?_
  refine hJ.iload_n (pc := 90) dX0_init_90 rfl ?_
  refine hJ.bipush (pc := 91) 12 dX0_init_91 (by decide) ?_
  refine hJ.icmp_ge (pc := 93) 115 dX0_init_93 (by decide) (fun h0 => absurd h0 (by decide)) (fun _ => ?_)
  refine hJ.aload_n (pc := 96) dX0_init_96 rfl ?_
  refine hJ.getR (pc := 97) (k' := 13) (i' := 1) dX0_init_97 nfr_X0_11 rfl (by decide +kernel) ?_
  refine hJ.iload_n (pc := 100) dX0_init_100 rfl ?_
  refine hJ.newC (pc := 101) (i := 13) dX0_init_101 nnw_X0_9 (by decide +kernel) rfl ⟨Nat.le_of_ble_eq_true rfl, Nat.le_of_ble_eq_true rfl⟩ ?_
  show J 104 [some (vr 0 1), some (vi 1)] [vr 6 13, vi 1, vr 13 1] nw61 nl119 18 1169 nc79 Sm
  refine hJ.dup (pc := 104) dX0_init_104 ?_
  refine hJ.callIN (pc := 105) (as := []) (rest := [vr 6 13, vi 1, vr 13 1]) dX0_init_105 nlk_X0_66 rfl nnm_X6_init nt_X6_init rfl ⟨Nat.le_of_ble_eq_true rfl, Nat.le_of_ble_eq_true rfl, Nat.le_of_ble_eq_true rfl, Nat.le_of_ble_eq_true rfl, by decide⟩ ?_
  show J 108 [some (vr 0 1), some (vi 1)] [vr 6 13, vi 1, vr 13 1] nw61 nl119 18 1169 nc79 Sm
  refine hJ.aast (pc := 108) dX0_init_108 aq_13 rfl (show ix 1 12 = some 1 by decide) (show vwCl[6]? = some (RX6, TX6, nsl 6) from rfl) (by decide) rfl ?_
  show J 109 [some (vr 0 1), some (vi 1)] [] nw61 nl120 18 1169 nc79 Sm
  refine hJ.iinc (pc := 109) 2 [some (vr 0 1), some (vi 2)] dX0_init_109 (by decide) rfl (by decide) rfl ?_
  refine hJ.goto (pc := 112) 90 dX0_init_112 (by decide) ?_
  refine hJ.iload_n (pc := 90) dX0_init_90 rfl ?_
  refine hJ.bipush (pc := 91) 12 dX0_init_91 (by decide) ?_
  refine hJ.icmp_ge (pc := 93) 115 dX0_init_93 (by decide) (fun h0 => absurd h0 (by decide)) (fun _ => ?_)
  refine hJ.aload_n (pc := 96) dX0_init_96 rfl ?_
  refine hJ.getR (pc := 97) (k' := 13) (i' := 1) dX0_init_97 nfr_X0_11 rfl (by decide +kernel) ?_
  refine hJ.iload_n (pc := 100) dX0_init_100 rfl ?_
  refine hJ.newC (pc := 101) (i := 14) dX0_init_101 nnw_X0_9 (by decide +kernel) rfl ⟨Nat.le_of_ble_eq_true rfl, Nat.le_of_ble_eq_true rfl⟩ ?_
  show J 104 [some (vr 0 1), some (vi 2)] [vr 6 14, vi 2, vr 13 1] nw62 nl121 19 1174 nc80 Sm
  refine hJ.dup (pc := 104) dX0_init_104 ?_
  refine hJ.callIN (pc := 105) (as := []) (rest := [vr 6 14, vi 2, vr 13 1]) dX0_init_105 nlk_X0_66 rfl nnm_X6_init nt_X6_init rfl ⟨Nat.le_of_ble_eq_true rfl, Nat.le_of_ble_eq_true rfl, Nat.le_of_ble_eq_true rfl, Nat.le_of_ble_eq_true rfl, by decide⟩ ?_
  show J 108 [some (vr 0 1), some (vi 2)] [vr 6 14, vi 2, vr 13 1] nw62 nl121 19 1174 nc80 Sm
  refine hJ.aast (pc := 108) dX0_init_108 aq_13 rfl (show ix 2 12 = some 2 by decide) (show vwCl[6]? = some (RX6, TX6, nsl 6) from rfl) (by decide) rfl ?_
  show J 109 [some (vr 0 1), some (vi 2)] [] nw62 nl122 19 1174 nc80 Sm
  refine hJ.iinc (pc := 109) 3 [some (vr 0 1), some (vi 3)] dX0_init_109 (by decide) rfl (by decide) rfl ?_
  refine hJ.goto (pc := 112) 90 dX0_init_112 (by decide) ?_
  refine hJ.iload_n (pc := 90) dX0_init_90 rfl ?_
  refine hJ.bipush (pc := 91) 12 dX0_init_91 (by decide) ?_
  refine hJ.icmp_ge (pc := 93) 115 dX0_init_93 (by decide) (fun h0 => absurd h0 (by decide)) (fun _ => ?_)
  refine hJ.aload_n (pc := 96) dX0_init_96 rfl ?_
  refine hJ.getR (pc := 97) (k' := 13) (i' := 1) dX0_init_97 nfr_X0_11 rfl (by decide +kernel) ?_
  refine hJ.iload_n (pc := 100) dX0_init_100 rfl ?_
  refine hJ.newC (pc := 101) (i := 15) dX0_init_101 nnw_X0_9 (by decide +kernel) rfl ⟨Nat.le_of_ble_eq_true rfl, Nat.le_of_ble_eq_true rfl⟩ ?_
  show J 104 [some (vr 0 1), some (vi 3)] [vr 6 15, vi 3, vr 13 1] nw63 nl123 20 1179 nc81 Sm
  refine hJ.dup (pc := 104) dX0_init_104 ?_
  refine hJ.callIN (pc := 105) (as := []) (rest := [vr 6 15, vi 3, vr 13 1]) dX0_init_105 nlk_X0_66 rfl nnm_X6_init nt_X6_init rfl ⟨Nat.le_of_ble_eq_true rfl, Nat.le_of_ble_eq_true rfl, Nat.le_of_ble_eq_true rfl, Nat.le_of_ble_eq_true rfl, by decide⟩ ?_
  show J 108 [some (vr 0 1), some (vi 3)] [vr 6 15, vi 3, vr 13 1] nw63 nl123 20 1179 nc81 Sm
  refine hJ.aast (pc := 108) dX0_init_108 aq_13 rfl (show ix 3 12 = some 3 by decide) (show vwCl[6]? = some (RX6, TX6, nsl 6) from rfl) (by decide) rfl ?_
  show J 109 [some (vr 0 1), some (vi 3)] [] nw63 nl124 20 1179 nc81 Sm
  refine hJ.iinc (pc := 109) 4 [some (vr 0 1), some (vi 4)] dX0_init_109 (by decide) rfl (by decide) rfl ?_
  refine hJ.goto (pc := 112) 90 dX0_init_112 (by decide) ?_
  refine hJ.iload_n (pc := 90) dX0_init_90 rfl ?_
  refine hJ.bipush (pc := 91) 12 dX0_init_91 (by decide) ?_
  refine hJ.icmp_ge (pc := 93) 115 dX0_init_93 (by decide) (fun h0 => absurd h0 (by decide)) (fun _ => ?_)
  refine hJ.aload_n (pc := 96) dX0_init_96 rfl ?_
  refine hJ.getR (pc := 97) (k' := 13) (i' := 1) dX0_init_97 nfr_X0_11 rfl (by decide +kernel) ?_
  refine hJ.iload_n (pc := 100) dX0_init_100 rfl ?_
  refine hJ.newC (pc := 101) (i := 16) dX0_init_101 nnw_X0_9 (by decide +kernel) rfl ⟨Nat.le_of_ble_eq_true rfl, Nat.le_of_ble_eq_true rfl⟩ ?_
  show J 104 [some (vr 0 1), some (vi 4)] [vr 6 16, vi 4, vr 13 1] nw64 nl125 21 1184 nc82 Sm
  refine hJ.dup (pc := 104) dX0_init_104 ?_
  refine hJ.callIN (pc := 105) (as := []) (rest := [vr 6 16, vi 4, vr 13 1]) dX0_init_105 nlk_X0_66 rfl nnm_X6_init nt_X6_init rfl ⟨Nat.le_of_ble_eq_true rfl, Nat.le_of_ble_eq_true rfl, Nat.le_of_ble_eq_true rfl, Nat.le_of_ble_eq_true rfl, by decide⟩ ?_
  show J 108 [some (vr 0 1), some (vi 4)] [vr 6 16, vi 4, vr 13 1] nw64 nl125 21 1184 nc82 Sm
  refine hJ.aast (pc := 108) dX0_init_108 aq_13 rfl (show ix 4 12 = some 4 by decide) (show vwCl[6]? = some (RX6, TX6, nsl 6) from rfl) (by decide) rfl ?_
  show J 109 [some (vr 0 1), some (vi 4)] [] nw64 nl126 21 1184 nc82 Sm
  refine hJ.iinc (pc := 109) 5 [some (vr 0 1), some (vi 5)] dX0_init_109 (by decide) rfl (by decide) rfl ?_
  refine hJ.goto (pc := 112) 90 dX0_init_112 (by decide) ?_
  refine hJ.iload_n (pc := 90) dX0_init_90 rfl ?_
  refine hJ.bipush (pc := 91) 12 dX0_init_91 (by decide) ?_
  refine hJ.icmp_ge (pc := 93) 115 dX0_init_93 (by decide) (fun h0 => absurd h0 (by decide)) (fun _ => ?_)
  refine hJ.aload_n (pc := 96) dX0_init_96 rfl ?_
  refine hJ.getR (pc := 97) (k' := 13) (i' := 1) dX0_init_97 nfr_X0_11 rfl (by decide +kernel) ?_
  refine hJ.iload_n (pc := 100) dX0_init_100 rfl ?_
  refine hJ.newC (pc := 101) (i := 17) dX0_init_101 nnw_X0_9 (by decide +kernel) rfl ⟨Nat.le_of_ble_eq_true rfl, Nat.le_of_ble_eq_true rfl⟩ ?_
  show J 104 [some (vr 0 1), some (vi 5)] [vr 6 17, vi 5, vr 13 1] nw65 nl127 22 1189 nc83 Sm
  refine hJ.dup (pc := 104) dX0_init_104 ?_
  refine hJ.callIN (pc := 105) (as := []) (rest := [vr 6 17, vi 5, vr 13 1]) dX0_init_105 nlk_X0_66 rfl nnm_X6_init nt_X6_init rfl ⟨Nat.le_of_ble_eq_true rfl, Nat.le_of_ble_eq_true rfl, Nat.le_of_ble_eq_true rfl, Nat.le_of_ble_eq_true rfl, by decide⟩ ?_
  show J 108 [some (vr 0 1), some (vi 5)] [vr 6 17, vi 5, vr 13 1] nw65 nl127 22 1189 nc83 Sm
  refine hJ.aast (pc := 108) dX0_init_108 aq_13 rfl (show ix 5 12 = some 5 by decide) (show vwCl[6]? = some (RX6, TX6, nsl 6) from rfl) (by decide) rfl ?_
  show J 109 [some (vr 0 1), some (vi 5)] [] nw65 nl128 22 1189 nc83 Sm
  refine hJ.iinc (pc := 109) 6 [some (vr 0 1), some (vi 6)] dX0_init_109 (by decide) rfl (by decide) rfl ?_
  refine hJ.goto (pc := 112) 90 dX0_init_112 (by decide) ?_
  refine hJ.iload_n (pc := 90) dX0_init_90 rfl ?_
  refine hJ.bipush (pc := 91) 12 dX0_init_91 (by decide) ?_
  refine hJ.icmp_ge (pc := 93) 115 dX0_init_93 (by decide) (fun h0 => absurd h0 (by decide)) (fun _ => ?_)
  refine hJ.aload_n (pc := 96) dX0_init_96 rfl ?_
  refine hJ.getR (pc := 97) (k' := 13) (i' := 1) dX0_init_97 nfr_X0_11 rfl (by decide +kernel) ?_
  refine hJ.iload_n (pc := 100) dX0_init_100 rfl ?_
  refine hJ.newC (pc := 101) (i := 18) dX0_init_101 nnw_X0_9 (by decide +kernel) rfl ⟨Nat.le_of_ble_eq_true rfl, Nat.le_of_ble_eq_true rfl⟩ ?_
  show J 104 [some (vr 0 1), some (vi 6)] [vr 6 18, vi 6, vr 13 1] nw66 nl129 23 1194 nc84 Sm
  refine hJ.dup (pc := 104) dX0_init_104 ?_
  refine hJ.callIN (pc := 105) (as := []) (rest := [vr 6 18, vi 6, vr 13 1]) dX0_init_105 nlk_X0_66 rfl nnm_X6_init nt_X6_init rfl ⟨Nat.le_of_ble_eq_true rfl, Nat.le_of_ble_eq_true rfl, Nat.le_of_ble_eq_true rfl, Nat.le_of_ble_eq_true rfl, by decide⟩ ?_
  show J 108 [some (vr 0 1), some (vi 6)] [vr 6 18, vi 6, vr 13 1] nw66 nl129 23 1194 nc84 Sm
  refine hJ.aast (pc := 108) dX0_init_108 aq_13 rfl (show ix 6 12 = some 6 by decide) (show vwCl[6]? = some (RX6, TX6, nsl 6) from rfl) (by decide) rfl ?_
  show J 109 [some (vr 0 1), some (vi 6)] [] nw66 nl130 23 1194 nc84 Sm
  refine hJ.iinc (pc := 109) 7 [some (vr 0 1), some (vi 7)] dX0_init_109 (by decide) rfl (by decide) rfl ?_
  refine hJ.goto (pc := 112) 90 dX0_init_112 (by decide) ?_
  refine hJ.iload_n (pc := 90) dX0_init_90 rfl ?_
  refine hJ.bipush (pc := 91) 12 dX0_init_91 (by decide) ?_
  refine hJ.icmp_ge (pc := 93) 115 dX0_init_93 (by decide) (fun h0 => absurd h0 (by decide)) (fun _ => ?_)
  refine hJ.aload_n (pc := 96) dX0_init_96 rfl ?_
  refine hJ.getR (pc := 97) (k' := 13) (i' := 1) dX0_init_97 nfr_X0_11 rfl (by decide +kernel) ?_
  refine hJ.iload_n (pc := 100) dX0_init_100 rfl ?_
  refine hJ.newC (pc := 101) (i := 19) dX0_init_101 nnw_X0_9 (by decide +kernel) rfl ⟨Nat.le_of_ble_eq_true rfl, Nat.le_of_ble_eq_true rfl⟩ ?_
  show J 104 [some (vr 0 1), some (vi 7)] [vr 6 19, vi 7, vr 13 1] nw67 nl131 24 1199 nc85 Sm
  refine hJ.dup (pc := 104) dX0_init_104 ?_
  refine hJ.callIN (pc := 105) (as := []) (rest := [vr 6 19, vi 7, vr 13 1]) dX0_init_105 nlk_X0_66 rfl nnm_X6_init nt_X6_init rfl ⟨Nat.le_of_ble_eq_true rfl, Nat.le_of_ble_eq_true rfl, Nat.le_of_ble_eq_true rfl, Nat.le_of_ble_eq_true rfl, by decide⟩ ?_
  show J 108 [some (vr 0 1), some (vi 7)] [vr 6 19, vi 7, vr 13 1] nw67 nl131 24 1199 nc85 Sm
  refine hJ.aast (pc := 108) dX0_init_108 aq_13 rfl (show ix 7 12 = some 7 by decide) (show vwCl[6]? = some (RX6, TX6, nsl 6) from rfl) (by decide) rfl ?_
  show J 109 [some (vr 0 1), some (vi 7)] [] nw67 nl132 24 1199 nc85 Sm
  refine hJ.iinc (pc := 109) 8 [some (vr 0 1), some (vi 8)] dX0_init_109 (by decide) rfl (by decide) rfl ?_
  refine hJ.goto (pc := 112) 90 dX0_init_112 (by decide) ?_
  refine hJ.iload_n (pc := 90) dX0_init_90 rfl ?_
  refine hJ.bipush (pc := 91) 12 dX0_init_91 (by decide) ?_
  refine hJ.icmp_ge (pc := 93) 115 dX0_init_93 (by decide) (fun h0 => absurd h0 (by decide)) (fun _ => ?_)
  refine hJ.aload_n (pc := 96) dX0_init_96 rfl ?_
  refine hJ.getR (pc := 97) (k' := 13) (i' := 1) dX0_init_97 nfr_X0_11 rfl (by decide +kernel) ?_
  refine hJ.iload_n (pc := 100) dX0_init_100 rfl ?_
  refine hJ.newC (pc := 101) (i := 20) dX0_init_101 nnw_X0_9 (by decide +kernel) rfl ⟨Nat.le_of_ble_eq_true rfl, Nat.le_of_ble_eq_true rfl⟩ ?_
  show J 104 [some (vr 0 1), some (vi 8)] [vr 6 20, vi 8, vr 13 1] nw68 nl133 25 1204 nc86 Sm
  refine hJ.dup (pc := 104) dX0_init_104 ?_
  refine hJ.callIN (pc := 105) (as := []) (rest := [vr 6 20, vi 8, vr 13 1]) dX0_init_105 nlk_X0_66 rfl nnm_X6_init nt_X6_init rfl ⟨Nat.le_of_ble_eq_true rfl, Nat.le_of_ble_eq_true rfl, Nat.le_of_ble_eq_true rfl, Nat.le_of_ble_eq_true rfl, by decide⟩ ?_
  show J 108 [some (vr 0 1), some (vi 8)] [vr 6 20, vi 8, vr 13 1] nw68 nl133 25 1204 nc86 Sm
  refine hJ.aast (pc := 108) dX0_init_108 aq_13 rfl (show ix 8 12 = some 8 by decide) (show vwCl[6]? = some (RX6, TX6, nsl 6) from rfl) (by decide) rfl ?_
  show J 109 [some (vr 0 1), some (vi 8)] [] nw68 nl134 25 1204 nc86 Sm
  refine hJ.iinc (pc := 109) 9 [some (vr 0 1), some (vi 9)] dX0_init_109 (by decide) rfl (by decide) rfl ?_
  refine hJ.goto (pc := 112) 90 dX0_init_112 (by decide) ?_
  refine hJ.iload_n (pc := 90) dX0_init_90 rfl ?_
  refine hJ.bipush (pc := 91) 12 dX0_init_91 (by decide) ?_
  refine hJ.icmp_ge (pc := 93) 115 dX0_init_93 (by decide) (fun h0 => absurd h0 (by decide)) (fun _ => ?_)
  refine hJ.aload_n (pc := 96) dX0_init_96 rfl ?_
  refine hJ.getR (pc := 97) (k' := 13) (i' := 1) dX0_init_97 nfr_X0_11 rfl (by decide +kernel) ?_
  refine hJ.iload_n (pc := 100) dX0_init_100 rfl ?_
  refine hJ.newC (pc := 101) (i := 21) dX0_init_101 nnw_X0_9 (by decide +kernel) rfl ⟨Nat.le_of_ble_eq_true rfl, Nat.le_of_ble_eq_true rfl⟩ ?_
  show J 104 [some (vr 0 1), some (vi 9)] [vr 6 21, vi 9, vr 13 1] nw69 nl135 26 1209 nc87 Sm
  refine hJ.dup (pc := 104) dX0_init_104 ?_
  refine hJ.callIN (pc := 105) (as := []) (rest := [vr 6 21, vi 9, vr 13 1]) dX0_init_105 nlk_X0_66 rfl nnm_X6_init nt_X6_init rfl ⟨Nat.le_of_ble_eq_true rfl, Nat.le_of_ble_eq_true rfl, Nat.le_of_ble_eq_true rfl, Nat.le_of_ble_eq_true rfl, by decide⟩ ?_
  show J 108 [some (vr 0 1), some (vi 9)] [vr 6 21, vi 9, vr 13 1] nw69 nl135 26 1209 nc87 Sm
  refine hJ.aast (pc := 108) dX0_init_108 aq_13 rfl (show ix 9 12 = some 9 by decide) (show vwCl[6]? = some (RX6, TX6, nsl 6) from rfl) (by decide) rfl ?_
  show J 109 [some (vr 0 1), some (vi 9)] [] nw69 nl136 26 1209 nc87 Sm
  refine hJ.iinc (pc := 109) 10 [some (vr 0 1), some (vi 10)] dX0_init_109 (by decide) rfl (by decide) rfl ?_
  refine hJ.goto (pc := 112) 90 dX0_init_112 (by decide) ?_
  refine hJ.iload_n (pc := 90) dX0_init_90 rfl ?_
  refine hJ.bipush (pc := 91) 12 dX0_init_91 (by decide) ?_
  refine hJ.icmp_ge (pc := 93) 115 dX0_init_93 (by decide) (fun h0 => absurd h0 (by decide)) (fun _ => ?_)
  refine hJ.aload_n (pc := 96) dX0_init_96 rfl ?_
  refine hJ.getR (pc := 97) (k' := 13) (i' := 1) dX0_init_97 nfr_X0_11 rfl (by decide +kernel) ?_
  refine hJ.iload_n (pc := 100) dX0_init_100 rfl ?_
  refine hJ.newC (pc := 101) (i := 22) dX0_init_101 nnw_X0_9 (by decide +kernel) rfl ⟨Nat.le_of_ble_eq_true rfl, Nat.le_of_ble_eq_true rfl⟩ ?_
  show J 104 [some (vr 0 1), some (vi 10)] [vr 6 22, vi 10, vr 13 1] nw70 nl137 27 1214 nc88 Sm
  refine hJ.dup (pc := 104) dX0_init_104 ?_
  refine hJ.callIN (pc := 105) (as := []) (rest := [vr 6 22, vi 10, vr 13 1]) dX0_init_105 nlk_X0_66 rfl nnm_X6_init nt_X6_init rfl ⟨Nat.le_of_ble_eq_true rfl, Nat.le_of_ble_eq_true rfl, Nat.le_of_ble_eq_true rfl, Nat.le_of_ble_eq_true rfl, by decide⟩ ?_
  show J 108 [some (vr 0 1), some (vi 10)] [vr 6 22, vi 10, vr 13 1] nw70 nl137 27 1214 nc88 Sm
  refine hJ.aast (pc := 108) dX0_init_108 aq_13 rfl (show ix 10 12 = some 10 by decide) (show vwCl[6]? = some (RX6, TX6, nsl 6) from rfl) (by decide) rfl ?_
  show J 109 [some (vr 0 1), some (vi 10)] [] nw70 nl138 27 1214 nc88 Sm
  refine hJ.iinc (pc := 109) 11 [some (vr 0 1), some (vi 11)] dX0_init_109 (by decide) rfl (by decide) rfl ?_
  refine hJ.goto (pc := 112) 90 dX0_init_112 (by decide) ?_
  refine hJ.iload_n (pc := 90) dX0_init_90 rfl ?_
  refine hJ.bipush (pc := 91) 12 dX0_init_91 (by decide) ?_
  refine hJ.icmp_ge (pc := 93) 115 dX0_init_93 (by decide) (fun h0 => absurd h0 (by decide)) (fun _ => ?_)
  refine hJ.aload_n (pc := 96) dX0_init_96 rfl ?_
  refine hJ.getR (pc := 97) (k' := 13) (i' := 1) dX0_init_97 nfr_X0_11 rfl (by decide +kernel) ?_
  refine hJ.iload_n (pc := 100) dX0_init_100 rfl ?_
  refine hJ.newC (pc := 101) (i := 23) dX0_init_101 nnw_X0_9 (by decide +kernel) rfl ⟨Nat.le_of_ble_eq_true rfl, Nat.le_of_ble_eq_true rfl⟩ ?_
  show J 104 [some (vr 0 1), some (vi 11)] [vr 6 23, vi 11, vr 13 1] nw71 nl139 28 1219 nc89 Sm
  refine hJ.dup (pc := 104) dX0_init_104 ?_
  refine hJ.callIN (pc := 105) (as := []) (rest := [vr 6 23, vi 11, vr 13 1]) dX0_init_105 nlk_X0_66 rfl nnm_X6_init nt_X6_init rfl ⟨Nat.le_of_ble_eq_true rfl, Nat.le_of_ble_eq_true rfl, Nat.le_of_ble_eq_true rfl, Nat.le_of_ble_eq_true rfl, by decide⟩ ?_
  show J 108 [some (vr 0 1), some (vi 11)] [vr 6 23, vi 11, vr 13 1] nw71 nl139 28 1219 nc89 Sm
  refine hJ.aast (pc := 108) dX0_init_108 aq_13 rfl (show ix 11 12 = some 11 by decide) (show vwCl[6]? = some (RX6, TX6, nsl 6) from rfl) (by decide) rfl ?_
  show J 109 [some (vr 0 1), some (vi 11)] [] nw71 nl140 28 1219 nc89 Sm
  refine hJ.iinc (pc := 109) 12 [some (vr 0 1), some (vi 12)] dX0_init_109 (by decide) rfl (by decide) rfl ?_
  refine hJ.goto (pc := 112) 90 dX0_init_112 (by decide) ?_
  refine hJ.iload_n (pc := 90) dX0_init_90 rfl ?_
  refine hJ.bipush (pc := 91) 12 dX0_init_91 (by decide) ?_
  refine hJ.icmp_ge (pc := 93) 115 dX0_init_93 (by decide) (fun _ => ?_) (fun h0 => absurd (by decide) h0)
  refine hJ.iconst (pc := 115) 0 dX0_init_115 (by decide) ?_
  refine hJ.istore_n (pc := 116) [some (vr 0 1), some (vi 0)] dX0_init_116 (by decide) rfl ?_
  refine hJ.iload_n (pc := 117) dX0_init_117 rfl ?_
  refine hJ.bipush (pc := 118) 12 dX0_init_118 (by decide) ?_
  refine hJ.icmp_ge (pc := 120) 142 dX0_init_120 (by decide) (fun h0 => absurd h0 (by decide)) (fun _ => ?_)
  refine hJ.aload_n (pc := 123) dX0_init_123 rfl ?_
  refine hJ.getR (pc := 124) (k' := 14) (i' := 1) dX0_init_124 nfr_X0_19 rfl (by decide +kernel) ?_
  refine hJ.iload_n (pc := 127) dX0_init_127 rfl ?_
  refine hJ.newC (pc := 128) (i := 12) dX0_init_128 nnw_X0_17 (by decide +kernel) rfl ⟨Nat.le_of_ble_eq_true rfl, Nat.le_of_ble_eq_true rfl⟩ ?_
  show J 131 [some (vr 0 1), some (vi 0)] [vr 5 12, vi 0, vr 14 1] nw72 nl141 29 1227 nc90 Sm
  refine hJ.dup (pc := 131) dX0_init_131 ?_
  refine hJ.callIN (pc := 132) (as := []) (rest := [vr 5 12, vi 0, vr 14 1]) dX0_init_132 nlk_X0_67 rfl nnm_X5_init nt_X5_init rfl ⟨Nat.le_of_ble_eq_true rfl, Nat.le_of_ble_eq_true rfl, Nat.le_of_ble_eq_true rfl, Nat.le_of_ble_eq_true rfl, by decide⟩ ?_
  show J 135 [some (vr 0 1), some (vi 0)] [vr 5 12, vi 0, vr 14 1] nw72 nl141 29 1227 nc90 Sm
  refine hJ.aast (pc := 135) dX0_init_135 aq_14 rfl (show ix 0 12 = some 0 by decide) (show vwCl[5]? = some (RX5, TX5, nsl 5) from rfl) (by decide) rfl ?_
  show J 136 [some (vr 0 1), some (vi 0)] [] nw72 nl142 29 1227 nc90 Sm
  refine hJ.iinc (pc := 136) 1 [some (vr 0 1), some (vi 1)] dX0_init_136 (by decide) rfl (by decide) rfl ?_
  refine hJ.goto (pc := 139) 117 dX0_init_139 (by decide) ?_
  refine hJ.iload_n (pc := 117) dX0_init_117 rfl ?_
  refine hJ.bipush (pc := 118) 12 dX0_init_118 (by decide) ?_
  refine hJ.icmp_ge (pc := 120) 142 dX0_init_120 (by decide) (fun h0 => absurd h0 (by decide)) (fun _ => ?_)
  refine hJ.aload_n (pc := 123) dX0_init_123 rfl ?_
  refine hJ.getR (pc := 124) (k' := 14) (i' := 1) dX0_init_124 nfr_X0_19 rfl (by decide +kernel) ?_
  refine hJ.iload_n (pc := 127) dX0_init_127 rfl ?_
  refine hJ.newC (pc := 128) (i := 13) dX0_init_128 nnw_X0_17 (by decide +kernel) rfl ⟨Nat.le_of_ble_eq_true rfl, Nat.le_of_ble_eq_true rfl⟩ ?_
  show J 131 [some (vr 0 1), some (vi 1)] [vr 5 13, vi 1, vr 14 1] nw73 nl143 30 1235 nc91 Sm
  refine hJ.dup (pc := 131) dX0_init_131 ?_
  refine hJ.callIN (pc := 132) (as := []) (rest := [vr 5 13, vi 1, vr 14 1]) dX0_init_132 nlk_X0_67 rfl nnm_X5_init nt_X5_init rfl ⟨Nat.le_of_ble_eq_true rfl, Nat.le_of_ble_eq_true rfl, Nat.le_of_ble_eq_true rfl, Nat.le_of_ble_eq_true rfl, by decide⟩ ?_
  show J 135 [some (vr 0 1), some (vi 1)] [vr 5 13, vi 1, vr 14 1] nw73 nl143 30 1235 nc91 Sm
  refine hJ.aast (pc := 135) dX0_init_135 aq_14 rfl (show ix 1 12 = some 1 by decide) (show vwCl[5]? = some (RX5, TX5, nsl 5) from rfl) (by decide) rfl ?_
  show J 136 [some (vr 0 1), some (vi 1)] [] nw73 nl144 30 1235 nc91 Sm
  refine hJ.iinc (pc := 136) 2 [some (vr 0 1), some (vi 2)] dX0_init_136 (by decide) rfl (by decide) rfl ?_
  refine hJ.goto (pc := 139) 117 dX0_init_139 (by decide) ?_
  refine hJ.iload_n (pc := 117) dX0_init_117 rfl ?_
  refine hJ.bipush (pc := 118) 12 dX0_init_118 (by decide) ?_
  refine hJ.icmp_ge (pc := 120) 142 dX0_init_120 (by decide) (fun h0 => absurd h0 (by decide)) (fun _ => ?_)
  refine hJ.aload_n (pc := 123) dX0_init_123 rfl ?_
  refine hJ.getR (pc := 124) (k' := 14) (i' := 1) dX0_init_124 nfr_X0_19 rfl (by decide +kernel) ?_
  refine hJ.iload_n (pc := 127) dX0_init_127 rfl ?_
  refine hJ.newC (pc := 128) (i := 14) dX0_init_128 nnw_X0_17 (by decide +kernel) rfl ⟨Nat.le_of_ble_eq_true rfl, Nat.le_of_ble_eq_true rfl⟩ ?_
  show J 131 [some (vr 0 1), some (vi 2)] [vr 5 14, vi 2, vr 14 1] nw74 nl145 31 1243 nc92 Sm
  refine hJ.dup (pc := 131) dX0_init_131 ?_
  refine hJ.callIN (pc := 132) (as := []) (rest := [vr 5 14, vi 2, vr 14 1]) dX0_init_132 nlk_X0_67 rfl nnm_X5_init nt_X5_init rfl ⟨Nat.le_of_ble_eq_true rfl, Nat.le_of_ble_eq_true rfl, Nat.le_of_ble_eq_true rfl, Nat.le_of_ble_eq_true rfl, by decide⟩ ?_
  show J 135 [some (vr 0 1), some (vi 2)] [vr 5 14, vi 2, vr 14 1] nw74 nl145 31 1243 nc92 Sm
  refine hJ.aast (pc := 135) dX0_init_135 aq_14 rfl (show ix 2 12 = some 2 by decide) (show vwCl[5]? = some (RX5, TX5, nsl 5) from rfl) (by decide) rfl ?_
  show J 136 [some (vr 0 1), some (vi 2)] [] nw74 nl146 31 1243 nc92 Sm
  refine hJ.iinc (pc := 136) 3 [some (vr 0 1), some (vi 3)] dX0_init_136 (by decide) rfl (by decide) rfl ?_
  refine hJ.goto (pc := 139) 117 dX0_init_139 (by decide) ?_
  refine hJ.iload_n (pc := 117) dX0_init_117 rfl ?_
  refine hJ.bipush (pc := 118) 12 dX0_init_118 (by decide) ?_
  refine hJ.icmp_ge (pc := 120) 142 dX0_init_120 (by decide) (fun h0 => absurd h0 (by decide)) (fun _ => ?_)
  refine hJ.aload_n (pc := 123) dX0_init_123 rfl ?_
  refine hJ.getR (pc := 124) (k' := 14) (i' := 1) dX0_init_124 nfr_X0_19 rfl (by decide +kernel) ?_
  refine hJ.iload_n (pc := 127) dX0_init_127 rfl ?_
  refine hJ.newC (pc := 128) (i := 15) dX0_init_128 nnw_X0_17 (by decide +kernel) rfl ⟨Nat.le_of_ble_eq_true rfl, Nat.le_of_ble_eq_true rfl⟩ ?_
  show J 131 [some (vr 0 1), some (vi 3)] [vr 5 15, vi 3, vr 14 1] nw75 nl147 32 1251 nc93 Sm
  refine hJ.dup (pc := 131) dX0_init_131 ?_
  refine hJ.callIN (pc := 132) (as := []) (rest := [vr 5 15, vi 3, vr 14 1]) dX0_init_132 nlk_X0_67 rfl nnm_X5_init nt_X5_init rfl ⟨Nat.le_of_ble_eq_true rfl, Nat.le_of_ble_eq_true rfl, Nat.le_of_ble_eq_true rfl, Nat.le_of_ble_eq_true rfl, by decide⟩ ?_
  show J 135 [some (vr 0 1), some (vi 3)] [vr 5 15, vi 3, vr 14 1] nw75 nl147 32 1251 nc93 Sm
  refine hJ.aast (pc := 135) dX0_init_135 aq_14 rfl (show ix 3 12 = some 3 by decide) (show vwCl[5]? = some (RX5, TX5, nsl 5) from rfl) (by decide) rfl ?_
  show J 136 [some (vr 0 1), some (vi 3)] [] nw75 nl148 32 1251 nc93 Sm
  refine hJ.iinc (pc := 136) 4 [some (vr 0 1), some (vi 4)] dX0_init_136 (by decide) rfl (by decide) rfl ?_
  refine hJ.goto (pc := 139) 117 dX0_init_139 (by decide) ?_
  refine hJ.iload_n (pc := 117) dX0_init_117 rfl ?_
  refine hJ.bipush (pc := 118) 12 dX0_init_118 (by decide) ?_
  refine hJ.icmp_ge (pc := 120) 142 dX0_init_120 (by decide) (fun h0 => absurd h0 (by decide)) (fun _ => ?_)
  refine hJ.aload_n (pc := 123) dX0_init_123 rfl ?_
  refine hJ.getR (pc := 124) (k' := 14) (i' := 1) dX0_init_124 nfr_X0_19 rfl (by decide +kernel) ?_
  refine hJ.iload_n (pc := 127) dX0_init_127 rfl ?_
  refine hJ.newC (pc := 128) (i := 16) dX0_init_128 nnw_X0_17 (by decide +kernel) rfl ⟨Nat.le_of_ble_eq_true rfl, Nat.le_of_ble_eq_true rfl⟩ ?_
  show J 131 [some (vr 0 1), some (vi 4)] [vr 5 16, vi 4, vr 14 1] nw76 nl149 33 1259 nc94 Sm
  refine hJ.dup (pc := 131) dX0_init_131 ?_
  refine hJ.callIN (pc := 132) (as := []) (rest := [vr 5 16, vi 4, vr 14 1]) dX0_init_132 nlk_X0_67 rfl nnm_X5_init nt_X5_init rfl ⟨Nat.le_of_ble_eq_true rfl, Nat.le_of_ble_eq_true rfl, Nat.le_of_ble_eq_true rfl, Nat.le_of_ble_eq_true rfl, by decide⟩ ?_
  show J 135 [some (vr 0 1), some (vi 4)] [vr 5 16, vi 4, vr 14 1] nw76 nl149 33 1259 nc94 Sm
  refine hJ.aast (pc := 135) dX0_init_135 aq_14 rfl (show ix 4 12 = some 4 by decide) (show vwCl[5]? = some (RX5, TX5, nsl 5) from rfl) (by decide) rfl ?_
  show J 136 [some (vr 0 1), some (vi 4)] [] nw76 nl150 33 1259 nc94 Sm
  refine hJ.iinc (pc := 136) 5 [some (vr 0 1), some (vi 5)] dX0_init_136 (by decide) rfl (by decide) rfl ?_
  refine hJ.goto (pc := 139) 117 dX0_init_139 (by decide) ?_
  refine hJ.iload_n (pc := 117) dX0_init_117 rfl ?_
  refine hJ.bipush (pc := 118) 12 dX0_init_118 (by decide) ?_
  refine hJ.icmp_ge (pc := 120) 142 dX0_init_120 (by decide) (fun h0 => absurd h0 (by decide)) (fun _ => ?_)
  refine hJ.aload_n (pc := 123) dX0_init_123 rfl ?_
  refine hJ.getR (pc := 124) (k' := 14) (i' := 1) dX0_init_124 nfr_X0_19 rfl (by decide +kernel) ?_
  refine hJ.iload_n (pc := 127) dX0_init_127 rfl ?_
  refine hJ.newC (pc := 128) (i := 17) dX0_init_128 nnw_X0_17 (by decide +kernel) rfl ⟨Nat.le_of_ble_eq_true rfl, Nat.le_of_ble_eq_true rfl⟩ ?_
  show J 131 [some (vr 0 1), some (vi 5)] [vr 5 17, vi 5, vr 14 1] nw77 nl151 34 1267 nc95 Sm
  refine hJ.dup (pc := 131) dX0_init_131 ?_
  refine hJ.callIN (pc := 132) (as := []) (rest := [vr 5 17, vi 5, vr 14 1]) dX0_init_132 nlk_X0_67 rfl nnm_X5_init nt_X5_init rfl ⟨Nat.le_of_ble_eq_true rfl, Nat.le_of_ble_eq_true rfl, Nat.le_of_ble_eq_true rfl, Nat.le_of_ble_eq_true rfl, by decide⟩ ?_
  show J 135 [some (vr 0 1), some (vi 5)] [vr 5 17, vi 5, vr 14 1] nw77 nl151 34 1267 nc95 Sm
  refine hJ.aast (pc := 135) dX0_init_135 aq_14 rfl (show ix 5 12 = some 5 by decide) (show vwCl[5]? = some (RX5, TX5, nsl 5) from rfl) (by decide) rfl ?_
  show J 136 [some (vr 0 1), some (vi 5)] [] nw77 nl152 34 1267 nc95 Sm
  refine hJ.iinc (pc := 136) 6 [some (vr 0 1), some (vi 6)] dX0_init_136 (by decide) rfl (by decide) rfl ?_
  refine hJ.goto (pc := 139) 117 dX0_init_139 (by decide) ?_
  refine hJ.iload_n (pc := 117) dX0_init_117 rfl ?_
  refine hJ.bipush (pc := 118) 12 dX0_init_118 (by decide) ?_
  refine hJ.icmp_ge (pc := 120) 142 dX0_init_120 (by decide) (fun h0 => absurd h0 (by decide)) (fun _ => ?_)
  refine hJ.aload_n (pc := 123) dX0_init_123 rfl ?_
  refine hJ.getR (pc := 124) (k' := 14) (i' := 1) dX0_init_124 nfr_X0_19 rfl (by decide +kernel) ?_
  refine hJ.iload_n (pc := 127) dX0_init_127 rfl ?_
  refine hJ.newC (pc := 128) (i := 18) dX0_init_128 nnw_X0_17 (by decide +kernel) rfl ⟨Nat.le_of_ble_eq_true rfl, Nat.le_of_ble_eq_true rfl⟩ ?_
  show J 131 [some (vr 0 1), some (vi 6)] [vr 5 18, vi 6, vr 14 1] nw78 nl153 35 1275 nc96 Sm
  refine hJ.dup (pc := 131) dX0_init_131 ?_
  refine hJ.callIN (pc := 132) (as := []) (rest := [vr 5 18, vi 6, vr 14 1]) dX0_init_132 nlk_X0_67 rfl nnm_X5_init nt_X5_init rfl ⟨Nat.le_of_ble_eq_true rfl, Nat.le_of_ble_eq_true rfl, Nat.le_of_ble_eq_true rfl, Nat.le_of_ble_eq_true rfl, by decide⟩ ?_
  show J 135 [some (vr 0 1), some (vi 6)] [vr 5 18, vi 6, vr 14 1] nw78 nl153 35 1275 nc96 Sm
  refine hJ.aast (pc := 135) dX0_init_135 aq_14 rfl (show ix 6 12 = some 6 by decide) (show vwCl[5]? = some (RX5, TX5, nsl 5) from rfl) (by decide) rfl ?_
  show J 136 [some (vr 0 1), some (vi 6)] [] nw78 nl154 35 1275 nc96 Sm
  refine hJ.iinc (pc := 136) 7 [some (vr 0 1), some (vi 7)] dX0_init_136 (by decide) rfl (by decide) rfl ?_
  refine hJ.goto (pc := 139) 117 dX0_init_139 (by decide) ?_
  refine hJ.iload_n (pc := 117) dX0_init_117 rfl ?_
  refine hJ.bipush (pc := 118) 12 dX0_init_118 (by decide) ?_
  refine hJ.icmp_ge (pc := 120) 142 dX0_init_120 (by decide) (fun h0 => absurd h0 (by decide)) (fun _ => ?_)
  refine hJ.aload_n (pc := 123) dX0_init_123 rfl ?_
  refine hJ.getR (pc := 124) (k' := 14) (i' := 1) dX0_init_124 nfr_X0_19 rfl (by decide +kernel) ?_
  refine hJ.iload_n (pc := 127) dX0_init_127 rfl ?_
  refine hJ.newC (pc := 128) (i := 19) dX0_init_128 nnw_X0_17 (by decide +kernel) rfl ⟨Nat.le_of_ble_eq_true rfl, Nat.le_of_ble_eq_true rfl⟩ ?_
  show J 131 [some (vr 0 1), some (vi 7)] [vr 5 19, vi 7, vr 14 1] nw79 nl155 36 1283 nc97 Sm
  refine hJ.dup (pc := 131) dX0_init_131 ?_
  refine hJ.callIN (pc := 132) (as := []) (rest := [vr 5 19, vi 7, vr 14 1]) dX0_init_132 nlk_X0_67 rfl nnm_X5_init nt_X5_init rfl ⟨Nat.le_of_ble_eq_true rfl, Nat.le_of_ble_eq_true rfl, Nat.le_of_ble_eq_true rfl, Nat.le_of_ble_eq_true rfl, by decide⟩ ?_
  show J 135 [some (vr 0 1), some (vi 7)] [vr 5 19, vi 7, vr 14 1] nw79 nl155 36 1283 nc97 Sm
  refine hJ.aast (pc := 135) dX0_init_135 aq_14 rfl (show ix 7 12 = some 7 by decide) (show vwCl[5]? = some (RX5, TX5, nsl 5) from rfl) (by decide) rfl ?_
  show J 136 [some (vr 0 1), some (vi 7)] [] nw79 nl156 36 1283 nc97 Sm
  refine hJ.iinc (pc := 136) 8 [some (vr 0 1), some (vi 8)] dX0_init_136 (by decide) rfl (by decide) rfl ?_
  refine hJ.goto (pc := 139) 117 dX0_init_139 (by decide) ?_
  refine hJ.iload_n (pc := 117) dX0_init_117 rfl ?_
  refine hJ.bipush (pc := 118) 12 dX0_init_118 (by decide) ?_
  refine hJ.icmp_ge (pc := 120) 142 dX0_init_120 (by decide) (fun h0 => absurd h0 (by decide)) (fun _ => ?_)
  refine hJ.aload_n (pc := 123) dX0_init_123 rfl ?_
  refine hJ.getR (pc := 124) (k' := 14) (i' := 1) dX0_init_124 nfr_X0_19 rfl (by decide +kernel) ?_
  refine hJ.iload_n (pc := 127) dX0_init_127 rfl ?_
  refine hJ.newC (pc := 128) (i := 20) dX0_init_128 nnw_X0_17 (by decide +kernel) rfl ⟨Nat.le_of_ble_eq_true rfl, Nat.le_of_ble_eq_true rfl⟩ ?_
  show J 131 [some (vr 0 1), some (vi 8)] [vr 5 20, vi 8, vr 14 1] nw80 nl157 37 1291 nc98 Sm
  refine hJ.dup (pc := 131) dX0_init_131 ?_
  refine hJ.callIN (pc := 132) (as := []) (rest := [vr 5 20, vi 8, vr 14 1]) dX0_init_132 nlk_X0_67 rfl nnm_X5_init nt_X5_init rfl ⟨Nat.le_of_ble_eq_true rfl, Nat.le_of_ble_eq_true rfl, Nat.le_of_ble_eq_true rfl, Nat.le_of_ble_eq_true rfl, by decide⟩ ?_
  show J 135 [some (vr 0 1), some (vi 8)] [vr 5 20, vi 8, vr 14 1] nw80 nl157 37 1291 nc98 Sm
  refine hJ.aast (pc := 135) dX0_init_135 aq_14 rfl (show ix 8 12 = some 8 by decide) (show vwCl[5]? = some (RX5, TX5, nsl 5) from rfl) (by decide) rfl ?_
  show J 136 [some (vr 0 1), some (vi 8)] [] nw80 nl158 37 1291 nc98 Sm
  refine hJ.iinc (pc := 136) 9 [some (vr 0 1), some (vi 9)] dX0_init_136 (by decide) rfl (by decide) rfl ?_
  refine hJ.goto (pc := 139) 117 dX0_init_139 (by decide) ?_
  refine hJ.iload_n (pc := 117) dX0_init_117 rfl ?_
  refine hJ.bipush (pc := 118) 12 dX0_init_118 (by decide) ?_
  refine hJ.icmp_ge (pc := 120) 142 dX0_init_120 (by decide) (fun h0 => absurd h0 (by decide)) (fun _ => ?_)
  refine hJ.aload_n (pc := 123) dX0_init_123 rfl ?_
  refine hJ.getR (pc := 124) (k' := 14) (i' := 1) dX0_init_124 nfr_X0_19 rfl (by decide +kernel) ?_
  refine hJ.iload_n (pc := 127) dX0_init_127 rfl ?_
  refine hJ.newC (pc := 128) (i := 21) dX0_init_128 nnw_X0_17 (by decide +kernel) rfl ⟨Nat.le_of_ble_eq_true rfl, Nat.le_of_ble_eq_true rfl⟩ ?_
  show J 131 [some (vr 0 1), some (vi 9)] [vr 5 21, vi 9, vr 14 1] nw81 nl159 38 1299 nc99 Sm
  refine hJ.dup (pc := 131) dX0_init_131 ?_
  refine hJ.callIN (pc := 132) (as := []) (rest := [vr 5 21, vi 9, vr 14 1]) dX0_init_132 nlk_X0_67 rfl nnm_X5_init nt_X5_init rfl ⟨Nat.le_of_ble_eq_true rfl, Nat.le_of_ble_eq_true rfl, Nat.le_of_ble_eq_true rfl, Nat.le_of_ble_eq_true rfl, by decide⟩ ?_
  show J 135 [some (vr 0 1), some (vi 9)] [vr 5 21, vi 9, vr 14 1] nw81 nl159 38 1299 nc99 Sm
  refine hJ.aast (pc := 135) dX0_init_135 aq_14 rfl (show ix 9 12 = some 9 by decide) (show vwCl[5]? = some (RX5, TX5, nsl 5) from rfl) (by decide) rfl ?_
  show J 136 [some (vr 0 1), some (vi 9)] [] nw81 nl160 38 1299 nc99 Sm
  refine hJ.iinc (pc := 136) 10 [some (vr 0 1), some (vi 10)] dX0_init_136 (by decide) rfl (by decide) rfl ?_
  refine hJ.goto (pc := 139) 117 dX0_init_139 (by decide) ?_
  refine hJ.iload_n (pc := 117) dX0_init_117 rfl ?_
  refine hJ.bipush (pc := 118) 12 dX0_init_118 (by decide) ?_
  refine hJ.icmp_ge (pc := 120) 142 dX0_init_120 (by decide) (fun h0 => absurd h0 (by decide)) (fun _ => ?_)
  refine hJ.aload_n (pc := 123) dX0_init_123 rfl ?_
  refine hJ.getR (pc := 124) (k' := 14) (i' := 1) dX0_init_124 nfr_X0_19 rfl (by decide +kernel) ?_
  refine hJ.iload_n (pc := 127) dX0_init_127 rfl ?_
  refine hJ.newC (pc := 128) (i := 22) dX0_init_128 nnw_X0_17 (by decide +kernel) rfl ⟨Nat.le_of_ble_eq_true rfl, Nat.le_of_ble_eq_true rfl⟩ ?_
  show J 131 [some (vr 0 1), some (vi 10)] [vr 5 22, vi 10, vr 14 1] nw82 nl161 39 1307 nc100 Sm
  refine hJ.dup (pc := 131) dX0_init_131 ?_
  refine hJ.callIN (pc := 132) (as := []) (rest := [vr 5 22, vi 10, vr 14 1]) dX0_init_132 nlk_X0_67 rfl nnm_X5_init nt_X5_init rfl ⟨Nat.le_of_ble_eq_true rfl, Nat.le_of_ble_eq_true rfl, Nat.le_of_ble_eq_true rfl, Nat.le_of_ble_eq_true rfl, by decide⟩ ?_
  show J 135 [some (vr 0 1), some (vi 10)] [vr 5 22, vi 10, vr 14 1] nw82 nl161 39 1307 nc100 Sm
  refine hJ.aast (pc := 135) dX0_init_135 aq_14 rfl (show ix 10 12 = some 10 by decide) (show vwCl[5]? = some (RX5, TX5, nsl 5) from rfl) (by decide) rfl ?_
  show J 136 [some (vr 0 1), some (vi 10)] [] nw82 nl162 39 1307 nc100 Sm
  refine hJ.iinc (pc := 136) 11 [some (vr 0 1), some (vi 11)] dX0_init_136 (by decide) rfl (by decide) rfl ?_
  refine hJ.goto (pc := 139) 117 dX0_init_139 (by decide) ?_
  refine hJ.iload_n (pc := 117) dX0_init_117 rfl ?_
  refine hJ.bipush (pc := 118) 12 dX0_init_118 (by decide) ?_
  refine hJ.icmp_ge (pc := 120) 142 dX0_init_120 (by decide) (fun h0 => absurd h0 (by decide)) (fun _ => ?_)
  refine hJ.aload_n (pc := 123) dX0_init_123 rfl ?_
  refine hJ.getR (pc := 124) (k' := 14) (i' := 1) dX0_init_124 nfr_X0_19 rfl (by decide +kernel) ?_
  refine hJ.iload_n (pc := 127) dX0_init_127 rfl ?_
  refine hJ.newC (pc := 128) (i := 23) dX0_init_128 nnw_X0_17 (by decide +kernel) rfl ⟨Nat.le_of_ble_eq_true rfl, Nat.le_of_ble_eq_true rfl⟩ ?_
  show J 131 [some (vr 0 1), some (vi 11)] [vr 5 23, vi 11, vr 14 1] nw83 nl163 40 1315 nc101 Sm
  refine hJ.dup (pc := 131) dX0_init_131 ?_
  refine hJ.callIN (pc := 132) (as := []) (rest := [vr 5 23, vi 11, vr 14 1]) dX0_init_132 nlk_X0_67 rfl nnm_X5_init nt_X5_init rfl ⟨Nat.le_of_ble_eq_true rfl, Nat.le_of_ble_eq_true rfl, Nat.le_of_ble_eq_true rfl, Nat.le_of_ble_eq_true rfl, by decide⟩ ?_
  show J 135 [some (vr 0 1), some (vi 11)] [vr 5 23, vi 11, vr 14 1] nw83 nl163 40 1315 nc101 Sm
  refine hJ.aast (pc := 135) dX0_init_135 aq_14 rfl (show ix 11 12 = some 11 by decide) (show vwCl[5]? = some (RX5, TX5, nsl 5) from rfl) (by decide) rfl ?_
  show J 136 [some (vr 0 1), some (vi 11)] [] nw83 nl164 40 1315 nc101 Sm
  refine hJ.iinc (pc := 136) 12 [some (vr 0 1), some (vi 12)] dX0_init_136 (by decide) rfl (by decide) rfl ?_
  refine hJ.goto (pc := 139) 117 dX0_init_139 (by decide) ?_
  refine hJ.iload_n (pc := 117) dX0_init_117 rfl ?_
  refine hJ.bipush (pc := 118) 12 dX0_init_118 (by decide) ?_
  refine hJ.icmp_ge (pc := 120) 142 dX0_init_120 (by decide) (fun _ => ?_) (fun h0 => absurd (by decide) h0)
  exact hR.v (pc := 142) dX0_init_142
set_option maxRecDepth 100000 in
set_option maxHeartbeats 4000000 in
theorem nt_X7_init_0 {Sm : Mem} : Ct yX7_init cX7_init 1 none 1 20 1 400 [vr 7 0] nw84 nl166 nc103 Sm none nw85 nl168 nc105 Sm := by
  refine Ct.of RX7 true (by decide) rfl (fun _ => rfl) (by decide) (fun J hJ hR => ?_)
  show J 0 [some (vr 7 0)] [] nw84 nl166 0 0 nc103 Sm
  refine hJ.aload_n (pc := 0) dX7_init_0 rfl ?_
  refine hJ.objInit (pc := 1) dX7_init_1 now_X7_3 ⟨by decide, by decide⟩ ?_
  refine hJ.aload_n (pc := 4) dX7_init_4 rfl ?_
  refine hJ.sipush (pc := 5) 400 dX7_init_5 (by decide) ?_
  refine hJ.newaC (pc := 8) (k := 27) (i := 0) dX7_init_8 (Or.inr (Or.inl ⟨rfl, rfl⟩)) nac_1 (by decide +kernel) (by decide) rfl (Nat.le_of_ble_eq_true rfl) rfl ⟨Nat.le_of_ble_eq_true rfl, Nat.le_of_ble_eq_true rfl⟩ ?_
  show J 10 [some (vr 7 0)] [vr 27 0, vr 7 0] nw85 nl167 1 400 nc104 Sm
  refine hJ.putR (pc := 10) dX7_init_10 nff_X7_11 rfl (by decide) ?_
  show J 13 [some (vr 7 0)] [] nw85 nl168 1 400 nc104 Sm
  refine hJ.aload_n (pc := 13) dX7_init_13 rfl ?_
  refine hJ.iconst (pc := 14) 0 dX7_init_14 (by decide) ?_
  refine hJ.pI (pc := 15) dX7_init_15 nfp_X7_15 ?_
  show J 18 [some (vr 7 0)] [] nw85 nl168 1 400 nc105 Sm
  exact hR.v (pc := 18) dX7_init_18
set_option maxRecDepth 100000 in
set_option maxHeartbeats 4000000 in
theorem nt_X3_init_2 {Sm : Mem} : Ct yX3_init cX3_init 1 none 1 20 5 488 [vr 3 2] nw87 nl171 nc107 Sm none nw92 nl181 nc114 Sm := by
  refine Ct.of RX3 true (by decide) rfl (fun _ => rfl) (by decide) (fun J hJ hR => ?_)
  show J 0 [some (vr 3 2)] [] nw87 nl171 0 0 nc107 Sm
  refine hJ.aload_n (pc := 0) dX3_init_0 rfl ?_
  refine hJ.objInit (pc := 1) dX3_init_1 now_X3_3 ⟨by decide, by decide⟩ ?_
  refine hJ.aload_n (pc := 4) dX3_init_4 rfl ?_
  refine hJ.sipush (pc := 5) 400 dX3_init_5 (by decide) ?_
  refine hJ.newaC (pc := 8) (k := 21) (i := 2) dX3_init_8 (Or.inl ⟨rfl, rfl⟩) nac_0 (by decide +kernel) (by decide) rfl (Nat.le_of_ble_eq_true rfl) rfl ⟨Nat.le_of_ble_eq_true rfl, Nat.le_of_ble_eq_true rfl⟩ ?_
  show J 10 [some (vr 3 2)] [vr 21 2, vr 3 2] nw88 nl172 1 400 nc108 Sm
  refine hJ.putR (pc := 10) dX3_init_10 nff_X3_11 rfl (by decide) ?_
  show J 13 [some (vr 3 2)] [] nw88 nl173 1 400 nc108 Sm
  refine hJ.aload_n (pc := 13) dX3_init_13 rfl ?_
  refine hJ.bipush (pc := 14) 16 dX3_init_14 (by decide) ?_
  refine hJ.newaC (pc := 16) (k := 22) (i := 2) dX3_init_16 (Or.inl ⟨rfl, rfl⟩) nac_0 (by decide +kernel) (by decide) rfl (Nat.le_of_ble_eq_true rfl) rfl ⟨Nat.le_of_ble_eq_true rfl, Nat.le_of_ble_eq_true rfl⟩ ?_
  show J 18 [some (vr 3 2)] [vr 22 2, vr 3 2] nw89 nl174 2 416 nc109 Sm
  refine hJ.putR (pc := 18) dX3_init_18 nff_X3_17 rfl (by decide) ?_
  show J 21 [some (vr 3 2)] [] nw89 nl175 2 416 nc109 Sm
  refine hJ.aload_n (pc := 21) dX3_init_21 rfl ?_
  refine hJ.bipush (pc := 22) 16 dX3_init_22 (by decide) ?_
  refine hJ.newaC (pc := 24) (k := 23) (i := 2) dX3_init_24 (Or.inl ⟨rfl, rfl⟩) nac_0 (by decide +kernel) (by decide) rfl (Nat.le_of_ble_eq_true rfl) rfl ⟨Nat.le_of_ble_eq_true rfl, Nat.le_of_ble_eq_true rfl⟩ ?_
  show J 26 [some (vr 3 2)] [vr 23 2, vr 3 2] nw90 nl176 3 432 nc110 Sm
  refine hJ.putR (pc := 26) dX3_init_26 nff_X3_20 rfl (by decide) ?_
  show J 29 [some (vr 3 2)] [] nw90 nl177 3 432 nc110 Sm
  refine hJ.aload_n (pc := 29) dX3_init_29 rfl ?_
  refine hJ.bipush (pc := 30) 16 dX3_init_30 (by decide) ?_
  refine hJ.newaC (pc := 32) (k := 24) (i := 2) dX3_init_32 (Or.inl ⟨rfl, rfl⟩) nac_0 (by decide +kernel) (by decide) rfl (Nat.le_of_ble_eq_true rfl) rfl ⟨Nat.le_of_ble_eq_true rfl, Nat.le_of_ble_eq_true rfl⟩ ?_
  show J 34 [some (vr 3 2)] [vr 24 2, vr 3 2] nw91 nl178 4 448 nc111 Sm
  refine hJ.putR (pc := 34) dX3_init_34 nff_X3_23 rfl (by decide) ?_
  show J 37 [some (vr 3 2)] [] nw91 nl179 4 448 nc111 Sm
  refine hJ.aload_n (pc := 37) dX3_init_37 rfl ?_
  refine hJ.bipush (pc := 38) 40 dX3_init_38 (by decide) ?_
  refine hJ.newaC (pc := 40) (k := 25) (i := 2) dX3_init_40 (Or.inl ⟨rfl, rfl⟩) nac_0 (by decide +kernel) (by decide) rfl (Nat.le_of_ble_eq_true rfl) rfl ⟨Nat.le_of_ble_eq_true rfl, Nat.le_of_ble_eq_true rfl⟩ ?_
  show J 42 [some (vr 3 2)] [vr 25 2, vr 3 2] nw92 nl180 5 488 nc112 Sm
  refine hJ.putR (pc := 42) dX3_init_42 nff_X3_26 rfl (by decide) ?_
  show J 45 [some (vr 3 2)] [] nw92 nl181 5 488 nc112 Sm
  refine hJ.aload_n (pc := 45) dX3_init_45 rfl ?_
  refine hJ.iconst (pc := 46) 0 dX3_init_46 (by decide) ?_
  refine hJ.pI (pc := 47) dX3_init_47 nfp_X3_29 ?_
  show J 50 [some (vr 3 2)] [] nw92 nl181 5 488 nc113 Sm
  refine hJ.aload_n (pc := 50) dX3_init_50 rfl ?_
  refine hJ.iconst (pc := 51) 0 dX3_init_51 (by decide) ?_
  refine hJ.pI (pc := 52) dX3_init_52 nfp_X3_33 ?_
  show J 55 [some (vr 3 2)] [] nw92 nl181 5 488 nc114 Sm
  exact hR.v (pc := 55) dX3_init_55
set_option maxRecDepth 100000 in
set_option maxHeartbeats 4000000 in
theorem nt_X9_init_0 {Sm : Mem} : Ct yX9_init cX9_init 1 none 1 20 0 0 [vr 9 0] nw93 nl183 nc115 Sm none nw93 nl183 nc119 Sm := by
  refine Ct.of RX9 true (by decide) rfl (fun _ => rfl) (by decide) (fun J hJ hR => ?_)
  show J 0 [some (vr 9 0)] [] nw93 nl183 0 0 nc115 Sm
  refine hJ.aload_n (pc := 0) dX9_init_0 rfl ?_
  refine hJ.objInit (pc := 1) dX9_init_1 now_X9_5 ⟨by decide, by decide⟩ ?_
  refine hJ.aload_n (pc := 4) dX9_init_4 rfl ?_
  refine hJ.iconst (pc := 5) 0 dX9_init_5 (by decide) ?_
  refine hJ.pI (pc := 6) dX9_init_6 nfp_X9_11 ?_
  show J 9 [some (vr 9 0)] [] nw93 nl183 0 0 nc116 Sm
  refine hJ.aload_n (pc := 9) dX9_init_9 rfl ?_
  refine hJ.iconst (pc := 10) 0 dX9_init_10 (by decide) ?_
  refine hJ.pI (pc := 11) dX9_init_11 nfp_X9_15 ?_
  show J 14 [some (vr 9 0)] [] nw93 nl183 0 0 nc117 Sm
  refine hJ.aload_n (pc := 14) dX9_init_14 rfl ?_
  refine hJ.iconst (pc := 15) 0 dX9_init_15 (by decide) ?_
  refine hJ.pI (pc := 16) dX9_init_16 nfp_X9_18 ?_
  show J 19 [some (vr 9 0)] [] nw93 nl183 0 0 nc118 Sm
  refine hJ.aload_n (pc := 19) dX9_init_19 rfl ?_
  refine hJ.iconst (pc := 20) 0 dX9_init_20 (by decide) ?_
  refine hJ.pI (pc := 21) dX9_init_21 nfp_X9_21 ?_
  show J 24 [some (vr 9 0)] [] nw93 nl183 0 0 nc119 Sm
  exact hR.v (pc := 24) dX9_init_24
set_option maxRecDepth 100000 in
set_option maxHeartbeats 4000000 in
theorem nt_X4_init_0 {Sm : Mem} : Ct yX4_init cX4_init 1 none 2 40 8 539 [vr 4 0] nw86 nl170 nc106 Sm none nw94 nl186 nc126 Sm := by
  refine Ct.of RX4 true (by decide) rfl (fun _ => rfl) (by decide) (fun J hJ hR => ?_)
  show J 0 [some (vr 4 0)] [] nw86 nl170 0 0 nc106 Sm
  refine hJ.aload_n (pc := 0) dX4_init_0 rfl ?_
  refine hJ.objInit (pc := 1) dX4_init_1 now_X4_3 ⟨by decide, by decide⟩ ?_
  refine hJ.aload_n (pc := 4) dX4_init_4 rfl ?_
  refine hJ.newC (pc := 5) (i := 2) dX4_init_5 nnw_X4_9 (by decide +kernel) rfl ⟨Nat.le_of_ble_eq_true rfl, Nat.le_of_ble_eq_true rfl⟩ ?_
  show J 8 [some (vr 4 0)] [vr 3 2, vr 4 0] nw87 nl171 1 7 nc107 Sm
  refine hJ.dup (pc := 8) dX4_init_8 ?_
  refine hJ.callIN (pc := 9) (as := []) (rest := [vr 3 2, vr 4 0]) dX4_init_9 nlk_X4_11 rfl nnm_X3_init nt_X3_init_2 rfl ⟨Nat.le_of_ble_eq_true rfl, Nat.le_of_ble_eq_true rfl, Nat.le_of_ble_eq_true rfl, Nat.le_of_ble_eq_true rfl, by decide⟩ ?_
  show J 12 [some (vr 4 0)] [vr 3 2, vr 4 0] nw92 nl181 6 495 nc114 Sm
  refine hJ.putR (pc := 12) dX4_init_12 nff_X4_12 rfl (by decide) ?_
  show J 15 [some (vr 4 0)] [] nw92 nl182 6 495 nc114 Sm
  refine hJ.aload_n (pc := 15) dX4_init_15 rfl ?_
  refine hJ.newC (pc := 16) (i := 0) dX4_init_16 nnw_X4_18 (by decide +kernel) rfl ⟨Nat.le_of_ble_eq_true rfl, Nat.le_of_ble_eq_true rfl⟩ ?_
  show J 19 [some (vr 4 0)] [vr 9 0, vr 4 0] nw93 nl183 7 499 nc115 Sm
  refine hJ.dup (pc := 19) dX4_init_19 ?_
  refine hJ.callIN (pc := 20) (as := []) (rest := [vr 9 0, vr 4 0]) dX4_init_20 nlk_X4_20 rfl nnm_X9_init nt_X9_init_0 rfl ⟨Nat.le_of_ble_eq_true rfl, Nat.le_of_ble_eq_true rfl, Nat.le_of_ble_eq_true rfl, Nat.le_of_ble_eq_true rfl, by decide⟩ ?_
  show J 23 [some (vr 4 0)] [vr 9 0, vr 4 0] nw93 nl183 7 499 nc119 Sm
  refine hJ.putR (pc := 23) dX4_init_23 nff_X4_21 rfl (by decide) ?_
  show J 26 [some (vr 4 0)] [] nw93 nl184 7 499 nc119 Sm
  refine hJ.aload_n (pc := 26) dX4_init_26 rfl ?_
  refine hJ.bipush (pc := 27) 40 dX4_init_27 (by decide) ?_
  refine hJ.newaC (pc := 29) (k := 26) (i := 0) dX4_init_29 (Or.inl ⟨rfl, rfl⟩) nac_0 (by decide +kernel) (by decide) rfl (Nat.le_of_ble_eq_true rfl) rfl ⟨Nat.le_of_ble_eq_true rfl, Nat.le_of_ble_eq_true rfl⟩ ?_
  show J 31 [some (vr 4 0)] [vr 26 0, vr 4 0] nw94 nl185 8 539 nc120 Sm
  refine hJ.putR (pc := 31) dX4_init_31 nff_X4_25 rfl (by decide) ?_
  show J 34 [some (vr 4 0)] [] nw94 nl186 8 539 nc120 Sm
  refine hJ.aload_n (pc := 34) dX4_init_34 rfl ?_
  refine hJ.iconst (pc := 35) 0 dX4_init_35 (by decide) ?_
  refine hJ.pI (pc := 36) dX4_init_36 nfp_X4_29 ?_
  show J 39 [some (vr 4 0)] [] nw94 nl186 8 539 nc121 Sm
  refine hJ.aload_n (pc := 39) dX4_init_39 rfl ?_
  refine hJ.iconst (pc := 40) 0 dX4_init_40 (by decide) ?_
  refine hJ.pI (pc := 41) dX4_init_41 nfp_X4_33 ?_
  show J 44 [some (vr 4 0)] [] nw94 nl186 8 539 nc122 Sm
  refine hJ.aload_n (pc := 44) dX4_init_44 rfl ?_
  refine hJ.iconst (pc := 45) 0 dX4_init_45 (by decide) ?_
  refine hJ.pI (pc := 46) dX4_init_46 nfp_X4_36 ?_
  show J 49 [some (vr 4 0)] [] nw94 nl186 8 539 nc123 Sm
  refine hJ.aload_n (pc := 49) dX4_init_49 rfl ?_
  refine hJ.iconst (pc := 50) 0 dX4_init_50 (by decide) ?_
  refine hJ.pZ (pc := 51) dX4_init_51 nfp_X4_39 (by decide) ?_
  show J 54 [some (vr 4 0)] [] nw94 nl186 8 539 nc124 Sm
  refine hJ.aload_n (pc := 54) dX4_init_54 rfl ?_
  refine hJ.iconst (pc := 55) 0 dX4_init_55 (by decide) ?_
  refine hJ.pI (pc := 56) dX4_init_56 nfp_X4_43 ?_
  show J 59 [some (vr 4 0)] [] nw94 nl186 8 539 nc125 Sm
  refine hJ.aload_n (pc := 59) dX4_init_59 rfl ?_
  refine hJ.iconst (pc := 60) (-1) dX4_init_60 (by decide) ?_
  refine hJ.pI (pc := 61) dX4_init_61 nfp_X4_46 ?_
  show J 64 [some (vr 4 0)] [] nw94 nl186 8 539 nc126 Sm
  exact hR.v (pc := 64) dX4_init_64
set_option maxRecDepth 100000 in
set_option maxHeartbeats 4000000 in
theorem nt_X10_init_0 {Sm : Mem} : Ct yX10_init cX10_init 2 none 2 40 12 100 [vr 10 0] nw95 nl188 nc127 Sm none nw107 nl212 nc141 Sm := by
  refine Ct.of RX10 true (by decide) rfl (fun _ => rfl) (by decide) (fun J hJ hR => ?_)
  show J 0 [some (vr 10 0), none] [] nw95 nl188 0 0 nc127 Sm
  refine hJ.aload_n (pc := 0) dX10_init_0 rfl ?_
  refine hJ.objInit (pc := 1) dX10_init_1 now_X10_1 ⟨by decide, by decide⟩ ?_
  refine hJ.aload_n (pc := 4) dX10_init_4 rfl ?_
  refine hJ.bipush (pc := 5) 10 dX10_init_5 (by decide) ?_
  refine hJ.newq (pc := 7) (k := 29) (i := 0) dX10_init_7 aq_29 ncl_X10_9 (by decide +kernel) (by decide) rfl (Nat.le_of_ble_eq_true rfl) rfl ⟨Nat.le_of_ble_eq_true rfl, Nat.le_of_ble_eq_true rfl⟩ ?_
  show J 10 [some (vr 10 0), none] [vr 29 0, vr 10 0] nw96 nl189 1 10 nc128 Sm
  refine hJ.putR (pc := 10) dX10_init_10 nff_X10_11 rfl (by decide) ?_
  show J 13 [some (vr 10 0), none] [] nw96 nl190 1 10 nc128 Sm
  refine hJ.aload_n (pc := 13) dX10_init_13 rfl ?_
  refine hJ.bipush (pc := 14) 10 dX10_init_14 (by decide) ?_
  refine hJ.newaC (pc := 16) (k := 30) (i := 0) dX10_init_16 (Or.inr (Or.inr ⟨rfl, rfl⟩)) nac_2 (by decide +kernel) (by decide) rfl (Nat.le_of_ble_eq_true rfl) rfl ⟨Nat.le_of_ble_eq_true rfl, Nat.le_of_ble_eq_true rfl⟩ ?_
  show J 18 [some (vr 10 0), none] [vr 30 0, vr 10 0] nw97 nl191 2 20 nc129 Sm
  refine hJ.putR (pc := 18) dX10_init_18 nff_X10_15 rfl (by decide) ?_
  show J 21 [some (vr 10 0), none] [] nw97 nl192 2 20 nc129 Sm
  refine hJ.aload_n (pc := 21) dX10_init_21 rfl ?_
  refine hJ.iconst (pc := 22) 0 dX10_init_22 (by decide) ?_
  refine hJ.pI (pc := 23) dX10_init_23 nfp_X10_19 ?_
  show J 26 [some (vr 10 0), none] [] nw97 nl192 2 20 nc130 Sm
  refine hJ.aload_n (pc := 26) dX10_init_26 rfl ?_
  refine hJ.iconst (pc := 27) 0 dX10_init_27 (by decide) ?_
  refine hJ.pI (pc := 28) dX10_init_28 nfp_X10_23 ?_
  show J 31 [some (vr 10 0), none] [] nw97 nl192 2 20 nc131 Sm
  refine hJ.iconst (pc := 31) 0 dX10_init_31 (by decide) ?_
  refine hJ.istore_n (pc := 32) [some (vr 10 0), some (vi 0)] dX10_init_32 (by decide) rfl ?_
  refine hJ.iload_n (pc := 33) dX10_init_33 rfl ?_
  refine hJ.bipush (pc := 34) 10 dX10_init_34 (by decide) ?_
  refine hJ.icmp_ge (pc := 36) 58 dX10_init_36 (by decide) (fun h0 => absurd h0 (by decide)) (fun _ => ?_)
  refine hJ.aload_n (pc := 39) dX10_init_39 rfl ?_
  refine hJ.getR (pc := 40) (k' := 29) (i' := 0) dX10_init_40 nfr_X10_11 rfl (by decide +kernel) ?_
  refine hJ.iload_n (pc := 43) dX10_init_43 rfl ?_
  refine hJ.newC (pc := 44) (i := 25) dX10_init_44 nnw_X10_9 (by decide +kernel) rfl ⟨Nat.le_of_ble_eq_true rfl, Nat.le_of_ble_eq_true rfl⟩ ?_
  show J 47 [some (vr 10 0), some (vi 0)] [vr 5 25, vi 0, vr 29 0] nw98 nl193 3 28 nc132 Sm
  refine hJ.dup (pc := 47) dX10_init_47 ?_
  refine hJ.callIN (pc := 48) (as := []) (rest := [vr 5 25, vi 0, vr 29 0]) dX10_init_48 nlk_X10_26 rfl nnm_X5_init nt_X5_init rfl ⟨Nat.le_of_ble_eq_true rfl, Nat.le_of_ble_eq_true rfl, Nat.le_of_ble_eq_true rfl, Nat.le_of_ble_eq_true rfl, by decide⟩ ?_
  show J 51 [some (vr 10 0), some (vi 0)] [vr 5 25, vi 0, vr 29 0] nw98 nl193 3 28 nc132 Sm
  refine hJ.aast (pc := 51) dX10_init_51 aq_29 rfl (show ix 0 10 = some 0 by decide) (show vwCl[5]? = some (RX5, TX5, nsl 5) from rfl) (by decide) rfl ?_
  show J 52 [some (vr 10 0), some (vi 0)] [] nw98 nl194 3 28 nc132 Sm
  refine hJ.iinc (pc := 52) 1 [some (vr 10 0), some (vi 1)] dX10_init_52 (by decide) rfl (by decide) rfl ?_
  refine hJ.goto (pc := 55) 33 dX10_init_55 (by decide) ?_
  refine hJ.iload_n (pc := 33) dX10_init_33 rfl ?_
  refine hJ.bipush (pc := 34) 10 dX10_init_34 (by decide) ?_
  refine hJ.icmp_ge (pc := 36) 58 dX10_init_36 (by decide) (fun h0 => absurd h0 (by decide)) (fun _ => ?_)
  refine hJ.aload_n (pc := 39) dX10_init_39 rfl ?_
  refine hJ.getR (pc := 40) (k' := 29) (i' := 0) dX10_init_40 nfr_X10_11 rfl (by decide +kernel) ?_
  refine hJ.iload_n (pc := 43) dX10_init_43 rfl ?_
  refine hJ.newC (pc := 44) (i := 26) dX10_init_44 nnw_X10_9 (by decide +kernel) rfl ⟨Nat.le_of_ble_eq_true rfl, Nat.le_of_ble_eq_true rfl⟩ ?_
  show J 47 [some (vr 10 0), some (vi 1)] [vr 5 26, vi 1, vr 29 0] nw99 nl195 4 36 nc133 Sm
  refine hJ.dup (pc := 47) dX10_init_47 ?_
  refine hJ.callIN (pc := 48) (as := []) (rest := [vr 5 26, vi 1, vr 29 0]) dX10_init_48 nlk_X10_26 rfl nnm_X5_init nt_X5_init rfl ⟨Nat.le_of_ble_eq_true rfl, Nat.le_of_ble_eq_true rfl, Nat.le_of_ble_eq_true rfl, Nat.le_of_ble_eq_true rfl, by decide⟩ ?_
  show J 51 [some (vr 10 0), some (vi 1)] [vr 5 26, vi 1, vr 29 0] nw99 nl195 4 36 nc133 Sm
  refine hJ.aast (pc := 51) dX10_init_51 aq_29 rfl (show ix 1 10 = some 1 by decide) (show vwCl[5]? = some (RX5, TX5, nsl 5) from rfl) (by decide) rfl ?_
  show J 52 [some (vr 10 0), some (vi 1)] [] nw99 nl196 4 36 nc133 Sm
  refine hJ.iinc (pc := 52) 2 [some (vr 10 0), some (vi 2)] dX10_init_52 (by decide) rfl (by decide) rfl ?_
  refine hJ.goto (pc := 55) 33 dX10_init_55 (by decide) ?_
  refine hJ.iload_n (pc := 33) dX10_init_33 rfl ?_
  refine hJ.bipush (pc := 34) 10 dX10_init_34 (by decide) ?_
  refine hJ.icmp_ge (pc := 36) 58 dX10_init_36 (by decide) (fun h0 => absurd h0 (by decide)) (fun _ => ?_)
  refine hJ.aload_n (pc := 39) dX10_init_39 rfl ?_
  refine hJ.getR (pc := 40) (k' := 29) (i' := 0) dX10_init_40 nfr_X10_11 rfl (by decide +kernel) ?_
  refine hJ.iload_n (pc := 43) dX10_init_43 rfl ?_
  refine hJ.newC (pc := 44) (i := 27) dX10_init_44 nnw_X10_9 (by decide +kernel) rfl ⟨Nat.le_of_ble_eq_true rfl, Nat.le_of_ble_eq_true rfl⟩ ?_
  show J 47 [some (vr 10 0), some (vi 2)] [vr 5 27, vi 2, vr 29 0] nw100 nl197 5 44 nc134 Sm
  refine hJ.dup (pc := 47) dX10_init_47 ?_
  refine hJ.callIN (pc := 48) (as := []) (rest := [vr 5 27, vi 2, vr 29 0]) dX10_init_48 nlk_X10_26 rfl nnm_X5_init nt_X5_init rfl ⟨Nat.le_of_ble_eq_true rfl, Nat.le_of_ble_eq_true rfl, Nat.le_of_ble_eq_true rfl, Nat.le_of_ble_eq_true rfl, by decide⟩ ?_
  show J 51 [some (vr 10 0), some (vi 2)] [vr 5 27, vi 2, vr 29 0] nw100 nl197 5 44 nc134 Sm
  refine hJ.aast (pc := 51) dX10_init_51 aq_29 rfl (show ix 2 10 = some 2 by decide) (show vwCl[5]? = some (RX5, TX5, nsl 5) from rfl) (by decide) rfl ?_
  show J 52 [some (vr 10 0), some (vi 2)] [] nw100 nl198 5 44 nc134 Sm
  refine hJ.iinc (pc := 52) 3 [some (vr 10 0), some (vi 3)] dX10_init_52 (by decide) rfl (by decide) rfl ?_
  refine hJ.goto (pc := 55) 33 dX10_init_55 (by decide) ?_
  refine hJ.iload_n (pc := 33) dX10_init_33 rfl ?_
  refine hJ.bipush (pc := 34) 10 dX10_init_34 (by decide) ?_
  refine hJ.icmp_ge (pc := 36) 58 dX10_init_36 (by decide) (fun h0 => absurd h0 (by decide)) (fun _ => ?_)
  refine hJ.aload_n (pc := 39) dX10_init_39 rfl ?_
  refine hJ.getR (pc := 40) (k' := 29) (i' := 0) dX10_init_40 nfr_X10_11 rfl (by decide +kernel) ?_
  refine hJ.iload_n (pc := 43) dX10_init_43 rfl ?_
  refine hJ.newC (pc := 44) (i := 28) dX10_init_44 nnw_X10_9 (by decide +kernel) rfl ⟨Nat.le_of_ble_eq_true rfl, Nat.le_of_ble_eq_true rfl⟩ ?_
  show J 47 [some (vr 10 0), some (vi 3)] [vr 5 28, vi 3, vr 29 0] nw101 nl199 6 52 nc135 Sm
  refine hJ.dup (pc := 47) dX10_init_47 ?_
  refine hJ.callIN (pc := 48) (as := []) (rest := [vr 5 28, vi 3, vr 29 0]) dX10_init_48 nlk_X10_26 rfl nnm_X5_init nt_X5_init rfl ⟨Nat.le_of_ble_eq_true rfl, Nat.le_of_ble_eq_true rfl, Nat.le_of_ble_eq_true rfl, Nat.le_of_ble_eq_true rfl, by decide⟩ ?_
  show J 51 [some (vr 10 0), some (vi 3)] [vr 5 28, vi 3, vr 29 0] nw101 nl199 6 52 nc135 Sm
  refine hJ.aast (pc := 51) dX10_init_51 aq_29 rfl (show ix 3 10 = some 3 by decide) (show vwCl[5]? = some (RX5, TX5, nsl 5) from rfl) (by decide) rfl ?_
  show J 52 [some (vr 10 0), some (vi 3)] [] nw101 nl200 6 52 nc135 Sm
  refine hJ.iinc (pc := 52) 4 [some (vr 10 0), some (vi 4)] dX10_init_52 (by decide) rfl (by decide) rfl ?_
  refine hJ.goto (pc := 55) 33 dX10_init_55 (by decide) ?_
  refine hJ.iload_n (pc := 33) dX10_init_33 rfl ?_
  refine hJ.bipush (pc := 34) 10 dX10_init_34 (by decide) ?_
  refine hJ.icmp_ge (pc := 36) 58 dX10_init_36 (by decide) (fun h0 => absurd h0 (by decide)) (fun _ => ?_)
  refine hJ.aload_n (pc := 39) dX10_init_39 rfl ?_
  refine hJ.getR (pc := 40) (k' := 29) (i' := 0) dX10_init_40 nfr_X10_11 rfl (by decide +kernel) ?_
  refine hJ.iload_n (pc := 43) dX10_init_43 rfl ?_
  refine hJ.newC (pc := 44) (i := 29) dX10_init_44 nnw_X10_9 (by decide +kernel) rfl ⟨Nat.le_of_ble_eq_true rfl, Nat.le_of_ble_eq_true rfl⟩ ?_
  show J 47 [some (vr 10 0), some (vi 4)] [vr 5 29, vi 4, vr 29 0] nw102 nl201 7 60 nc136 Sm
  refine hJ.dup (pc := 47) dX10_init_47 ?_
  refine hJ.callIN (pc := 48) (as := []) (rest := [vr 5 29, vi 4, vr 29 0]) dX10_init_48 nlk_X10_26 rfl nnm_X5_init nt_X5_init rfl ⟨Nat.le_of_ble_eq_true rfl, Nat.le_of_ble_eq_true rfl, Nat.le_of_ble_eq_true rfl, Nat.le_of_ble_eq_true rfl, by decide⟩ ?_
  show J 51 [some (vr 10 0), some (vi 4)] [vr 5 29, vi 4, vr 29 0] nw102 nl201 7 60 nc136 Sm
  refine hJ.aast (pc := 51) dX10_init_51 aq_29 rfl (show ix 4 10 = some 4 by decide) (show vwCl[5]? = some (RX5, TX5, nsl 5) from rfl) (by decide) rfl ?_
  show J 52 [some (vr 10 0), some (vi 4)] [] nw102 nl202 7 60 nc136 Sm
  refine hJ.iinc (pc := 52) 5 [some (vr 10 0), some (vi 5)] dX10_init_52 (by decide) rfl (by decide) rfl ?_
  refine hJ.goto (pc := 55) 33 dX10_init_55 (by decide) ?_
  refine hJ.iload_n (pc := 33) dX10_init_33 rfl ?_
  refine hJ.bipush (pc := 34) 10 dX10_init_34 (by decide) ?_
  refine hJ.icmp_ge (pc := 36) 58 dX10_init_36 (by decide) (fun h0 => absurd h0 (by decide)) (fun _ => ?_)
  refine hJ.aload_n (pc := 39) dX10_init_39 rfl ?_
  refine hJ.getR (pc := 40) (k' := 29) (i' := 0) dX10_init_40 nfr_X10_11 rfl (by decide +kernel) ?_
  refine hJ.iload_n (pc := 43) dX10_init_43 rfl ?_
  refine hJ.newC (pc := 44) (i := 30) dX10_init_44 nnw_X10_9 (by decide +kernel) rfl ⟨Nat.le_of_ble_eq_true rfl, Nat.le_of_ble_eq_true rfl⟩ ?_
  show J 47 [some (vr 10 0), some (vi 5)] [vr 5 30, vi 5, vr 29 0] nw103 nl203 8 68 nc137 Sm
  refine hJ.dup (pc := 47) dX10_init_47 ?_
  refine hJ.callIN (pc := 48) (as := []) (rest := [vr 5 30, vi 5, vr 29 0]) dX10_init_48 nlk_X10_26 rfl nnm_X5_init nt_X5_init rfl ⟨Nat.le_of_ble_eq_true rfl, Nat.le_of_ble_eq_true rfl, Nat.le_of_ble_eq_true rfl, Nat.le_of_ble_eq_true rfl, by decide⟩ ?_
  show J 51 [some (vr 10 0), some (vi 5)] [vr 5 30, vi 5, vr 29 0] nw103 nl203 8 68 nc137 Sm
  refine hJ.aast (pc := 51) dX10_init_51 aq_29 rfl (show ix 5 10 = some 5 by decide) (show vwCl[5]? = some (RX5, TX5, nsl 5) from rfl) (by decide) rfl ?_
  show J 52 [some (vr 10 0), some (vi 5)] [] nw103 nl204 8 68 nc137 Sm
  refine hJ.iinc (pc := 52) 6 [some (vr 10 0), some (vi 6)] dX10_init_52 (by decide) rfl (by decide) rfl ?_
  refine hJ.goto (pc := 55) 33 dX10_init_55 (by decide) ?_
  refine hJ.iload_n (pc := 33) dX10_init_33 rfl ?_
  refine hJ.bipush (pc := 34) 10 dX10_init_34 (by decide) ?_
  refine hJ.icmp_ge (pc := 36) 58 dX10_init_36 (by decide) (fun h0 => absurd h0 (by decide)) (fun _ => ?_)
  refine hJ.aload_n (pc := 39) dX10_init_39 rfl ?_
  refine hJ.getR (pc := 40) (k' := 29) (i' := 0) dX10_init_40 nfr_X10_11 rfl (by decide +kernel) ?_
  refine hJ.iload_n (pc := 43) dX10_init_43 rfl ?_
  refine hJ.newC (pc := 44) (i := 31) dX10_init_44 nnw_X10_9 (by decide +kernel) rfl ⟨Nat.le_of_ble_eq_true rfl, Nat.le_of_ble_eq_true rfl⟩ ?_
  show J 47 [some (vr 10 0), some (vi 6)] [vr 5 31, vi 6, vr 29 0] nw104 nl205 9 76 nc138 Sm
  refine hJ.dup (pc := 47) dX10_init_47 ?_
  refine hJ.callIN (pc := 48) (as := []) (rest := [vr 5 31, vi 6, vr 29 0]) dX10_init_48 nlk_X10_26 rfl nnm_X5_init nt_X5_init rfl ⟨Nat.le_of_ble_eq_true rfl, Nat.le_of_ble_eq_true rfl, Nat.le_of_ble_eq_true rfl, Nat.le_of_ble_eq_true rfl, by decide⟩ ?_
  show J 51 [some (vr 10 0), some (vi 6)] [vr 5 31, vi 6, vr 29 0] nw104 nl205 9 76 nc138 Sm
  refine hJ.aast (pc := 51) dX10_init_51 aq_29 rfl (show ix 6 10 = some 6 by decide) (show vwCl[5]? = some (RX5, TX5, nsl 5) from rfl) (by decide) rfl ?_
  show J 52 [some (vr 10 0), some (vi 6)] [] nw104 nl206 9 76 nc138 Sm
  refine hJ.iinc (pc := 52) 7 [some (vr 10 0), some (vi 7)] dX10_init_52 (by decide) rfl (by decide) rfl ?_
  refine hJ.goto (pc := 55) 33 dX10_init_55 (by decide) ?_
  refine hJ.iload_n (pc := 33) dX10_init_33 rfl ?_
  refine hJ.bipush (pc := 34) 10 dX10_init_34 (by decide) ?_
  refine hJ.icmp_ge (pc := 36) 58 dX10_init_36 (by decide) (fun h0 => absurd h0 (by decide)) (fun _ => ?_)
  refine hJ.aload_n (pc := 39) dX10_init_39 rfl ?_
  refine hJ.getR (pc := 40) (k' := 29) (i' := 0) dX10_init_40 nfr_X10_11 rfl (by decide +kernel) ?_
  refine hJ.iload_n (pc := 43) dX10_init_43 rfl ?_
  refine hJ.newC (pc := 44) (i := 32) dX10_init_44 nnw_X10_9 (by decide +kernel) rfl ⟨Nat.le_of_ble_eq_true rfl, Nat.le_of_ble_eq_true rfl⟩ ?_
  show J 47 [some (vr 10 0), some (vi 7)] [vr 5 32, vi 7, vr 29 0] nw105 nl207 10 84 nc139 Sm
  refine hJ.dup (pc := 47) dX10_init_47 ?_
  refine hJ.callIN (pc := 48) (as := []) (rest := [vr 5 32, vi 7, vr 29 0]) dX10_init_48 nlk_X10_26 rfl nnm_X5_init nt_X5_init rfl ⟨Nat.le_of_ble_eq_true rfl, Nat.le_of_ble_eq_true rfl, Nat.le_of_ble_eq_true rfl, Nat.le_of_ble_eq_true rfl, by decide⟩ ?_
  show J 51 [some (vr 10 0), some (vi 7)] [vr 5 32, vi 7, vr 29 0] nw105 nl207 10 84 nc139 Sm
  refine hJ.aast (pc := 51) dX10_init_51 aq_29 rfl (show ix 7 10 = some 7 by decide) (show vwCl[5]? = some (RX5, TX5, nsl 5) from rfl) (by decide) rfl ?_
  show J 52 [some (vr 10 0), some (vi 7)] [] nw105 nl208 10 84 nc139 Sm
  refine hJ.iinc (pc := 52) 8 [some (vr 10 0), some (vi 8)] dX10_init_52 (by decide) rfl (by decide) rfl ?_
  refine hJ.goto (pc := 55) 33 dX10_init_55 (by decide) ?_
  refine hJ.iload_n (pc := 33) dX10_init_33 rfl ?_
  refine hJ.bipush (pc := 34) 10 dX10_init_34 (by decide) ?_
  refine hJ.icmp_ge (pc := 36) 58 dX10_init_36 (by decide) (fun h0 => absurd h0 (by decide)) (fun _ => ?_)
  refine hJ.aload_n (pc := 39) dX10_init_39 rfl ?_
  refine hJ.getR (pc := 40) (k' := 29) (i' := 0) dX10_init_40 nfr_X10_11 rfl (by decide +kernel) ?_
  refine hJ.iload_n (pc := 43) dX10_init_43 rfl ?_
  refine hJ.newC (pc := 44) (i := 33) dX10_init_44 nnw_X10_9 (by decide +kernel) rfl ⟨Nat.le_of_ble_eq_true rfl, Nat.le_of_ble_eq_true rfl⟩ ?_
  show J 47 [some (vr 10 0), some (vi 8)] [vr 5 33, vi 8, vr 29 0] nw106 nl209 11 92 nc140 Sm
  refine hJ.dup (pc := 47) dX10_init_47 ?_
  refine hJ.callIN (pc := 48) (as := []) (rest := [vr 5 33, vi 8, vr 29 0]) dX10_init_48 nlk_X10_26 rfl nnm_X5_init nt_X5_init rfl ⟨Nat.le_of_ble_eq_true rfl, Nat.le_of_ble_eq_true rfl, Nat.le_of_ble_eq_true rfl, Nat.le_of_ble_eq_true rfl, by decide⟩ ?_
  show J 51 [some (vr 10 0), some (vi 8)] [vr 5 33, vi 8, vr 29 0] nw106 nl209 11 92 nc140 Sm
  refine hJ.aast (pc := 51) dX10_init_51 aq_29 rfl (show ix 8 10 = some 8 by decide) (show vwCl[5]? = some (RX5, TX5, nsl 5) from rfl) (by decide) rfl ?_
  show J 52 [some (vr 10 0), some (vi 8)] [] nw106 nl210 11 92 nc140 Sm
  refine hJ.iinc (pc := 52) 9 [some (vr 10 0), some (vi 9)] dX10_init_52 (by decide) rfl (by decide) rfl ?_
  refine hJ.goto (pc := 55) 33 dX10_init_55 (by decide) ?_
  refine hJ.iload_n (pc := 33) dX10_init_33 rfl ?_
  refine hJ.bipush (pc := 34) 10 dX10_init_34 (by decide) ?_
  refine hJ.icmp_ge (pc := 36) 58 dX10_init_36 (by decide) (fun h0 => absurd h0 (by decide)) (fun _ => ?_)
  refine hJ.aload_n (pc := 39) dX10_init_39 rfl ?_
  refine hJ.getR (pc := 40) (k' := 29) (i' := 0) dX10_init_40 nfr_X10_11 rfl (by decide +kernel) ?_
  refine hJ.iload_n (pc := 43) dX10_init_43 rfl ?_
  refine hJ.newC (pc := 44) (i := 34) dX10_init_44 nnw_X10_9 (by decide +kernel) rfl ⟨Nat.le_of_ble_eq_true rfl, Nat.le_of_ble_eq_true rfl⟩ ?_
  show J 47 [some (vr 10 0), some (vi 9)] [vr 5 34, vi 9, vr 29 0] nw107 nl211 12 100 nc141 Sm
  refine hJ.dup (pc := 47) dX10_init_47 ?_
  refine hJ.callIN (pc := 48) (as := []) (rest := [vr 5 34, vi 9, vr 29 0]) dX10_init_48 nlk_X10_26 rfl nnm_X5_init nt_X5_init rfl ⟨Nat.le_of_ble_eq_true rfl, Nat.le_of_ble_eq_true rfl, Nat.le_of_ble_eq_true rfl, Nat.le_of_ble_eq_true rfl, by decide⟩ ?_
  show J 51 [some (vr 10 0), some (vi 9)] [vr 5 34, vi 9, vr 29 0] nw107 nl211 12 100 nc141 Sm
  refine hJ.aast (pc := 51) dX10_init_51 aq_29 rfl (show ix 9 10 = some 9 by decide) (show vwCl[5]? = some (RX5, TX5, nsl 5) from rfl) (by decide) rfl ?_
  show J 52 [some (vr 10 0), some (vi 9)] [] nw107 nl212 12 100 nc141 Sm
  refine hJ.iinc (pc := 52) 10 [some (vr 10 0), some (vi 10)] dX10_init_52 (by decide) rfl (by decide) rfl ?_
  refine hJ.goto (pc := 55) 33 dX10_init_55 (by decide) ?_
  refine hJ.iload_n (pc := 33) dX10_init_33 rfl ?_
  refine hJ.bipush (pc := 34) 10 dX10_init_34 (by decide) ?_
  refine hJ.icmp_ge (pc := 36) 58 dX10_init_36 (by decide) (fun _ => ?_) (fun h0 => absurd (by decide) h0)
  exact hR.v (pc := 58) dX10_init_58
set_option maxRecDepth 100000 in
set_option maxHeartbeats 4000000 in
theorem nt_X8_init_0 {Sm : Mem} : Ct yX8_init cX8_init 1 none 2 40 2 20 [vr 8 0] nw108 nl214 nc142 Sm none nw110 nl218 nc147 Sm := by
  refine Ct.of RX8 true (by decide) rfl (fun _ => rfl) (by decide) (fun J hJ hR => ?_)
  show J 0 [some (vr 8 0)] [] nw108 nl214 0 0 nc142 Sm
  refine hJ.aload_n (pc := 0) dX8_init_0 rfl ?_
  refine hJ.objInit (pc := 1) dX8_init_1 now_X8_3 ⟨by decide, by decide⟩ ?_
  refine hJ.aload_n (pc := 4) dX8_init_4 rfl ?_
  refine hJ.bipush (pc := 5) 12 dX8_init_5 (by decide) ?_
  refine hJ.newaC (pc := 7) (k := 28) (i := 0) dX8_init_7 (Or.inl ⟨rfl, rfl⟩) nac_0 (by decide +kernel) (by decide) rfl (Nat.le_of_ble_eq_true rfl) rfl ⟨Nat.le_of_ble_eq_true rfl, Nat.le_of_ble_eq_true rfl⟩ ?_
  show J 9 [some (vr 8 0)] [vr 28 0, vr 8 0] nw109 nl215 1 12 nc143 Sm
  refine hJ.putR (pc := 9) dX8_init_9 nff_X8_9 rfl (by decide) ?_
  show J 12 [some (vr 8 0)] [] nw109 nl216 1 12 nc143 Sm
  refine hJ.aload_n (pc := 12) dX8_init_12 rfl ?_
  refine hJ.newC (pc := 13) (i := 24) dX8_init_13 nnw_X8_15 (by decide +kernel) rfl ⟨Nat.le_of_ble_eq_true rfl, Nat.le_of_ble_eq_true rfl⟩ ?_
  show J 16 [some (vr 8 0)] [vr 5 24, vr 8 0] nw110 nl217 2 20 nc144 Sm
  refine hJ.dup (pc := 16) dX8_init_16 ?_
  refine hJ.callIN (pc := 17) (as := []) (rest := [vr 5 24, vr 8 0]) dX8_init_17 nlk_X8_17 rfl nnm_X5_init nt_X5_init rfl ⟨Nat.le_of_ble_eq_true rfl, Nat.le_of_ble_eq_true rfl, Nat.le_of_ble_eq_true rfl, Nat.le_of_ble_eq_true rfl, by decide⟩ ?_
  show J 20 [some (vr 8 0)] [vr 5 24, vr 8 0] nw110 nl217 2 20 nc144 Sm
  refine hJ.putR (pc := 20) dX8_init_20 nff_X8_18 rfl (by decide) ?_
  show J 23 [some (vr 8 0)] [] nw110 nl218 2 20 nc144 Sm
  refine hJ.aload_n (pc := 23) dX8_init_23 rfl ?_
  refine hJ.iconst (pc := 24) 0 dX8_init_24 (by decide) ?_
  refine hJ.pI (pc := 25) dX8_init_25 nfp_X8_22 ?_
  show J 28 [some (vr 8 0)] [] nw110 nl218 2 20 nc145 Sm
  refine hJ.aload_n (pc := 28) dX8_init_28 rfl ?_
  refine hJ.iconst (pc := 29) (-1) dX8_init_29 (by decide) ?_
  refine hJ.pI (pc := 30) dX8_init_30 nfp_X8_26 ?_
  show J 33 [some (vr 8 0)] [] nw110 nl218 2 20 nc146 Sm
  refine hJ.aload_n (pc := 33) dX8_init_33 rfl ?_
  refine hJ.iconst (pc := 34) (-1) dX8_init_34 (by decide) ?_
  refine hJ.pI (pc := 35) dX8_init_35 nfp_X8_29 ?_
  show J 38 [some (vr 8 0)] [] nw110 nl218 2 20 nc147 Sm
  exact hR.v (pc := 38) dX8_init_38
set_option maxRecDepth 100000 in
set_option maxHeartbeats 4000000 in
theorem nt_X11_init_0 {Sm : Mem} : Ct yX11_init cX11_init 1 none 3 61 109 3731 [vr 11 0] nw1 nl1 nc1 Sm none nw110 nl219 nc147 Sm := by
  refine Ct.of RX11 true (by decide) rfl (fun _ => rfl) (by decide) (fun J hJ hR => ?_)
  show J 0 [some (vr 11 0)] [] nw1 nl1 0 0 nc1 Sm
  refine hJ.aload_n (pc := 0) dX11_init_0 rfl ?_
  refine hJ.objInit (pc := 1) dX11_init_1 now_X11_1 ⟨by decide, by decide⟩ ?_
  refine hJ.aload_n (pc := 4) dX11_init_4 rfl ?_
  refine hJ.newC (pc := 5) (i := 0) dX11_init_5 nnw_X11_7 (by decide +kernel) rfl ⟨Nat.le_of_ble_eq_true rfl, Nat.le_of_ble_eq_true rfl⟩ ?_
  show J 8 [some (vr 11 0)] [vr 0 0, vr 11 0] nw2 nl2 1 11 nc2 Sm
  refine hJ.dup (pc := 8) dX11_init_8 ?_
  refine hJ.callI (pc := 9) (as := []) (rest := [vr 0 0, vr 11 0]) dX11_init_9 nlk_X11_9 rfl nnm_X0_init nt_X0_init_0 rfl ⟨Nat.le_of_ble_eq_true rfl, Nat.le_of_ble_eq_true rfl, Nat.le_of_ble_eq_true rfl, Nat.le_of_ble_eq_true rfl, by decide⟩ ?_
  show J 12 [some (vr 11 0)] [vr 0 0, vr 11 0] nw42 nl82 41 1326 nc51 Sm
  refine hJ.putR (pc := 12) dX11_init_12 nff_X11_10 rfl (by decide) ?_
  show J 15 [some (vr 11 0)] [] nw42 nl83 41 1326 nc51 Sm
  refine hJ.aload_n (pc := 15) dX11_init_15 rfl ?_
  refine hJ.newC (pc := 16) (i := 1) dX11_init_16 nnw_X11_7 (by decide +kernel) rfl ⟨Nat.le_of_ble_eq_true rfl, Nat.le_of_ble_eq_true rfl⟩ ?_
  show J 19 [some (vr 11 0)] [vr 0 1, vr 11 0] nw43 nl84 42 1337 nc52 Sm
  refine hJ.dup (pc := 19) dX11_init_19 ?_
  refine hJ.callI (pc := 20) (as := []) (rest := [vr 0 1, vr 11 0]) dX11_init_20 nlk_X11_9 rfl nnm_X0_init nt_X0_init_1 rfl ⟨Nat.le_of_ble_eq_true rfl, Nat.le_of_ble_eq_true rfl, Nat.le_of_ble_eq_true rfl, Nat.le_of_ble_eq_true rfl, by decide⟩ ?_
  show J 23 [some (vr 11 0)] [vr 0 1, vr 11 0] nw83 nl164 82 2652 nc101 Sm
  refine hJ.putR (pc := 23) dX11_init_23 nff_X11_16 rfl (by decide) ?_
  show J 26 [some (vr 11 0)] [] nw83 nl165 82 2652 nc101 Sm
  refine hJ.aload_n (pc := 26) dX11_init_26 rfl ?_
  refine hJ.iconst (pc := 27) 0 dX11_init_27 (by decide) ?_
  refine hJ.pZ (pc := 28) dX11_init_28 nfp_X11_19 (by decide) ?_
  show J 31 [some (vr 11 0)] [] nw83 nl165 82 2652 nc102 Sm
  refine hJ.aload_n (pc := 31) dX11_init_31 rfl ?_
  refine hJ.newC (pc := 32) (i := 0) dX11_init_32 nnw_X11_23 (by decide +kernel) rfl ⟨Nat.le_of_ble_eq_true rfl, Nat.le_of_ble_eq_true rfl⟩ ?_
  show J 35 [some (vr 11 0)] [vr 7 0, vr 11 0] nw84 nl166 83 2654 nc103 Sm
  refine hJ.dup (pc := 35) dX11_init_35 ?_
  refine hJ.callIN (pc := 36) (as := []) (rest := [vr 7 0, vr 11 0]) dX11_init_36 nlk_X11_25 rfl nnm_X7_init nt_X7_init_0 rfl ⟨Nat.le_of_ble_eq_true rfl, Nat.le_of_ble_eq_true rfl, Nat.le_of_ble_eq_true rfl, Nat.le_of_ble_eq_true rfl, by decide⟩ ?_
  show J 39 [some (vr 11 0)] [vr 7 0, vr 11 0] nw85 nl168 84 3054 nc105 Sm
  refine hJ.putR (pc := 39) dX11_init_39 nff_X11_26 rfl (by decide) ?_
  show J 42 [some (vr 11 0)] [] nw85 nl169 84 3054 nc105 Sm
  refine hJ.aload_n (pc := 42) dX11_init_42 rfl ?_
  refine hJ.newC (pc := 43) (i := 0) dX11_init_43 nnw_X11_30 (by decide +kernel) rfl ⟨Nat.le_of_ble_eq_true rfl, Nat.le_of_ble_eq_true rfl⟩ ?_
  show J 46 [some (vr 11 0)] [vr 4 0, vr 11 0] nw86 nl170 85 3063 nc106 Sm
  refine hJ.dup (pc := 46) dX11_init_46 ?_
  refine hJ.callIN (pc := 47) (as := []) (rest := [vr 4 0, vr 11 0]) dX11_init_47 nlk_X11_32 rfl nnm_X4_init nt_X4_init_0 rfl ⟨Nat.le_of_ble_eq_true rfl, Nat.le_of_ble_eq_true rfl, Nat.le_of_ble_eq_true rfl, Nat.le_of_ble_eq_true rfl, by decide⟩ ?_
  show J 50 [some (vr 11 0)] [vr 4 0, vr 11 0] nw94 nl186 93 3602 nc126 Sm
  refine hJ.putR (pc := 50) dX11_init_50 nff_X11_33 rfl (by decide) ?_
  show J 53 [some (vr 11 0)] [] nw94 nl187 93 3602 nc126 Sm
  refine hJ.aload_n (pc := 53) dX11_init_53 rfl ?_
  refine hJ.newC (pc := 54) (i := 0) dX11_init_54 nnw_X11_37 (by decide +kernel) rfl ⟨Nat.le_of_ble_eq_true rfl, Nat.le_of_ble_eq_true rfl⟩ ?_
  show J 57 [some (vr 11 0)] [vr 10 0, vr 11 0] nw95 nl188 94 3606 nc127 Sm
  refine hJ.dup (pc := 57) dX11_init_57 ?_
  refine hJ.callI (pc := 58) (as := []) (rest := [vr 10 0, vr 11 0]) dX11_init_58 nlk_X11_39 rfl nnm_X10_init nt_X10_init_0 rfl ⟨Nat.le_of_ble_eq_true rfl, Nat.le_of_ble_eq_true rfl, Nat.le_of_ble_eq_true rfl, Nat.le_of_ble_eq_true rfl, by decide⟩ ?_
  show J 61 [some (vr 11 0)] [vr 10 0, vr 11 0] nw107 nl212 106 3706 nc141 Sm
  refine hJ.putR (pc := 61) dX11_init_61 nff_X11_40 rfl (by decide) ?_
  show J 64 [some (vr 11 0)] [] nw107 nl213 106 3706 nc141 Sm
  refine hJ.aload_n (pc := 64) dX11_init_64 rfl ?_
  refine hJ.newC (pc := 65) (i := 0) dX11_init_65 nnw_X11_44 (by decide +kernel) rfl ⟨Nat.le_of_ble_eq_true rfl, Nat.le_of_ble_eq_true rfl⟩ ?_
  show J 68 [some (vr 11 0)] [vr 8 0, vr 11 0] nw108 nl214 107 3711 nc142 Sm
  refine hJ.dup (pc := 68) dX11_init_68 ?_
  refine hJ.callIN (pc := 69) (as := []) (rest := [vr 8 0, vr 11 0]) dX11_init_69 nlk_X11_46 rfl nnm_X8_init nt_X8_init_0 rfl ⟨Nat.le_of_ble_eq_true rfl, Nat.le_of_ble_eq_true rfl, Nat.le_of_ble_eq_true rfl, Nat.le_of_ble_eq_true rfl, by decide⟩ ?_
  show J 72 [some (vr 11 0)] [vr 8 0, vr 11 0] nw110 nl218 109 3731 nc147 Sm
  refine hJ.putR (pc := 72) dX11_init_72 nff_X11_47 rfl (by decide) ?_
  show J 75 [some (vr 11 0)] [] nw110 nl219 109 3731 nc147 Sm
  exact hR.v (pc := 75) dX11_init_75
set_option maxRecDepth 100000 in
set_option maxHeartbeats 4000000 in
theorem nt_X12_init_0 {Sc : Mem} : Ct yX12_init cX12_init 1 none 1 20 30 5378 [vr 12 0] nw111 nl220 Sc nm1 none nw141 nl280 Sc nm99 := by
  refine Ct.of RX12 true (by decide) rfl (fun _ => rfl) (by decide) (fun J hJ hR => ?_)
  show J 0 [some (vr 12 0)] [] nw111 nl220 0 0 Sc nm1
  refine hJ.aload_n (pc := 0) dX12_init_0 rfl ?_
  refine hJ.objInit (pc := 1) dX12_init_1 now_X12_1 ⟨by decide, by decide⟩ ?_
  refine hJ.aload_n (pc := 4) dX12_init_4 rfl ?_
  refine hJ.bipush (pc := 5) 12 dX12_init_5 (by decide) ?_
  refine hJ.newaM (pc := 7) (k := 60) (i := 0) dX12_init_7 (Or.inl ⟨rfl, rfl⟩) nac_0 (by decide +kernel) (by decide) rfl (Nat.le_of_ble_eq_true rfl) rfl ⟨Nat.le_of_ble_eq_true rfl, Nat.le_of_ble_eq_true rfl⟩ ?_
  show J 9 [some (vr 12 0)] [vr 60 0, vr 12 0] nw112 nl221 1 12 Sc nm2
  refine hJ.putR (pc := 9) dX12_init_9 nff_X12_7 rfl (by decide) ?_
  show J 12 [some (vr 12 0)] [] nw112 nl222 1 12 Sc nm2
  refine hJ.aload_n (pc := 12) dX12_init_12 rfl ?_
  refine hJ.bipush (pc := 13) 12 dX12_init_13 (by decide) ?_
  refine hJ.newaM (pc := 15) (k := 61) (i := 0) dX12_init_15 (Or.inl ⟨rfl, rfl⟩) nac_0 (by decide +kernel) (by decide) rfl (Nat.le_of_ble_eq_true rfl) rfl ⟨Nat.le_of_ble_eq_true rfl, Nat.le_of_ble_eq_true rfl⟩ ?_
  show J 17 [some (vr 12 0)] [vr 61 0, vr 12 0] nw113 nl223 2 24 Sc nm3
  refine hJ.putR (pc := 17) dX12_init_17 nff_X12_13 rfl (by decide) ?_
  show J 20 [some (vr 12 0)] [] nw113 nl224 2 24 Sc nm3
  refine hJ.aload_n (pc := 20) dX12_init_20 rfl ?_
  refine hJ.bipush (pc := 21) 12 dX12_init_21 (by decide) ?_
  refine hJ.newaM (pc := 23) (k := 62) (i := 0) dX12_init_23 (Or.inl ⟨rfl, rfl⟩) nac_0 (by decide +kernel) (by decide) rfl (Nat.le_of_ble_eq_true rfl) rfl ⟨Nat.le_of_ble_eq_true rfl, Nat.le_of_ble_eq_true rfl⟩ ?_
  show J 25 [some (vr 12 0)] [vr 62 0, vr 12 0] nw114 nl225 3 36 Sc nm4
  refine hJ.putR (pc := 25) dX12_init_25 nff_X12_16 rfl (by decide) ?_
  show J 28 [some (vr 12 0)] [] nw114 nl226 3 36 Sc nm4
  refine hJ.aload_n (pc := 28) dX12_init_28 rfl ?_
  refine hJ.bipush (pc := 29) 12 dX12_init_29 (by decide) ?_
  refine hJ.newaM (pc := 31) (k := 63) (i := 0) dX12_init_31 (Or.inl ⟨rfl, rfl⟩) nac_0 (by decide +kernel) (by decide) rfl (Nat.le_of_ble_eq_true rfl) rfl ⟨Nat.le_of_ble_eq_true rfl, Nat.le_of_ble_eq_true rfl⟩ ?_
  show J 33 [some (vr 12 0)] [vr 63 0, vr 12 0] nw115 nl227 4 48 Sc nm5
  refine hJ.putR (pc := 33) dX12_init_33 nff_X12_19 rfl (by decide) ?_
  show J 36 [some (vr 12 0)] [] nw115 nl228 4 48 Sc nm5
  refine hJ.aload_n (pc := 36) dX12_init_36 rfl ?_
  refine hJ.bipush (pc := 37) 12 dX12_init_37 (by decide) ?_
  refine hJ.newaM (pc := 39) (k := 64) (i := 0) dX12_init_39 (Or.inl ⟨rfl, rfl⟩) nac_0 (by decide +kernel) (by decide) rfl (Nat.le_of_ble_eq_true rfl) rfl ⟨Nat.le_of_ble_eq_true rfl, Nat.le_of_ble_eq_true rfl⟩ ?_
  show J 41 [some (vr 12 0)] [vr 64 0, vr 12 0] nw116 nl229 5 60 Sc nm6
  refine hJ.putR (pc := 41) dX12_init_41 nff_X12_22 rfl (by decide) ?_
  show J 44 [some (vr 12 0)] [] nw116 nl230 5 60 Sc nm6
  refine hJ.aload_n (pc := 44) dX12_init_44 rfl ?_
  refine hJ.bipush (pc := 45) 13 dX12_init_45 (by decide) ?_
  refine hJ.newaM (pc := 47) (k := 65) (i := 0) dX12_init_47 (Or.inl ⟨rfl, rfl⟩) nac_0 (by decide +kernel) (by decide) rfl (Nat.le_of_ble_eq_true rfl) rfl ⟨Nat.le_of_ble_eq_true rfl, Nat.le_of_ble_eq_true rfl⟩ ?_
  show J 49 [some (vr 12 0)] [vr 65 0, vr 12 0] nw117 nl231 6 73 Sc nm7
  refine hJ.putR (pc := 49) dX12_init_49 nff_X12_25 rfl (by decide) ?_
  show J 52 [some (vr 12 0)] [] nw117 nl232 6 73 Sc nm7
  refine hJ.aload_n (pc := 52) dX12_init_52 rfl ?_
  refine hJ.bipush (pc := 53) 13 dX12_init_53 (by decide) ?_
  refine hJ.newaM (pc := 55) (k := 66) (i := 0) dX12_init_55 (Or.inl ⟨rfl, rfl⟩) nac_0 (by decide +kernel) (by decide) rfl (Nat.le_of_ble_eq_true rfl) rfl ⟨Nat.le_of_ble_eq_true rfl, Nat.le_of_ble_eq_true rfl⟩ ?_
  show J 57 [some (vr 12 0)] [vr 66 0, vr 12 0] nw118 nl233 7 86 Sc nm8
  refine hJ.putR (pc := 57) dX12_init_57 nff_X12_28 rfl (by decide) ?_
  show J 60 [some (vr 12 0)] [] nw118 nl234 7 86 Sc nm8
  refine hJ.aload_n (pc := 60) dX12_init_60 rfl ?_
  refine hJ.bipush (pc := 61) 13 dX12_init_61 (by decide) ?_
  refine hJ.newaM (pc := 63) (k := 67) (i := 0) dX12_init_63 (Or.inl ⟨rfl, rfl⟩) nac_0 (by decide +kernel) (by decide) rfl (Nat.le_of_ble_eq_true rfl) rfl ⟨Nat.le_of_ble_eq_true rfl, Nat.le_of_ble_eq_true rfl⟩ ?_
  show J 65 [some (vr 12 0)] [vr 67 0, vr 12 0] nw119 nl235 8 99 Sc nm9
  refine hJ.putR (pc := 65) dX12_init_65 nff_X12_31 rfl (by decide) ?_
  show J 68 [some (vr 12 0)] [] nw119 nl236 8 99 Sc nm9
  refine hJ.aload_n (pc := 68) dX12_init_68 rfl ?_
  refine hJ.bipush (pc := 69) 13 dX12_init_69 (by decide) ?_
  refine hJ.newaM (pc := 71) (k := 68) (i := 0) dX12_init_71 (Or.inl ⟨rfl, rfl⟩) nac_0 (by decide +kernel) (by decide) rfl (Nat.le_of_ble_eq_true rfl) rfl ⟨Nat.le_of_ble_eq_true rfl, Nat.le_of_ble_eq_true rfl⟩ ?_
  show J 73 [some (vr 12 0)] [vr 68 0, vr 12 0] nw120 nl237 9 112 Sc nm10
  refine hJ.putR (pc := 73) dX12_init_73 nff_X12_34 rfl (by decide) ?_
  show J 76 [some (vr 12 0)] [] nw120 nl238 9 112 Sc nm10
  refine hJ.aload_n (pc := 76) dX12_init_76 rfl ?_
  refine hJ.bipush (pc := 77) 13 dX12_init_77 (by decide) ?_
  refine hJ.newaM (pc := 79) (k := 69) (i := 0) dX12_init_79 (Or.inl ⟨rfl, rfl⟩) nac_0 (by decide +kernel) (by decide) rfl (Nat.le_of_ble_eq_true rfl) rfl ⟨Nat.le_of_ble_eq_true rfl, Nat.le_of_ble_eq_true rfl⟩ ?_
  show J 81 [some (vr 12 0)] [vr 69 0, vr 12 0] nw121 nl239 10 125 Sc nm11
  refine hJ.putR (pc := 81) dX12_init_81 nff_X12_37 rfl (by decide) ?_
  show J 84 [some (vr 12 0)] [] nw121 nl240 10 125 Sc nm11
  refine hJ.aload_n (pc := 84) dX12_init_84 rfl ?_
  refine hJ.bipush (pc := 85) 13 dX12_init_85 (by decide) ?_
  refine hJ.newaM (pc := 87) (k := 70) (i := 0) dX12_init_87 (Or.inl ⟨rfl, rfl⟩) nac_0 (by decide +kernel) (by decide) rfl (Nat.le_of_ble_eq_true rfl) rfl ⟨Nat.le_of_ble_eq_true rfl, Nat.le_of_ble_eq_true rfl⟩ ?_
  show J 89 [some (vr 12 0)] [vr 70 0, vr 12 0] nw122 nl241 11 138 Sc nm12
  refine hJ.putR (pc := 89) dX12_init_89 nff_X12_40 rfl (by decide) ?_
  show J 92 [some (vr 12 0)] [] nw122 nl242 11 138 Sc nm12
  refine hJ.aload_n (pc := 92) dX12_init_92 rfl ?_
  refine hJ.bipush (pc := 93) 12 dX12_init_93 (by decide) ?_
  refine hJ.newaM (pc := 95) (k := 71) (i := 0) dX12_init_95 (Or.inl ⟨rfl, rfl⟩) nac_0 (by decide +kernel) (by decide) rfl (Nat.le_of_ble_eq_true rfl) rfl ⟨Nat.le_of_ble_eq_true rfl, Nat.le_of_ble_eq_true rfl⟩ ?_
  show J 97 [some (vr 12 0)] [vr 71 0, vr 12 0] nw123 nl243 12 150 Sc nm13
  refine hJ.putR (pc := 97) dX12_init_97 nff_X12_43 rfl (by decide) ?_
  show J 100 [some (vr 12 0)] [] nw123 nl244 12 150 Sc nm13
  refine hJ.aload_n (pc := 100) dX12_init_100 rfl ?_
  refine hJ.sipush (pc := 101) 600 dX12_init_101 (by decide) ?_
  refine hJ.newaM (pc := 104) (k := 72) (i := 0) dX12_init_104 (Or.inl ⟨rfl, rfl⟩) nac_0 (by decide +kernel) (by decide) rfl (Nat.le_of_ble_eq_true rfl) rfl ⟨Nat.le_of_ble_eq_true rfl, Nat.le_of_ble_eq_true rfl⟩ ?_
  show J 106 [some (vr 12 0)] [vr 72 0, vr 12 0] nw124 nl245 13 750 Sc nm14
  refine hJ.putR (pc := 106) dX12_init_106 nff_X12_46 rfl (by decide) ?_
  show J 109 [some (vr 12 0)] [] nw124 nl246 13 750 Sc nm14
  refine hJ.aload_n (pc := 109) dX12_init_109 rfl ?_
  refine hJ.sipush (pc := 110) 400 dX12_init_110 (by decide) ?_
  refine hJ.newaM (pc := 113) (k := 73) (i := 0) dX12_init_113 (Or.inl ⟨rfl, rfl⟩) nac_0 (by decide +kernel) (by decide) rfl (Nat.le_of_ble_eq_true rfl) rfl ⟨Nat.le_of_ble_eq_true rfl, Nat.le_of_ble_eq_true rfl⟩ ?_
  show J 115 [some (vr 12 0)] [vr 73 0, vr 12 0] nw125 nl247 14 1150 Sc nm15
  refine hJ.putR (pc := 115) dX12_init_115 nff_X12_49 rfl (by decide) ?_
  show J 118 [some (vr 12 0)] [] nw125 nl248 14 1150 Sc nm15
  refine hJ.aload_n (pc := 118) dX12_init_118 rfl ?_
  refine hJ.bipush (pc := 119) 67 dX12_init_119 (by decide) ?_
  refine hJ.newaM (pc := 121) (k := 74) (i := 0) dX12_init_121 (Or.inl ⟨rfl, rfl⟩) nac_0 (by decide +kernel) (by decide) rfl (Nat.le_of_ble_eq_true rfl) rfl ⟨Nat.le_of_ble_eq_true rfl, Nat.le_of_ble_eq_true rfl⟩ ?_
  show J 123 [some (vr 12 0)] [vr 74 0, vr 12 0] nw126 nl249 15 1217 Sc nm16
  refine hJ.dup (pc := 123) dX12_init_123 ?_
  refine hJ.iconst (pc := 124) 0 dX12_init_124 (by decide) ?_
  refine hJ.bipush (pc := 125) 32 dX12_init_125 (by decide) ?_
  refine hJ.siastM (pc := 127) dX12_init_127 al_74 (show ix 0 67 = some 0 by decide) ?_
  show J 128 [some (vr 12 0)] [vr 74 0, vr 12 0] nw126 nl249 15 1217 Sc nm17
  refine hJ.dup (pc := 128) dX12_init_128 ?_
  refine hJ.iconst (pc := 129) 1 dX12_init_129 (by decide) ?_
  refine hJ.bipush (pc := 130) 97 dX12_init_130 (by decide) ?_
  refine hJ.siastM (pc := 132) dX12_init_132 al_74 (show ix 1 67 = some 1 by decide) ?_
  show J 133 [some (vr 12 0)] [vr 74 0, vr 12 0] nw126 nl249 15 1217 Sc nm18
  refine hJ.dup (pc := 133) dX12_init_133 ?_
  refine hJ.iconst (pc := 134) 2 dX12_init_134 (by decide) ?_
  refine hJ.bipush (pc := 135) 103 dX12_init_135 (by decide) ?_
  refine hJ.siastM (pc := 137) dX12_init_137 al_74 (show ix 2 67 = some 2 by decide) ?_
  show J 138 [some (vr 12 0)] [vr 74 0, vr 12 0] nw126 nl249 15 1217 Sc nm19
  refine hJ.dup (pc := 138) dX12_init_138 ?_
  refine hJ.iconst (pc := 139) 3 dX12_init_139 (by decide) ?_
  refine hJ.bipush (pc := 140) 101 dX12_init_140 (by decide) ?_
  refine hJ.siastM (pc := 142) dX12_init_142 al_74 (show ix 3 67 = some 3 by decide) ?_
  show J 143 [some (vr 12 0)] [vr 74 0, vr 12 0] nw126 nl249 15 1217 Sc nm20
  refine hJ.dup (pc := 143) dX12_init_143 ?_
  refine hJ.iconst (pc := 144) 4 dX12_init_144 (by decide) ?_
  refine hJ.bipush (pc := 145) 32 dX12_init_145 (by decide) ?_
  refine hJ.siastM (pc := 147) dX12_init_147 al_74 (show ix 4 67 = some 4 by decide) ?_
  show J 148 [some (vr 12 0)] [vr 74 0, vr 12 0] nw126 nl249 15 1217 Sc nm21
  refine hJ.dup (pc := 148) dX12_init_148 ?_
  refine hJ.iconst (pc := 149) 5 dX12_init_149 (by decide) ?_
  refine hJ.bipush (pc := 150) 119 dX12_init_150 (by decide) ?_
  refine hJ.siastM (pc := 152) dX12_init_152 al_74 (show ix 5 67 = some 5 by decide) ?_
  show J 153 [some (vr 12 0)] [vr 74 0, vr 12 0] nw126 nl249 15 1217 Sc nm22
  refine hJ.dup (pc := 153) dX12_init_153 ?_
  refine hJ.bipush (pc := 154) 6 dX12_init_154 (by decide) ?_
  refine hJ.bipush (pc := 156) 104 dX12_init_156 (by decide) ?_
  refine hJ.siastM (pc := 158) dX12_init_158 al_74 (show ix 6 67 = some 6 by decide) ?_
  show J 159 [some (vr 12 0)] [vr 74 0, vr 12 0] nw126 nl249 15 1217 Sc nm23
  refine hJ.dup (pc := 159) dX12_init_159 ?_
  refine hJ.bipush (pc := 160) 7 dX12_init_160 (by decide) ?_
  refine hJ.bipush (pc := 162) 101 dX12_init_162 (by decide) ?_
  refine hJ.siastM (pc := 164) dX12_init_164 al_74 (show ix 7 67 = some 7 by decide) ?_
  show J 165 [some (vr 12 0)] [vr 74 0, vr 12 0] nw126 nl249 15 1217 Sc nm24
  refine hJ.dup (pc := 165) dX12_init_165 ?_
  refine hJ.bipush (pc := 166) 8 dX12_init_166 (by decide) ?_
  refine hJ.bipush (pc := 168) 110 dX12_init_168 (by decide) ?_
  refine hJ.siastM (pc := 170) dX12_init_170 al_74 (show ix 8 67 = some 8 by decide) ?_
  show J 171 [some (vr 12 0)] [vr 74 0, vr 12 0] nw126 nl249 15 1217 Sc nm25
  refine hJ.dup (pc := 171) dX12_init_171 ?_
  refine hJ.bipush (pc := 172) 9 dX12_init_172 (by decide) ?_
  refine hJ.bipush (pc := 174) 32 dX12_init_174 (by decide) ?_
  refine hJ.siastM (pc := 176) dX12_init_176 al_74 (show ix 9 67 = some 9 by decide) ?_
  show J 177 [some (vr 12 0)] [vr 74 0, vr 12 0] nw126 nl249 15 1217 Sc nm26
  refine hJ.dup (pc := 177) dX12_init_177 ?_
  refine hJ.bipush (pc := 178) 10 dX12_init_178 (by decide) ?_
  refine hJ.bipush (pc := 180) 111 dX12_init_180 (by decide) ?_
  refine hJ.siastM (pc := 182) dX12_init_182 al_74 (show ix 10 67 = some 10 by decide) ?_
  show J 183 [some (vr 12 0)] [vr 74 0, vr 12 0] nw126 nl249 15 1217 Sc nm27
  refine hJ.dup (pc := 183) dX12_init_183 ?_
  refine hJ.bipush (pc := 184) 11 dX12_init_184 (by decide) ?_
  refine hJ.bipush (pc := 186) 114 dX12_init_186 (by decide) ?_
  refine hJ.siastM (pc := 188) dX12_init_188 al_74 (show ix 11 67 = some 11 by decide) ?_
  show J 189 [some (vr 12 0)] [vr 74 0, vr 12 0] nw126 nl249 15 1217 Sc nm28
  refine hJ.dup (pc := 189) dX12_init_189 ?_
  refine hJ.bipush (pc := 190) 12 dX12_init_190 (by decide) ?_
  refine hJ.bipush (pc := 192) 32 dX12_init_192 (by decide) ?_
  refine hJ.siastM (pc := 194) dX12_init_194 al_74 (show ix 12 67 = some 12 by decide) ?_
  show J 195 [some (vr 12 0)] [vr 74 0, vr 12 0] nw126 nl249 15 1217 Sc nm29
  refine hJ.dup (pc := 195) dX12_init_195 ?_
  refine hJ.bipush (pc := 196) 13 dX12_init_196 (by decide) ?_
  refine hJ.bipush (pc := 198) 97 dX12_init_198 (by decide) ?_
  refine hJ.siastM (pc := 200) dX12_init_200 al_74 (show ix 13 67 = some 13 by decide) ?_
  show J 201 [some (vr 12 0)] [vr 74 0, vr 12 0] nw126 nl249 15 1217 Sc nm30
  refine hJ.dup (pc := 201) dX12_init_201 ?_
  refine hJ.bipush (pc := 202) 14 dX12_init_202 (by decide) ?_
  refine hJ.bipush (pc := 204) 110 dX12_init_204 (by decide) ?_
  refine hJ.siastM (pc := 206) dX12_init_206 al_74 (show ix 14 67 = some 14 by decide) ?_
  show J 207 [some (vr 12 0)] [vr 74 0, vr 12 0] nw126 nl249 15 1217 Sc nm31
  refine hJ.dup (pc := 207) dX12_init_207 ?_
  refine hJ.bipush (pc := 208) 15 dX12_init_208 (by decide) ?_
  refine hJ.bipush (pc := 210) 100 dX12_init_210 (by decide) ?_
  refine hJ.siastM (pc := 212) dX12_init_212 al_74 (show ix 15 67 = some 15 by decide) ?_
  show J 213 [some (vr 12 0)] [vr 74 0, vr 12 0] nw126 nl249 15 1217 Sc nm32
  refine hJ.dup (pc := 213) dX12_init_213 ?_
  refine hJ.bipush (pc := 214) 16 dX12_init_214 (by decide) ?_
  refine hJ.bipush (pc := 216) 32 dX12_init_216 (by decide) ?_
  refine hJ.siastM (pc := 218) dX12_init_218 al_74 (show ix 16 67 = some 16 by decide) ?_
  show J 219 [some (vr 12 0)] [vr 74 0, vr 12 0] nw126 nl249 15 1217 Sc nm33
  refine hJ.dup (pc := 219) dX12_init_219 ?_
  refine hJ.bipush (pc := 220) 17 dX12_init_220 (by decide) ?_
  refine hJ.bipush (pc := 222) 110 dX12_init_222 (by decide) ?_
  refine hJ.siastM (pc := 224) dX12_init_224 al_74 (show ix 17 67 = some 17 by decide) ?_
  show J 225 [some (vr 12 0)] [vr 74 0, vr 12 0] nw126 nl249 15 1217 Sc nm34
  refine hJ.dup (pc := 225) dX12_init_225 ?_
  refine hJ.bipush (pc := 226) 18 dX12_init_226 (by decide) ?_
  refine hJ.bipush (pc := 228) 111 dX12_init_228 (by decide) ?_
  refine hJ.siastM (pc := 230) dX12_init_230 al_74 (show ix 18 67 = some 18 by decide) ?_
  show J 231 [some (vr 12 0)] [vr 74 0, vr 12 0] nw126 nl249 15 1217 Sc nm35
  refine hJ.dup (pc := 231) dX12_init_231 ?_
  refine hJ.bipush (pc := 232) 19 dX12_init_232 (by decide) ?_
  refine hJ.bipush (pc := 234) 116 dX12_init_234 (by decide) ?_
  refine hJ.siastM (pc := 236) dX12_init_236 al_74 (show ix 19 67 = some 19 by decide) ?_
  show J 237 [some (vr 12 0)] [vr 74 0, vr 12 0] nw126 nl249 15 1217 Sc nm36
  refine hJ.dup (pc := 237) dX12_init_237 ?_
  refine hJ.bipush (pc := 238) 20 dX12_init_238 (by decide) ?_
  refine hJ.bipush (pc := 240) 32 dX12_init_240 (by decide) ?_
  refine hJ.siastM (pc := 242) dX12_init_242 al_74 (show ix 20 67 = some 20 by decide) ?_
  show J 243 [some (vr 12 0)] [vr 74 0, vr 12 0] nw126 nl249 15 1217 Sc nm37
  refine hJ.dup (pc := 243) dX12_init_243 ?_
  refine hJ.bipush (pc := 244) 21 dX12_init_244 (by decide) ?_
  refine hJ.bipush (pc := 246) 116 dX12_init_246 (by decide) ?_
  refine hJ.siastM (pc := 248) dX12_init_248 al_74 (show ix 21 67 = some 21 by decide) ?_
  show J 249 [some (vr 12 0)] [vr 74 0, vr 12 0] nw126 nl249 15 1217 Sc nm38
  refine hJ.dup (pc := 249) dX12_init_249 ?_
  refine hJ.bipush (pc := 250) 22 dX12_init_250 (by decide) ?_
  refine hJ.bipush (pc := 252) 104 dX12_init_252 (by decide) ?_
  refine hJ.siastM (pc := 254) dX12_init_254 al_74 (show ix 22 67 = some 22 by decide) ?_
  show J 255 [some (vr 12 0)] [vr 74 0, vr 12 0] nw126 nl249 15 1217 Sc nm39
  refine hJ.dup (pc := 255) dX12_init_255 ?_
  refine hJ.bipush (pc := 256) 23 dX12_init_256 (by decide) ?_
  refine hJ.bipush (pc := 258) 101 dX12_init_258 (by decide) ?_
  refine hJ.siastM (pc := 260) dX12_init_260 al_74 (show ix 23 67 = some 23 by decide) ?_
  show J 261 [some (vr 12 0)] [vr 74 0, vr 12 0] nw126 nl249 15 1217 Sc nm40
  refine hJ.dup (pc := 261) dX12_init_261 ?_
  refine hJ.bipush (pc := 262) 24 dX12_init_262 (by decide) ?_
  refine hJ.bipush (pc := 264) 110 dX12_init_264 (by decide) ?_
  refine hJ.siastM (pc := 266) dX12_init_266 al_74 (show ix 24 67 = some 24 by decide) ?_
  show J 267 [some (vr 12 0)] [vr 74 0, vr 12 0] nw126 nl249 15 1217 Sc nm41
  refine hJ.dup (pc := 267) dX12_init_267 ?_
  refine hJ.bipush (pc := 268) 25 dX12_init_268 (by decide) ?_
  refine hJ.bipush (pc := 270) 32 dX12_init_270 (by decide) ?_
  refine hJ.siastM (pc := 272) dX12_init_272 al_74 (show ix 25 67 = some 25 by decide) ?_
  show J 273 [some (vr 12 0)] [vr 74 0, vr 12 0] nw126 nl249 15 1217 Sc nm42
  refine hJ.dup (pc := 273) dX12_init_273 ?_
  refine hJ.bipush (pc := 274) 26 dX12_init_274 (by decide) ?_
  refine hJ.bipush (pc := 276) 110 dX12_init_276 (by decide) ?_
  refine hJ.siastM (pc := 278) dX12_init_278 al_74 (show ix 26 67 = some 26 by decide) ?_
  show J 279 [some (vr 12 0)] [vr 74 0, vr 12 0] nw126 nl249 15 1217 Sc nm43
  refine hJ.dup (pc := 279) dX12_init_279 ?_
  refine hJ.bipush (pc := 280) 27 dX12_init_280 (by decide) ?_
  refine hJ.bipush (pc := 282) 111 dX12_init_282 (by decide) ?_
  refine hJ.siastM (pc := 284) dX12_init_284 al_74 (show ix 27 67 = some 27 by decide) ?_
  show J 285 [some (vr 12 0)] [vr 74 0, vr 12 0] nw126 nl249 15 1217 Sc nm44
  refine hJ.dup (pc := 285) dX12_init_285 ?_
  refine hJ.bipush (pc := 286) 28 dX12_init_286 (by decide) ?_
  refine hJ.bipush (pc := 288) 119 dX12_init_288 (by decide) ?_
  refine hJ.siastM (pc := 290) dX12_init_290 al_74 (show ix 28 67 = some 28 by decide) ?_
  show J 291 [some (vr 12 0)] [vr 74 0, vr 12 0] nw126 nl249 15 1217 Sc nm45
  refine hJ.dup (pc := 291) dX12_init_291 ?_
  refine hJ.bipush (pc := 292) 29 dX12_init_292 (by decide) ?_
  refine hJ.bipush (pc := 294) 32 dX12_init_294 (by decide) ?_
  refine hJ.siastM (pc := 296) dX12_init_296 al_74 (show ix 29 67 = some 29 by decide) ?_
  show J 297 [some (vr 12 0)] [vr 74 0, vr 12 0] nw126 nl249 15 1217 Sc nm46
  refine hJ.dup (pc := 297) dX12_init_297 ?_
  refine hJ.bipush (pc := 298) 30 dX12_init_298 (by decide) ?_
  refine hJ.bipush (pc := 300) 100 dX12_init_300 (by decide) ?_
  refine hJ.siastM (pc := 302) dX12_init_302 al_74 (show ix 30 67 = some 30 by decide) ?_
  show J 303 [some (vr 12 0)] [vr 74 0, vr 12 0] nw126 nl249 15 1217 Sc nm47
  refine hJ.dup (pc := 303) dX12_init_303 ?_
  refine hJ.bipush (pc := 304) 31 dX12_init_304 (by decide) ?_
  refine hJ.bipush (pc := 306) 117 dX12_init_306 (by decide) ?_
  refine hJ.siastM (pc := 308) dX12_init_308 al_74 (show ix 31 67 = some 31 by decide) ?_
  show J 309 [some (vr 12 0)] [vr 74 0, vr 12 0] nw126 nl249 15 1217 Sc nm48
  refine hJ.dup (pc := 309) dX12_init_309 ?_
  refine hJ.bipush (pc := 310) 32 dX12_init_310 (by decide) ?_
  refine hJ.bipush (pc := 312) 115 dX12_init_312 (by decide) ?_
  refine hJ.siastM (pc := 314) dX12_init_314 al_74 (show ix 32 67 = some 32 by decide) ?_
  show J 315 [some (vr 12 0)] [vr 74 0, vr 12 0] nw126 nl249 15 1217 Sc nm49
  refine hJ.dup (pc := 315) dX12_init_315 ?_
  refine hJ.bipush (pc := 316) 33 dX12_init_316 (by decide) ?_
  refine hJ.bipush (pc := 318) 116 dX12_init_318 (by decide) ?_
  refine hJ.siastM (pc := 320) dX12_init_320 al_74 (show ix 33 67 = some 33 by decide) ?_
  show J 321 [some (vr 12 0)] [vr 74 0, vr 12 0] nw126 nl249 15 1217 Sc nm50
  refine hJ.dup (pc := 321) dX12_init_321 ?_
  refine hJ.bipush (pc := 322) 34 dX12_init_322 (by decide) ?_
  refine hJ.bipush (pc := 324) 32 dX12_init_324 (by decide) ?_
  refine hJ.siastM (pc := 326) dX12_init_326 al_74 (show ix 34 67 = some 34 by decide) ?_
  show J 327 [some (vr 12 0)] [vr 74 0, vr 12 0] nw126 nl249 15 1217 Sc nm51
  refine hJ.dup (pc := 327) dX12_init_327 ?_
  refine hJ.bipush (pc := 328) 35 dX12_init_328 (by decide) ?_
  refine hJ.bipush (pc := 330) 111 dX12_init_330 (by decide) ?_
  refine hJ.siastM (pc := 332) dX12_init_332 al_74 (show ix 35 67 = some 35 by decide) ?_
  show J 333 [some (vr 12 0)] [vr 74 0, vr 12 0] nw126 nl249 15 1217 Sc nm52
  refine hJ.dup (pc := 333) dX12_init_333 ?_
  refine hJ.bipush (pc := 334) 36 dX12_init_334 (by decide) ?_
  refine hJ.bipush (pc := 336) 119 dX12_init_336 (by decide) ?_
  refine hJ.siastM (pc := 338) dX12_init_338 al_74 (show ix 36 67 = some 36 by decide) ?_
  show J 339 [some (vr 12 0)] [vr 74 0, vr 12 0] nw126 nl249 15 1217 Sc nm53
  refine hJ.dup (pc := 339) dX12_init_339 ?_
  refine hJ.bipush (pc := 340) 37 dX12_init_340 (by decide) ?_
  refine hJ.bipush (pc := 342) 110 dX12_init_342 (by decide) ?_
  refine hJ.siastM (pc := 344) dX12_init_344 al_74 (show ix 37 67 = some 37 by decide) ?_
  show J 345 [some (vr 12 0)] [vr 74 0, vr 12 0] nw126 nl249 15 1217 Sc nm54
  refine hJ.dup (pc := 345) dX12_init_345 ?_
  refine hJ.bipush (pc := 346) 38 dX12_init_346 (by decide) ?_
  refine hJ.bipush (pc := 348) 32 dX12_init_348 (by decide) ?_
  refine hJ.siastM (pc := 350) dX12_init_350 al_74 (show ix 38 67 = some 38 by decide) ?_
  show J 351 [some (vr 12 0)] [vr 74 0, vr 12 0] nw126 nl249 15 1217 Sc nm55
  refine hJ.dup (pc := 351) dX12_init_351 ?_
  refine hJ.bipush (pc := 352) 39 dX12_init_352 (by decide) ?_
  refine hJ.bipush (pc := 354) 114 dX12_init_354 (by decide) ?_
  refine hJ.siastM (pc := 356) dX12_init_356 al_74 (show ix 39 67 = some 39 by decide) ?_
  show J 357 [some (vr 12 0)] [vr 74 0, vr 12 0] nw126 nl249 15 1217 Sc nm56
  refine hJ.dup (pc := 357) dX12_init_357 ?_
  refine hJ.bipush (pc := 358) 40 dX12_init_358 (by decide) ?_
  refine hJ.bipush (pc := 360) 101 dX12_init_360 (by decide) ?_
  refine hJ.siastM (pc := 362) dX12_init_362 al_74 (show ix 40 67 = some 40 by decide) ?_
  show J 363 [some (vr 12 0)] [vr 74 0, vr 12 0] nw126 nl249 15 1217 Sc nm57
  refine hJ.dup (pc := 363) dX12_init_363 ?_
  refine hJ.bipush (pc := 364) 41 dX12_init_364 (by decide) ?_
  refine hJ.bipush (pc := 366) 97 dX12_init_366 (by decide) ?_
  refine hJ.siastM (pc := 368) dX12_init_368 al_74 (show ix 41 67 = some 41 by decide) ?_
  show J 369 [some (vr 12 0)] [vr 74 0, vr 12 0] nw126 nl249 15 1217 Sc nm58
  refine hJ.dup (pc := 369) dX12_init_369 ?_
  refine hJ.bipush (pc := 370) 42 dX12_init_370 (by decide) ?_
  refine hJ.bipush (pc := 372) 100 dX12_init_372 (by decide) ?_
  refine hJ.siastM (pc := 374) dX12_init_374 al_74 (show ix 42 67 = some 42 by decide) ?_
  show J 375 [some (vr 12 0)] [vr 74 0, vr 12 0] nw126 nl249 15 1217 Sc nm59
  refine hJ.dup (pc := 375) dX12_init_375 ?_
  refine hJ.bipush (pc := 376) 43 dX12_init_376 (by decide) ?_
  refine hJ.bipush (pc := 378) 32 dX12_init_378 (by decide) ?_
  refine hJ.siastM (pc := 380) dX12_init_380 al_74 (show ix 43 67 = some 43 by decide) ?_
  show J 381 [some (vr 12 0)] [vr 74 0, vr 12 0] nw126 nl249 15 1217 Sc nm60
  refine hJ.dup (pc := 381) dX12_init_381 ?_
  refine hJ.bipush (pc := 382) 44 dX12_init_382 (by decide) ?_
  refine hJ.bipush (pc := 384) 115 dX12_init_384 (by decide) ?_
  refine hJ.siastM (pc := 386) dX12_init_386 al_74 (show ix 44 67 = some 44 by decide) ?_
  show J 387 [some (vr 12 0)] [vr 74 0, vr 12 0] nw126 nl249 15 1217 Sc nm61
  refine hJ.dup (pc := 387) dX12_init_387 ?_
  refine hJ.bipush (pc := 388) 45 dX12_init_388 (by decide) ?_
  refine hJ.bipush (pc := 390) 104 dX12_init_390 (by decide) ?_
  refine hJ.siastM (pc := 392) dX12_init_392 al_74 (show ix 45 67 = some 45 by decide) ?_
  show J 393 [some (vr 12 0)] [vr 74 0, vr 12 0] nw126 nl249 15 1217 Sc nm62
  refine hJ.dup (pc := 393) dX12_init_393 ?_
  refine hJ.bipush (pc := 394) 46 dX12_init_394 (by decide) ?_
  refine hJ.bipush (pc := 396) 101 dX12_init_396 (by decide) ?_
  refine hJ.siastM (pc := 398) dX12_init_398 al_74 (show ix 46 67 = some 46 by decide) ?_
  show J 399 [some (vr 12 0)] [vr 74 0, vr 12 0] nw126 nl249 15 1217 Sc nm63
  refine hJ.dup (pc := 399) dX12_init_399 ?_
  refine hJ.bipush (pc := 400) 47 dX12_init_400 (by decide) ?_
  refine hJ.bipush (pc := 402) 108 dX12_init_402 (by decide) ?_
  refine hJ.siastM (pc := 404) dX12_init_404 al_74 (show ix 47 67 = some 47 by decide) ?_
  show J 405 [some (vr 12 0)] [vr 74 0, vr 12 0] nw126 nl249 15 1217 Sc nm64
  refine hJ.dup (pc := 405) dX12_init_405 ?_
  refine hJ.bipush (pc := 406) 48 dX12_init_406 (by decide) ?_
  refine hJ.bipush (pc := 408) 102 dX12_init_408 (by decide) ?_
  refine hJ.siastM (pc := 410) dX12_init_410 al_74 (show ix 48 67 = some 48 by decide) ?_
  show J 411 [some (vr 12 0)] [vr 74 0, vr 12 0] nw126 nl249 15 1217 Sc nm65
  refine hJ.dup (pc := 411) dX12_init_411 ?_
  refine hJ.bipush (pc := 412) 49 dX12_init_412 (by decide) ?_
  refine hJ.bipush (pc := 414) 32 dX12_init_414 (by decide) ?_
  refine hJ.siastM (pc := 416) dX12_init_416 al_74 (show ix 49 67 = some 49 by decide) ?_
  show J 417 [some (vr 12 0)] [vr 74 0, vr 12 0] nw126 nl249 15 1217 Sc nm66
  refine hJ.dup (pc := 417) dX12_init_417 ?_
  refine hJ.bipush (pc := 418) 50 dX12_init_418 (by decide) ?_
  refine hJ.bipush (pc := 420) 107 dX12_init_420 (by decide) ?_
  refine hJ.siastM (pc := 422) dX12_init_422 al_74 (show ix 50 67 = some 50 by decide) ?_
  show J 423 [some (vr 12 0)] [vr 74 0, vr 12 0] nw126 nl249 15 1217 Sc nm67
  refine hJ.dup (pc := 423) dX12_init_423 ?_
  refine hJ.bipush (pc := 424) 51 dX12_init_424 (by decide) ?_
  refine hJ.bipush (pc := 426) 105 dX12_init_426 (by decide) ?_
  refine hJ.siastM (pc := 428) dX12_init_428 al_74 (show ix 51 67 = some 51 by decide) ?_
  show J 429 [some (vr 12 0)] [vr 74 0, vr 12 0] nw126 nl249 15 1217 Sc nm68
  refine hJ.dup (pc := 429) dX12_init_429 ?_
  refine hJ.bipush (pc := 430) 52 dX12_init_430 (by decide) ?_
  refine hJ.bipush (pc := 432) 110 dX12_init_432 (by decide) ?_
  refine hJ.siastM (pc := 434) dX12_init_434 al_74 (show ix 52 67 = some 52 by decide) ?_
  show J 435 [some (vr 12 0)] [vr 74 0, vr 12 0] nw126 nl249 15 1217 Sc nm69
  refine hJ.dup (pc := 435) dX12_init_435 ?_
  refine hJ.bipush (pc := 436) 53 dX12_init_436 (by decide) ?_
  refine hJ.bipush (pc := 438) 100 dX12_init_438 (by decide) ?_
  refine hJ.siastM (pc := 440) dX12_init_440 al_74 (show ix 53 67 = some 53 by decide) ?_
  show J 441 [some (vr 12 0)] [vr 74 0, vr 12 0] nw126 nl249 15 1217 Sc nm70
  refine hJ.dup (pc := 441) dX12_init_441 ?_
  refine hJ.bipush (pc := 442) 54 dX12_init_442 (by decide) ?_
  refine hJ.bipush (pc := 444) 32 dX12_init_444 (by decide) ?_
  refine hJ.siastM (pc := 446) dX12_init_446 al_74 (show ix 54 67 = some 54 by decide) ?_
  show J 447 [some (vr 12 0)] [vr 74 0, vr 12 0] nw126 nl249 15 1217 Sc nm71
  refine hJ.dup (pc := 447) dX12_init_447 ?_
  refine hJ.bipush (pc := 448) 55 dX12_init_448 (by decide) ?_
  refine hJ.bipush (pc := 450) 97 dX12_init_450 (by decide) ?_
  refine hJ.siastM (pc := 452) dX12_init_452 al_74 (show ix 55 67 = some 55 by decide) ?_
  show J 453 [some (vr 12 0)] [vr 74 0, vr 12 0] nw126 nl249 15 1217 Sc nm72
  refine hJ.dup (pc := 453) dX12_init_453 ?_
  refine hJ.bipush (pc := 454) 56 dX12_init_454 (by decide) ?_
  refine hJ.bipush (pc := 456) 108 dX12_init_456 (by decide) ?_
  refine hJ.siastM (pc := 458) dX12_init_458 al_74 (show ix 56 67 = some 56 by decide) ?_
  show J 459 [some (vr 12 0)] [vr 74 0, vr 12 0] nw126 nl249 15 1217 Sc nm73
  refine hJ.dup (pc := 459) dX12_init_459 ?_
  refine hJ.bipush (pc := 460) 57 dX12_init_460 (by decide) ?_
  refine hJ.bipush (pc := 462) 105 dX12_init_462 (by decide) ?_
  refine hJ.siastM (pc := 464) dX12_init_464 al_74 (show ix 57 67 = some 57 by decide) ?_
  show J 465 [some (vr 12 0)] [vr 74 0, vr 12 0] nw126 nl249 15 1217 Sc nm74
  refine hJ.dup (pc := 465) dX12_init_465 ?_
  refine hJ.bipush (pc := 466) 58 dX12_init_466 (by decide) ?_
  refine hJ.bipush (pc := 468) 118 dX12_init_468 (by decide) ?_
  refine hJ.siastM (pc := 470) dX12_init_470 al_74 (show ix 58 67 = some 58 by decide) ?_
  show J 471 [some (vr 12 0)] [vr 74 0, vr 12 0] nw126 nl249 15 1217 Sc nm75
  refine hJ.dup (pc := 471) dX12_init_471 ?_
  refine hJ.bipush (pc := 472) 59 dX12_init_472 (by decide) ?_
  refine hJ.bipush (pc := 474) 101 dX12_init_474 (by decide) ?_
  refine hJ.siastM (pc := 476) dX12_init_476 al_74 (show ix 59 67 = some 59 by decide) ?_
  show J 477 [some (vr 12 0)] [vr 74 0, vr 12 0] nw126 nl249 15 1217 Sc nm76
  refine hJ.dup (pc := 477) dX12_init_477 ?_
  refine hJ.bipush (pc := 478) 60 dX12_init_478 (by decide) ?_
  refine hJ.bipush (pc := 480) 32 dX12_init_480 (by decide) ?_
  refine hJ.siastM (pc := 482) dX12_init_482 al_74 (show ix 60 67 = some 60 by decide) ?_
  show J 483 [some (vr 12 0)] [vr 74 0, vr 12 0] nw126 nl249 15 1217 Sc nm77
  refine hJ.dup (pc := 483) dX12_init_483 ?_
  refine hJ.bipush (pc := 484) 61 dX12_init_484 (by decide) ?_
  refine hJ.bipush (pc := 486) 112 dX12_init_486 (by decide) ?_
  refine hJ.siastM (pc := 488) dX12_init_488 al_74 (show ix 61 67 = some 61 by decide) ?_
  show J 489 [some (vr 12 0)] [vr 74 0, vr 12 0] nw126 nl249 15 1217 Sc nm78
  refine hJ.dup (pc := 489) dX12_init_489 ?_
  refine hJ.bipush (pc := 490) 62 dX12_init_490 (by decide) ?_
  refine hJ.bipush (pc := 492) 97 dX12_init_492 (by decide) ?_
  refine hJ.siastM (pc := 494) dX12_init_494 al_74 (show ix 62 67 = some 62 by decide) ?_
  show J 495 [some (vr 12 0)] [vr 74 0, vr 12 0] nw126 nl249 15 1217 Sc nm79
  refine hJ.dup (pc := 495) dX12_init_495 ?_
  refine hJ.bipush (pc := 496) 63 dX12_init_496 (by decide) ?_
  refine hJ.bipush (pc := 498) 112 dX12_init_498 (by decide) ?_
  refine hJ.siastM (pc := 500) dX12_init_500 al_74 (show ix 63 67 = some 63 by decide) ?_
  show J 501 [some (vr 12 0)] [vr 74 0, vr 12 0] nw126 nl249 15 1217 Sc nm80
  refine hJ.dup (pc := 501) dX12_init_501 ?_
  refine hJ.bipush (pc := 502) 64 dX12_init_502 (by decide) ?_
  refine hJ.bipush (pc := 504) 101 dX12_init_504 (by decide) ?_
  refine hJ.siastM (pc := 506) dX12_init_506 al_74 (show ix 64 67 = some 64 by decide) ?_
  show J 507 [some (vr 12 0)] [vr 74 0, vr 12 0] nw126 nl249 15 1217 Sc nm81
  refine hJ.dup (pc := 507) dX12_init_507 ?_
  refine hJ.bipush (pc := 508) 65 dX12_init_508 (by decide) ?_
  refine hJ.bipush (pc := 510) 114 dX12_init_510 (by decide) ?_
  refine hJ.siastM (pc := 512) dX12_init_512 al_74 (show ix 65 67 = some 65 by decide) ?_
  show J 513 [some (vr 12 0)] [vr 74 0, vr 12 0] nw126 nl249 15 1217 Sc nm82
  refine hJ.dup (pc := 513) dX12_init_513 ?_
  refine hJ.bipush (pc := 514) 66 dX12_init_514 (by decide) ?_
  refine hJ.bipush (pc := 516) 32 dX12_init_516 (by decide) ?_
  refine hJ.siastM (pc := 518) dX12_init_518 al_74 (show ix 66 67 = some 66 by decide) ?_
  show J 519 [some (vr 12 0)] [vr 74 0, vr 12 0] nw126 nl249 15 1217 Sc nm83
  refine hJ.putR (pc := 519) dX12_init_519 nff_X12_52 rfl (by decide) ?_
  show J 522 [some (vr 12 0)] [] nw126 nl250 15 1217 Sc nm83
  refine hJ.aload_n (pc := 522) dX12_init_522 rfl ?_
  refine hJ.bipush (pc := 523) 32 dX12_init_523 (by decide) ?_
  refine hJ.newaM (pc := 525) (k := 75) (i := 0) dX12_init_525 (Or.inl ⟨rfl, rfl⟩) nac_0 (by decide +kernel) (by decide) rfl (Nat.le_of_ble_eq_true rfl) rfl ⟨Nat.le_of_ble_eq_true rfl, Nat.le_of_ble_eq_true rfl⟩ ?_
  show J 527 [some (vr 12 0)] [vr 75 0, vr 12 0] nw127 nl251 16 1249 Sc nm84
  refine hJ.putR (pc := 527) dX12_init_527 nff_X12_55 rfl (by decide) ?_
  show J 530 [some (vr 12 0)] [] nw127 nl252 16 1249 Sc nm84
  refine hJ.aload_n (pc := 530) dX12_init_530 rfl ?_
  refine hJ.bipush (pc := 531) 32 dX12_init_531 (by decide) ?_
  refine hJ.newaM (pc := 533) (k := 76) (i := 0) dX12_init_533 (Or.inl ⟨rfl, rfl⟩) nac_0 (by decide +kernel) (by decide) rfl (Nat.le_of_ble_eq_true rfl) rfl ⟨Nat.le_of_ble_eq_true rfl, Nat.le_of_ble_eq_true rfl⟩ ?_
  show J 535 [some (vr 12 0)] [vr 76 0, vr 12 0] nw128 nl253 17 1281 Sc nm85
  refine hJ.putR (pc := 535) dX12_init_535 nff_X12_58 rfl (by decide) ?_
  show J 538 [some (vr 12 0)] [] nw128 nl254 17 1281 Sc nm85
  refine hJ.aload_n (pc := 538) dX12_init_538 rfl ?_
  refine hJ.bipush (pc := 539) 32 dX12_init_539 (by decide) ?_
  refine hJ.newaM (pc := 541) (k := 77) (i := 0) dX12_init_541 (Or.inl ⟨rfl, rfl⟩) nac_0 (by decide +kernel) (by decide) rfl (Nat.le_of_ble_eq_true rfl) rfl ⟨Nat.le_of_ble_eq_true rfl, Nat.le_of_ble_eq_true rfl⟩ ?_
  show J 543 [some (vr 12 0)] [vr 77 0, vr 12 0] nw129 nl255 18 1313 Sc nm86
  refine hJ.putR (pc := 543) dX12_init_543 nff_X12_61 rfl (by decide) ?_
  show J 546 [some (vr 12 0)] [] nw129 nl256 18 1313 Sc nm86
  refine hJ.aload_n (pc := 546) dX12_init_546 rfl ?_
  refine hJ.sipush (pc := 547) 800 dX12_init_547 (by decide) ?_
  refine hJ.newaM (pc := 550) (k := 78) (i := 0) dX12_init_550 (Or.inl ⟨rfl, rfl⟩) nac_0 (by decide +kernel) (by decide) rfl (Nat.le_of_ble_eq_true rfl) rfl ⟨Nat.le_of_ble_eq_true rfl, Nat.le_of_ble_eq_true rfl⟩ ?_
  show J 552 [some (vr 12 0)] [vr 78 0, vr 12 0] nw130 nl257 19 2113 Sc nm87
  refine hJ.putR (pc := 552) dX12_init_552 nff_X12_64 rfl (by decide) ?_
  show J 555 [some (vr 12 0)] [] nw130 nl258 19 2113 Sc nm87
  refine hJ.aload_n (pc := 555) dX12_init_555 rfl ?_
  refine hJ.sipush (pc := 556) 800 dX12_init_556 (by decide) ?_
  refine hJ.newaM (pc := 559) (k := 79) (i := 0) dX12_init_559 (Or.inl ⟨rfl, rfl⟩) nac_0 (by decide +kernel) (by decide) rfl (Nat.le_of_ble_eq_true rfl) rfl ⟨Nat.le_of_ble_eq_true rfl, Nat.le_of_ble_eq_true rfl⟩ ?_
  show J 561 [some (vr 12 0)] [vr 79 0, vr 12 0] nw131 nl259 20 2913 Sc nm88
  refine hJ.putR (pc := 561) dX12_init_561 nff_X12_67 rfl (by decide) ?_
  show J 564 [some (vr 12 0)] [] nw131 nl260 20 2913 Sc nm88
  refine hJ.aload_n (pc := 564) dX12_init_564 rfl ?_
  refine hJ.bipush (pc := 565) 40 dX12_init_565 (by decide) ?_
  refine hJ.newaM (pc := 567) (k := 80) (i := 0) dX12_init_567 (Or.inl ⟨rfl, rfl⟩) nac_0 (by decide +kernel) (by decide) rfl (Nat.le_of_ble_eq_true rfl) rfl ⟨Nat.le_of_ble_eq_true rfl, Nat.le_of_ble_eq_true rfl⟩ ?_
  show J 569 [some (vr 12 0)] [vr 80 0, vr 12 0] nw132 nl261 21 2953 Sc nm89
  refine hJ.putR (pc := 569) dX12_init_569 nff_X12_70 rfl (by decide) ?_
  show J 572 [some (vr 12 0)] [] nw132 nl262 21 2953 Sc nm89
  refine hJ.aload_n (pc := 572) dX12_init_572 rfl ?_
  refine hJ.iconst (pc := 573) (-1) dX12_init_573 (by decide) ?_
  refine hJ.pIM (pc := 574) dX12_init_574 nfp_X12_73 ?_
  show J 577 [some (vr 12 0)] [] nw132 nl262 21 2953 Sc nm90
  refine hJ.aload_n (pc := 577) dX12_init_577 rfl ?_
  refine hJ.bipush (pc := 578) 9 dX12_init_578 (by decide) ?_
  refine hJ.newaM (pc := 580) (k := 81) (i := 0) dX12_init_580 (Or.inl ⟨rfl, rfl⟩) nac_0 (by decide +kernel) (by decide) rfl (Nat.le_of_ble_eq_true rfl) rfl ⟨Nat.le_of_ble_eq_true rfl, Nat.le_of_ble_eq_true rfl⟩ ?_
  show J 582 [some (vr 12 0)] [vr 81 0, vr 12 0] nw133 nl263 22 2962 Sc nm91
  refine hJ.putR (pc := 582) dX12_init_582 nff_X12_77 rfl (by decide) ?_
  show J 585 [some (vr 12 0)] [] nw133 nl264 22 2962 Sc nm91
  refine hJ.aload_n (pc := 585) dX12_init_585 rfl ?_
  refine hJ.sipush (pc := 586) 420 dX12_init_586 (by decide) ?_
  refine hJ.newaM (pc := 589) (k := 82) (i := 0) dX12_init_589 (Or.inl ⟨rfl, rfl⟩) nac_0 (by decide +kernel) (by decide) rfl (Nat.le_of_ble_eq_true rfl) rfl ⟨Nat.le_of_ble_eq_true rfl, Nat.le_of_ble_eq_true rfl⟩ ?_
  show J 591 [some (vr 12 0)] [vr 82 0, vr 12 0] nw134 nl265 23 3382 Sc nm92
  refine hJ.putR (pc := 591) dX12_init_591 nff_X12_80 rfl (by decide) ?_
  show J 594 [some (vr 12 0)] [] nw134 nl266 23 3382 Sc nm92
  refine hJ.aload_n (pc := 594) dX12_init_594 rfl ?_
  refine hJ.bipush (pc := 595) 60 dX12_init_595 (by decide) ?_
  refine hJ.newaM (pc := 597) (k := 83) (i := 0) dX12_init_597 (Or.inl ⟨rfl, rfl⟩) nac_0 (by decide +kernel) (by decide) rfl (Nat.le_of_ble_eq_true rfl) rfl ⟨Nat.le_of_ble_eq_true rfl, Nat.le_of_ble_eq_true rfl⟩ ?_
  show J 599 [some (vr 12 0)] [vr 83 0, vr 12 0] nw135 nl267 24 3442 Sc nm93
  refine hJ.putR (pc := 599) dX12_init_599 nff_X12_83 rfl (by decide) ?_
  show J 602 [some (vr 12 0)] [] nw135 nl268 24 3442 Sc nm93
  refine hJ.aload_n (pc := 602) dX12_init_602 rfl ?_
  refine hJ.bipush (pc := 603) 6 dX12_init_603 (by decide) ?_
  refine hJ.newaM (pc := 605) (k := 84) (i := 0) dX12_init_605 (Or.inl ⟨rfl, rfl⟩) nac_0 (by decide +kernel) (by decide) rfl (Nat.le_of_ble_eq_true rfl) rfl ⟨Nat.le_of_ble_eq_true rfl, Nat.le_of_ble_eq_true rfl⟩ ?_
  show J 607 [some (vr 12 0)] [vr 84 0, vr 12 0] nw136 nl269 25 3448 Sc nm94
  refine hJ.putR (pc := 607) dX12_init_607 nff_X12_86 rfl (by decide) ?_
  show J 610 [some (vr 12 0)] [] nw136 nl270 25 3448 Sc nm94
  refine hJ.aload_n (pc := 610) dX12_init_610 rfl ?_
  refine hJ.bipush (pc := 611) 6 dX12_init_611 (by decide) ?_
  refine hJ.newaM (pc := 613) (k := 85) (i := 0) dX12_init_613 (Or.inl ⟨rfl, rfl⟩) nac_0 (by decide +kernel) (by decide) rfl (Nat.le_of_ble_eq_true rfl) rfl ⟨Nat.le_of_ble_eq_true rfl, Nat.le_of_ble_eq_true rfl⟩ ?_
  show J 615 [some (vr 12 0)] [vr 85 0, vr 12 0] nw137 nl271 26 3454 Sc nm95
  refine hJ.putR (pc := 615) dX12_init_615 nff_X12_89 rfl (by decide) ?_
  show J 618 [some (vr 12 0)] [] nw137 nl272 26 3454 Sc nm95
  refine hJ.aload_n (pc := 618) dX12_init_618 rfl ?_
  refine hJ.bipush (pc := 619) 6 dX12_init_619 (by decide) ?_
  refine hJ.newaM (pc := 621) (k := 86) (i := 0) dX12_init_621 (Or.inl ⟨rfl, rfl⟩) nac_0 (by decide +kernel) (by decide) rfl (Nat.le_of_ble_eq_true rfl) rfl ⟨Nat.le_of_ble_eq_true rfl, Nat.le_of_ble_eq_true rfl⟩ ?_
  show J 623 [some (vr 12 0)] [vr 86 0, vr 12 0] nw138 nl273 27 3460 Sc nm96
  refine hJ.putR (pc := 623) dX12_init_623 nff_X12_92 rfl (by decide) ?_
  show J 626 [some (vr 12 0)] [] nw138 nl274 27 3460 Sc nm96
  refine hJ.aload_n (pc := 626) dX12_init_626 rfl ?_
  refine hJ.bipush (pc := 627) 6 dX12_init_627 (by decide) ?_
  refine hJ.newaM (pc := 629) (k := 87) (i := 0) dX12_init_629 (Or.inl ⟨rfl, rfl⟩) nac_0 (by decide +kernel) (by decide) rfl (Nat.le_of_ble_eq_true rfl) rfl ⟨Nat.le_of_ble_eq_true rfl, Nat.le_of_ble_eq_true rfl⟩ ?_
  show J 631 [some (vr 12 0)] [vr 87 0, vr 12 0] nw139 nl275 28 3466 Sc nm97
  refine hJ.putR (pc := 631) dX12_init_631 nff_X12_95 rfl (by decide) ?_
  show J 634 [some (vr 12 0)] [] nw139 nl276 28 3466 Sc nm97
  refine hJ.aload_n (pc := 634) dX12_init_634 rfl ?_
  refine hJ.bipush (pc := 635) 12 dX12_init_635 (by decide) ?_
  refine hJ.newaM (pc := 637) (k := 88) (i := 0) dX12_init_637 (Or.inl ⟨rfl, rfl⟩) nac_0 (by decide +kernel) (by decide) rfl (Nat.le_of_ble_eq_true rfl) rfl ⟨Nat.le_of_ble_eq_true rfl, Nat.le_of_ble_eq_true rfl⟩ ?_
  show J 639 [some (vr 12 0)] [vr 88 0, vr 12 0] nw140 nl277 29 3478 Sc nm98
  refine hJ.putR (pc := 639) dX12_init_639 nff_X12_98 rfl (by decide) ?_
  show J 642 [some (vr 12 0)] [] nw140 nl278 29 3478 Sc nm98
  refine hJ.aload_n (pc := 642) dX12_init_642 rfl ?_
  refine hJ.sipush (pc := 643) 1900 dX12_init_643 (by decide) ?_
  refine hJ.newaM (pc := 646) (k := 89) (i := 0) dX12_init_646 (Or.inl ⟨rfl, rfl⟩) nac_0 (by decide +kernel) (by decide) rfl (Nat.le_of_ble_eq_true rfl) rfl ⟨Nat.le_of_ble_eq_true rfl, Nat.le_of_ble_eq_true rfl⟩ ?_
  show J 648 [some (vr 12 0)] [vr 89 0, vr 12 0] nw141 nl279 30 5378 Sc nm99
  refine hJ.putR (pc := 648) dX12_init_648 nff_X12_101 rfl (by decide) ?_
  show J 651 [some (vr 12 0)] [] nw141 nl280 30 5378 Sc nm99
  exact hR.v (pc := 651) dX12_init_651
