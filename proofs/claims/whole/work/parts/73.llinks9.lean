/-! ===== what the law names ===== -/
theorem ncw_X11_init : Jvm.Cond.code yX11_init cX11_init 1 none ∈ GT := mg 102 (by decide +kernel) rfl
theorem niw_X11_init : Jvm.Cond.initialized yX11_init.cls ∈ GT := mg 77 (by decide +kernel) rfl
theorem nnm_X11_init : Jvm.Cond.instanceMethod yX11_init ∈ GT := mg 101 (by decide +kernel) rfl
theorem nlk_L_9 : LkB RL 9 yX11_init cX11_init 1 none 0 := ⟨mg 100 (by decide +kernel) rfl, ncw_X11_init, niw_X11_init, ⟨by decide, by decide, by decide⟩⟩
set_option maxRecDepth 100000 in
set_option maxHeartbeats 4000000 in
theorem ncw_X12_init : Jvm.Cond.code yX12_init cX12_init 1 none ∈ GT := mg 1110 (Eq.refl (some (Jvm.Cond.code yX12_init cX12_init 1 none))) rfl
theorem niw_X12_init : Jvm.Cond.initialized yX12_init.cls ∈ GT := mg 89 (by decide +kernel) rfl
theorem nnm_X12_init : Jvm.Cond.instanceMethod yX12_init ∈ GT := mg 1109 (by decide +kernel) rfl
theorem nlk_L_12 : LkB RL 12 yX12_init cX12_init 1 none 0 := ⟨mg 1108 (by decide +kernel) rfl, ncw_X12_init, niw_X12_init, ⟨by decide, by decide, by decide⟩⟩
theorem nnw_L_7 : NW RL 7 11 := ⟨_, _, _, kc_11, mg 98 (by decide +kernel) rfl, mg 99 (by decide +kernel) rfl, mg 77 (by decide +kernel) rfl⟩
theorem nnw_L_10 : NW RL 10 12 := ⟨_, _, _, kc_12, mg 1106 (by decide +kernel) rfl, mg 1107 (by decide +kernel) rfl, mg 89 (by decide +kernel) rfl⟩
