/-! ===== 11: the cases of ShadowTag ===== -/
set_option maxRecDepth 100000 in
set_option maxHeartbeats 4000000 in
theorem eX6_come {x1 : Int} {x2 : Int} {I : sh_Mem} {Q : Int → sh_Mem → Prop} (h : (cc mX4_copyFrom [.inr oT, .inr oP] I (qv fun I1 => (cc mX5_welcome [.inr (oT + 1), .inl x1, .inl x2] I1 (qi fun v5 I3 => (cc mX6_takeOver [.inr 1, .inl v5] I3 (qi fun v8 I6 => Q v8 I6))))))) : cc mX6_come [.inr 1, .inl x1, .inl x2] I (qi Q) := by
  refine sh_call cd_X6_come.2.2.2 (Nat.le_of_ble_eq_true rfl) ?_
  show kk mX6_come 0 [some (.inr 1), some (.inl x1), some (.inl x2)] [] I (qi Q)
  refine sh_aload_n (pc := 0) dX6_come_0 rfl rfl ?_
  refine sh_getR (pc := 1) dX6_come_1 fl_X6_16 rfl is_1 pt_1_1 ?_
  refine sh_aload_n (pc := 4) dX6_come_4 rfl rfl ?_
  refine sh_getR (pc := 5) dX6_come_5 fl_X6_12 rfl is_1 pt_1_0 ?_
  refine k_V1v (pc := 8) (is_P isP_oT) dX6_come_8 lk_X6_54 rfl h (fun I1 h => ?_)
  refine sh_aload_n (pc := 11) dX6_come_11 rfl rfl ?_
  refine sh_aload_n (pc := 12) dX6_come_12 rfl rfl ?_
  refine sh_getR (pc := 13) dX6_come_13 fl_X6_16 rfl is_1 pt_1_1 ?_
  refine sh_getR (pc := 16) dX6_come_16 fl_X6_58 rfl (is_P isP_oT) (pt_P0 isP_oT) ?_
  refine sh_iload_n (pc := 19) dX6_come_19 rfl rfl ?_
  refine sh_iload_n (pc := 20) dX6_come_20 rfl rfl ?_
  refine k_V2i (pc := 21) (is_R isP_oT) dX6_come_21 lk_X6_62 rfl h (fun v5 I3 h => ?_)
  refine k_V1i (pc := 24) is_1 dX6_come_24 lk_X6_68 rfl h (fun v8 I6 h => ?_)
  exact k_iret dX6_come_27 rfl h
set_option maxRecDepth 100000 in
set_option maxHeartbeats 4000000 in
theorem eX6_head {x1 : Int} {x2 : Int} {I : sh_Mem} {Q : Int → sh_Mem → Prop} (h : (cc mX4_copyFrom [.inr oT, .inr oP] I (qv fun I1 => (cc mX5_steer [.inr (oT + 1), .inl x1, .inl x2] I1 (qi fun v5 I3 => (cc mX6_takeOver [.inr 1, .inl v5] I3 (qi fun v8 I6 => Q v8 I6))))))) : cc mX6_head [.inr 1, .inl x1, .inl x2] I (qi Q) := by
  refine sh_call cd_X6_head.2.2.2 (Nat.le_of_ble_eq_true rfl) ?_
  show kk mX6_head 0 [some (.inr 1), some (.inl x1), some (.inl x2)] [] I (qi Q)
  refine sh_aload_n (pc := 0) dX6_head_0 rfl rfl ?_
  refine sh_getR (pc := 1) dX6_head_1 fl_X6_16 rfl is_1 pt_1_1 ?_
  refine sh_aload_n (pc := 4) dX6_head_4 rfl rfl ?_
  refine sh_getR (pc := 5) dX6_head_5 fl_X6_12 rfl is_1 pt_1_0 ?_
  refine k_V1v (pc := 8) (is_P isP_oT) dX6_head_8 lk_X6_54 rfl h (fun I1 h => ?_)
  refine sh_aload_n (pc := 11) dX6_head_11 rfl rfl ?_
  refine sh_aload_n (pc := 12) dX6_head_12 rfl rfl ?_
  refine sh_getR (pc := 13) dX6_head_13 fl_X6_16 rfl is_1 pt_1_1 ?_
  refine sh_getR (pc := 16) dX6_head_16 fl_X6_58 rfl (is_P isP_oT) (pt_P0 isP_oT) ?_
  refine sh_iload_n (pc := 19) dX6_head_19 rfl rfl ?_
  refine sh_iload_n (pc := 20) dX6_head_20 rfl rfl ?_
  refine k_V2i (pc := 21) (is_R isP_oT) dX6_head_21 lk_X6_72 rfl h (fun v5 I3 h => ?_)
  refine k_V1i (pc := 24) is_1 dX6_head_24 lk_X6_68 rfl h (fun v8 I6 h => ?_)
  exact k_iret dX6_head_27 rfl h
set_option maxRecDepth 100000 in
set_option maxHeartbeats 4000000 in
theorem eX6_light {x1 : Int} {x2 : Int} {I : sh_Mem} {Q : Int → sh_Mem → Prop} (h : (cc mX4_copyFrom [.inr oT, .inr oP] I (qv fun I1 => (sh_Bd x2 ∧ ((x2 = 0 → (cc mX3_switchTo [.inr (oT + 9), .inl x1, .inl 0] I1 (qi fun v7 I5 => (cc mX6_takeOver [.inr 1, .inl v7] I5 (qi fun v10 I8 => Q v10 I8))))) ∧ (¬ x2 = 0 → (cc mX3_switchTo [.inr (oT + 9), .inl x1, .inl 1] I1 (qi fun v13 I11 => (cc mX6_takeOver [.inr 1, .inl v13] I11 (qi fun v16 I14 => Q v16 I14)))))))))) : cc mX6_light [.inr 1, .inl x1, .inl x2] I (qi Q) := by
  refine sh_call cd_X6_light.2.2.2 (Nat.le_of_ble_eq_true rfl) ?_
  show kk mX6_light 0 [some (.inr 1), some (.inl x1), some (.inl x2)] [] I (qi Q)
  refine sh_aload_n (pc := 0) dX6_light_0 rfl rfl ?_
  refine sh_getR (pc := 1) dX6_light_1 fl_X6_16 rfl is_1 pt_1_1 ?_
  refine sh_aload_n (pc := 4) dX6_light_4 rfl rfl ?_
  refine sh_getR (pc := 5) dX6_light_5 fl_X6_12 rfl is_1 pt_1_0 ?_
  refine k_V1v (pc := 8) (is_P isP_oT) dX6_light_8 lk_X6_54 rfl h (fun I1 h => ?_)
  refine sh_aload_n (pc := 11) dX6_light_11 rfl rfl ?_
  refine sh_aload_n (pc := 12) dX6_light_12 rfl rfl ?_
  refine sh_getR (pc := 13) dX6_light_13 fl_X6_16 rfl is_1 pt_1_1 ?_
  refine sh_getR (pc := 16) dX6_light_16 fl_X6_75 rfl (is_P isP_oT) (pt_P1 isP_oT) ?_
  refine sh_iload_n (pc := 19) dX6_light_19 rfl rfl ?_
  refine sh_iload_n (pc := 20) dX6_light_20 rfl rfl ?_
  obtain ⟨hb_3, h⟩ := h
  refine sh_if_eq (pc := 21) (tgt := 28) dX6_light_21 (by decide) hb_3  (fun q_4 => ?_) (fun q_4 => ?_)
  · replace h := h.1 q_4
    refine sh_iconst (pc := 28) (v := 0) dX6_light_28 rfl ?_
    refine k_V2i (pc := 29) (is_L isP_oT) dX6_light_29 lk_X6_79 rfl h (fun v7 I5 h => ?_)
    refine k_V1i (pc := 32) is_1 dX6_light_32 lk_X6_68 rfl h (fun v10 I8 h => ?_)
    exact k_iret dX6_light_35 rfl h
  · replace h := h.2 q_4
    refine sh_iconst (pc := 24) (v := 1) dX6_light_24 rfl ?_
    refine sh_goto (pc := 25) (tgt := 29) dX6_light_25 (by decide) ?_
    refine k_V2i (pc := 29) (is_L isP_oT) dX6_light_29 lk_X6_79 rfl h (fun v13 I11 h => ?_)
    refine k_V1i (pc := 32) is_1 dX6_light_32 lk_X6_68 rfl h (fun v16 I14 h => ?_)
    exact k_iret dX6_light_35 rfl h
set_option maxRecDepth 100000 in
set_option maxHeartbeats 4000000 in
theorem eX6_setLamp {x1 : Int} {x2 : Int} {x3 : Int} {I : sh_Mem} {Q : Int → sh_Mem → Prop} (h : (cc mX4_copyFrom [.inr oT, .inr oP] I (qv fun I1 => (cc mX3_adjust [.inr (oT + 9), .inl x1, .inl x2, .inl x3] I1 (qi fun v5 I3 => (cc mX6_takeOver [.inr 1, .inl v5] I3 (qi fun v8 I6 => Q v8 I6))))))) : cc mX6_setLamp [.inr 1, .inl x1, .inl x2, .inl x3] I (qi Q) := by
  refine sh_call cd_X6_setLamp.2.2.2 (Nat.le_of_ble_eq_true rfl) ?_
  show kk mX6_setLamp 0 [some (.inr 1), some (.inl x1), some (.inl x2), some (.inl x3)] [] I (qi Q)
  refine sh_aload_n (pc := 0) dX6_setLamp_0 rfl rfl ?_
  refine sh_getR (pc := 1) dX6_setLamp_1 fl_X6_16 rfl is_1 pt_1_1 ?_
  refine sh_aload_n (pc := 4) dX6_setLamp_4 rfl rfl ?_
  refine sh_getR (pc := 5) dX6_setLamp_5 fl_X6_12 rfl is_1 pt_1_0 ?_
  refine k_V1v (pc := 8) (is_P isP_oT) dX6_setLamp_8 lk_X6_54 rfl h (fun I1 h => ?_)
  refine sh_aload_n (pc := 11) dX6_setLamp_11 rfl rfl ?_
  refine sh_aload_n (pc := 12) dX6_setLamp_12 rfl rfl ?_
  refine sh_getR (pc := 13) dX6_setLamp_13 fl_X6_16 rfl is_1 pt_1_1 ?_
  refine sh_getR (pc := 16) dX6_setLamp_16 fl_X6_75 rfl (is_P isP_oT) (pt_P1 isP_oT) ?_
  refine sh_iload_n (pc := 19) dX6_setLamp_19 rfl rfl ?_
  refine sh_iload_n (pc := 20) dX6_setLamp_20 rfl rfl ?_
  refine sh_iload_n (pc := 21) dX6_setLamp_21 rfl rfl ?_
  refine k_V3i (pc := 22) (is_L isP_oT) dX6_setLamp_22 lk_X6_84 rfl h (fun v5 I3 h => ?_)
  refine k_V1i (pc := 25) is_1 dX6_setLamp_25 lk_X6_68 rfl h (fun v8 I6 h => ?_)
  exact k_iret dX6_setLamp_28 rfl h
set_option maxRecDepth 100000 in
set_option maxHeartbeats 4000000 in
theorem eX6_set {x1 : Int} {x2 : Int} {I : sh_Mem} {Q : Int → sh_Mem → Prop} (h : (cc mX4_copyFrom [.inr oT, .inr oP] I (qv fun I1 => (cc mX6_replace [.inr (oT + 14), .inl x1, .inl x2, .inl 0, .inl 9] I1 (qi fun v5 I3 => (cc mX6_takeOver [.inr 1, .inl v5] I3 (qi fun v8 I6 => Q v8 I6))))))) : cc mX6_set [.inr 1, .inl x1, .inl x2] I (qi Q) := by
  refine sh_call cd_X6_set.2.2.2 (Nat.le_of_ble_eq_true rfl) ?_
  show kk mX6_set 0 [some (.inr 1), some (.inl x1), some (.inl x2)] [] I (qi Q)
  refine sh_aload_n (pc := 0) dX6_set_0 rfl rfl ?_
  refine sh_getR (pc := 1) dX6_set_1 fl_X6_16 rfl is_1 pt_1_1 ?_
  refine sh_aload_n (pc := 4) dX6_set_4 rfl rfl ?_
  refine sh_getR (pc := 5) dX6_set_5 fl_X6_12 rfl is_1 pt_1_0 ?_
  refine k_V1v (pc := 8) (is_P isP_oT) dX6_set_8 lk_X6_54 rfl h (fun I1 h => ?_)
  refine sh_aload_n (pc := 11) dX6_set_11 rfl rfl ?_
  refine sh_aload_n (pc := 12) dX6_set_12 rfl rfl ?_
  refine sh_getR (pc := 13) dX6_set_13 fl_X6_16 rfl is_1 pt_1_1 ?_
  refine sh_getR (pc := 16) dX6_set_16 fl_X6_88 rfl (is_P isP_oT) (pt_P2 isP_oT) ?_
  refine sh_iload_n (pc := 19) dX6_set_19 rfl rfl ?_
  refine sh_iload_n (pc := 20) dX6_set_20 rfl rfl ?_
  refine sh_iconst (pc := 21) (v := 0) dX6_set_21 rfl ?_
  refine sh_bipush (pc := 22) (v := 9) dX6_set_22 (by decide) ?_
  refine k_S5i (pc := 24) dX6_set_24 lk_X6_92 rfl h (fun v5 I3 h => ?_)
  refine k_V1i (pc := 27) is_1 dX6_set_27 lk_X6_68 rfl h (fun v8 I6 h => ?_)
  exact k_iret dX6_set_30 rfl h
set_option maxRecDepth 100000 in
set_option maxHeartbeats 4000000 in
theorem eX6_pass {x1 : Int} {I : sh_Mem} {Q : Int → sh_Mem → Prop} (h : (cc mX4_copyFrom [.inr oT, .inr oP] I (qv fun I1 => (cc mX4_takeTurns [.inr oT, .inl x1] I1 (qi fun v5 I3 => (cc mX6_takeOver [.inr 1, .inl v5] I3 (qi fun v8 I6 => Q v8 I6))))))) : cc mX6_pass [.inr 1, .inl x1] I (qi Q) := by
  refine sh_call cd_X6_pass.2.2.2 (Nat.le_of_ble_eq_true rfl) ?_
  show kk mX6_pass 0 [some (.inr 1), some (.inl x1)] [] I (qi Q)
  refine sh_aload_n (pc := 0) dX6_pass_0 rfl rfl ?_
  refine sh_getR (pc := 1) dX6_pass_1 fl_X6_16 rfl is_1 pt_1_1 ?_
  refine sh_aload_n (pc := 4) dX6_pass_4 rfl rfl ?_
  refine sh_getR (pc := 5) dX6_pass_5 fl_X6_12 rfl is_1 pt_1_0 ?_
  refine k_V1v (pc := 8) (is_P isP_oT) dX6_pass_8 lk_X6_54 rfl h (fun I1 h => ?_)
  refine sh_aload_n (pc := 11) dX6_pass_11 rfl rfl ?_
  refine sh_aload_n (pc := 12) dX6_pass_12 rfl rfl ?_
  refine sh_getR (pc := 13) dX6_pass_13 fl_X6_16 rfl is_1 pt_1_1 ?_
  refine sh_iload_n (pc := 16) dX6_pass_16 rfl rfl ?_
  refine k_V1i (pc := 17) (is_P isP_oT) dX6_pass_17 lk_X6_96 rfl h (fun v5 I3 h => ?_)
  refine k_V1i (pc := 20) is_1 dX6_pass_20 lk_X6_68 rfl h (fun v8 I6 h => ?_)
  exact k_iret dX6_pass_23 rfl h
set_option maxRecDepth 100000 in
set_option maxHeartbeats 4000000 in
theorem eX6_runner {x1 : Int} {x2 : Int} {I : sh_Mem} {Q : Int → sh_Mem → Prop} (h : (cc mX5_has [.inr (oP + 1), .inl x1] I (qi fun v3 I1 => ((v3 = 1 ∧ (sh_Bd x2 ∧ ((x2 = 0 → ((0 ≤ x1 ∧ x1 < (6 : Int)) ∧ Q (I1 (oP + 2) x1) I1)) ∧ ((x2 = 1 → ((0 ≤ x1 ∧ x1 < (6 : Int)) ∧ Q (I1 (oP + 3) x1) I1)) ∧ ((x2 = 2 → ((0 ≤ x1 ∧ x1 < (6 : Int)) ∧ Q (I1 (oP + 4) x1) I1)) ∧ ((x2 = 3 → ((0 ≤ x1 ∧ x1 < (6 : Int)) ∧ Q (I1 (oP + 5) x1) I1)) ∧ ((x2 = 4 → ((0 ≤ x1 ∧ x1 < (6 : Int)) ∧ Q (I1 (oP + 6) x1) I1)) ∧ ((x2 = 5 → ((0 ≤ x1 ∧ x1 < (6 : Int)) ∧ Q (I1 (oP + 7) x1) I1)) ∧ ((x2 = 6 → ((0 ≤ x1 ∧ x1 < (6 : Int)) ∧ Q (I1 (oP + 8) x1) I1)) ∧ ((x2 = 7 → (cc mX6_cellsInShadowsOf [.inr 1, .inl x1] I1 (qi fun v21 I19 => Q v21 I19))) ∧ ((x2 < 0 ∨ 7 < x2) → Q (-2) I1))))))))))) ∨ (v3 = 0 ∧ Q (-1) I1))))) : cc mX6_runner [.inr 1, .inl x1, .inl x2] I (qi Q) := by
  refine sh_call cd_X6_runner.2.2.2 (Nat.le_of_ble_eq_true rfl) ?_
  show kk mX6_runner 0 [some (.inr 1), some (.inl x1), some (.inl x2), none] [] I (qi Q)
  refine sh_aload_n (pc := 0) dX6_runner_0 rfl rfl ?_
  refine sh_getR (pc := 1) dX6_runner_1 fl_X6_12 rfl is_1 pt_1_0 ?_
  refine sh_getR (pc := 4) dX6_runner_4 fl_X6_58 rfl (is_P isP_oP) (pt_P0 isP_oP) ?_
  refine k_astore_n (pc := 7) [some (.inr 1), some (.inl x1), some (.inl x2), some (.inr (oP + 1))] dX6_runner_7 rfl rfl (by decide) ?_
  refine sh_aload_n (pc := 8) dX6_runner_8 rfl rfl ?_
  refine sh_iload_n (pc := 9) dX6_runner_9 rfl rfl ?_
  refine k_V1i (pc := 10) (is_R isP_oP) dX6_runner_10 lk_X6_126 rfl h (fun v3 I1 h => ?_)
  rcases h with ⟨rfl, h⟩ | ⟨rfl, h⟩
  · skip
    refine sh_if_ne (pc := 13) (tgt := 18) dX6_runner_13 (by decide) (bd_lit (by decide)) (fun qz => ?_) (fun qz => ?_)
    · skip
      refine sh_iload_n (pc := 18) dX6_runner_18 rfl rfl ?_
      obtain ⟨hb_4, h⟩ := h
      by_cases q_6 : x2 = 0
      · refine sh_tableIn (pc := 19) (k := 0) (tgt := 64) dX6_runner_19 q_6 (bd_lit (by decide)) (by decide) (by decide) rfl (by decide) ?_
        replace h := h.1 q_6
        refine sh_aload_n (pc := 64) dX6_runner_64 rfl rfl ?_
        refine sh_getR (pc := 65) dX6_runner_65 fl_X6_130 rfl (is_R isP_oP) (pt_R0 isP_oP) ?_
        refine sh_iload_n (pc := 68) dX6_runner_68 rfl rfl ?_
        obtain ⟨hi_5, h⟩ := h
        refine sh_iald (pc := 69) dX6_runner_69 (is_P2 isP_oP) (by decide) hi_5 ?_
        exact k_iret dX6_runner_70 rfl h
      replace h := h.2
      by_cases q_8 : x2 = 1
      · refine sh_tableIn (pc := 19) (k := 1) (tgt := 71) dX6_runner_19 q_8 (bd_lit (by decide)) (by decide) (by decide) rfl (by decide) ?_
        replace h := h.1 q_8
        refine sh_aload_n (pc := 71) dX6_runner_71 rfl rfl ?_
        refine sh_getR (pc := 72) dX6_runner_72 fl_X6_133 rfl (is_R isP_oP) (pt_R1 isP_oP) ?_
        refine sh_iload_n (pc := 75) dX6_runner_75 rfl rfl ?_
        obtain ⟨hi_7, h⟩ := h
        refine sh_iald (pc := 76) dX6_runner_76 (is_P3 isP_oP) (by decide) hi_7 ?_
        exact k_iret dX6_runner_77 rfl h
      replace h := h.2
      by_cases q_10 : x2 = 2
      · refine sh_tableIn (pc := 19) (k := 2) (tgt := 78) dX6_runner_19 q_10 (bd_lit (by decide)) (by decide) (by decide) rfl (by decide) ?_
        replace h := h.1 q_10
        refine sh_aload_n (pc := 78) dX6_runner_78 rfl rfl ?_
        refine sh_getR (pc := 79) dX6_runner_79 fl_X6_136 rfl (is_R isP_oP) (pt_R2 isP_oP) ?_
        refine sh_iload_n (pc := 82) dX6_runner_82 rfl rfl ?_
        obtain ⟨hi_9, h⟩ := h
        refine sh_iald (pc := 83) dX6_runner_83 (is_P4 isP_oP) (by decide) hi_9 ?_
        exact k_iret dX6_runner_84 rfl h
      replace h := h.2
      by_cases q_12 : x2 = 3
      · refine sh_tableIn (pc := 19) (k := 3) (tgt := 85) dX6_runner_19 q_12 (bd_lit (by decide)) (by decide) (by decide) rfl (by decide) ?_
        replace h := h.1 q_12
        refine sh_aload_n (pc := 85) dX6_runner_85 rfl rfl ?_
        refine sh_getR (pc := 86) dX6_runner_86 fl_X6_139 rfl (is_R isP_oP) (pt_R3 isP_oP) ?_
        refine sh_iload_n (pc := 89) dX6_runner_89 rfl rfl ?_
        obtain ⟨hi_11, h⟩ := h
        refine sh_iald (pc := 90) dX6_runner_90 (is_P5 isP_oP) (by decide) hi_11 ?_
        exact k_iret dX6_runner_91 rfl h
      replace h := h.2
      by_cases q_14 : x2 = 4
      · refine sh_tableIn (pc := 19) (k := 4) (tgt := 92) dX6_runner_19 q_14 (bd_lit (by decide)) (by decide) (by decide) rfl (by decide) ?_
        replace h := h.1 q_14
        refine sh_aload_n (pc := 92) dX6_runner_92 rfl rfl ?_
        refine sh_getR (pc := 93) dX6_runner_93 fl_X6_142 rfl (is_R isP_oP) (pt_R4 isP_oP) ?_
        refine sh_iload_n (pc := 96) dX6_runner_96 rfl rfl ?_
        obtain ⟨hi_13, h⟩ := h
        refine sh_iald (pc := 97) dX6_runner_97 (is_P6 isP_oP) (by decide) hi_13 ?_
        exact k_iret dX6_runner_98 rfl h
      replace h := h.2
      by_cases q_16 : x2 = 5
      · refine sh_tableIn (pc := 19) (k := 5) (tgt := 99) dX6_runner_19 q_16 (bd_lit (by decide)) (by decide) (by decide) rfl (by decide) ?_
        replace h := h.1 q_16
        refine sh_aload_n (pc := 99) dX6_runner_99 rfl rfl ?_
        refine sh_getR (pc := 100) dX6_runner_100 fl_X6_145 rfl (is_R isP_oP) (pt_R5 isP_oP) ?_
        refine sh_iload_n (pc := 103) dX6_runner_103 rfl rfl ?_
        obtain ⟨hi_15, h⟩ := h
        refine sh_iald (pc := 104) dX6_runner_104 (is_P7 isP_oP) (by decide) hi_15 ?_
        exact k_iret dX6_runner_105 rfl h
      replace h := h.2
      by_cases q_18 : x2 = 6
      · refine sh_tableIn (pc := 19) (k := 6) (tgt := 106) dX6_runner_19 q_18 (bd_lit (by decide)) (by decide) (by decide) rfl (by decide) ?_
        replace h := h.1 q_18
        refine sh_aload_n (pc := 106) dX6_runner_106 rfl rfl ?_
        refine sh_getR (pc := 107) dX6_runner_107 fl_X6_148 rfl (is_R isP_oP) (pt_R6 isP_oP) ?_
        refine sh_iload_n (pc := 110) dX6_runner_110 rfl rfl ?_
        obtain ⟨hi_17, h⟩ := h
        refine sh_iald (pc := 111) dX6_runner_111 (is_P8 isP_oP) (by decide) hi_17 ?_
        exact k_iret dX6_runner_112 rfl h
      replace h := h.2
      by_cases q_22 : x2 = 7
      · refine sh_tableIn (pc := 19) (k := 7) (tgt := 113) dX6_runner_19 q_22 (bd_lit (by decide)) (by decide) (by decide) rfl (by decide) ?_
        replace h := h.1 q_22
        refine sh_aload_n (pc := 113) dX6_runner_113 rfl rfl ?_
        refine sh_iload_n (pc := 114) dX6_runner_114 rfl rfl ?_
        refine k_V1i (pc := 115) is_1 dX6_runner_115 lk_X6_151 rfl h (fun v21 I19 h => ?_)
        exact k_iret dX6_runner_118 rfl h
      replace h := h.2
      have q_23 : x2 < 0 ∨ 7 < x2 := by omega
      refine sh_tableOut (pc := 19) (tgt := 119) dX6_runner_19 hb_4 q_23 (by decide) ?_
      replace h := h q_23
      refine sh_bipush (pc := 119) (v := (-2)) dX6_runner_119 (by decide) ?_
      exact k_iret dX6_runner_121 rfl h
    · exact absurd qz (by decide)
  · skip
    refine sh_if_ne (pc := 13) (tgt := 18) dX6_runner_13 (by decide) (bd_lit (by decide)) (fun qz => ?_) (fun qz => ?_)
    · exact absurd qz (by decide)
    · skip
      refine sh_iconst (pc := 16) (v := (-1)) dX6_runner_16 rfl ?_
      exact k_iret dX6_runner_17 rfl h
set_option maxRecDepth 100000 in
set_option maxHeartbeats 4000000 in
theorem eX6_lamp {x1 : Int} {x2 : Int} {I : sh_Mem} {Q : Int → sh_Mem → Prop} (h : (cc mX6_isLamp [.inl x1] I (qi fun v3 I1 => ((v3 = 1 ∧ (sh_Bd x2 ∧ ((x2 = 0 → ((0 ≤ x1 ∧ x1 < (3 : Int)) ∧ Q (I1 (oP + 10) x1) I1)) ∧ ((x2 = 1 → ((0 ≤ x1 ∧ x1 < (3 : Int)) ∧ Q (I1 (oP + 11) x1) I1)) ∧ ((x2 = 2 → ((0 ≤ x1 ∧ x1 < (3 : Int)) ∧ Q (I1 (oP + 12) x1) I1)) ∧ ((x2 = 3 → ((0 ≤ x1 ∧ x1 < (3 : Int)) ∧ Q (I1 (oP + 13) x1) I1)) ∧ ((x2 = 4 → (cc mX6_cellsInShadowsBy [.inr 1, .inl x1] I1 (qi fun v15 I13 => Q v15 I13))) ∧ ((x2 < 0 ∨ 4 < x2) → Q (-2) I1)))))))) ∨ (v3 = 0 ∧ Q (-1) I1))))) : cc mX6_lamp [.inr 1, .inl x1, .inl x2] I (qi Q) := by
  refine sh_call cd_X6_lamp.2.2.2 (Nat.le_of_ble_eq_true rfl) ?_
  show kk mX6_lamp 0 [some (.inr 1), some (.inl x1), some (.inl x2), none] [] I (qi Q)
  refine sh_aload_n (pc := 0) dX6_lamp_0 rfl rfl ?_
  refine sh_getR (pc := 1) dX6_lamp_1 fl_X6_12 rfl is_1 pt_1_0 ?_
  refine sh_getR (pc := 4) dX6_lamp_4 fl_X6_75 rfl (is_P isP_oP) (pt_P1 isP_oP) ?_
  refine k_astore_n (pc := 7) [some (.inr 1), some (.inl x1), some (.inl x2), some (.inr (oP + 9))] dX6_lamp_7 rfl rfl (by decide) ?_
  refine sh_iload_n (pc := 8) dX6_lamp_8 rfl rfl ?_
  refine k_S1i (pc := 9) dX6_lamp_9 lk_X6_154 rfl h (fun v3 I1 h => ?_)
  rcases h with ⟨rfl, h⟩ | ⟨rfl, h⟩
  · skip
    refine sh_if_ne (pc := 12) (tgt := 17) dX6_lamp_12 (by decide) (bd_lit (by decide)) (fun qz => ?_) (fun qz => ?_)
    · skip
      refine sh_iload_n (pc := 17) dX6_lamp_17 rfl rfl ?_
      obtain ⟨hb_4, h⟩ := h
      by_cases q_6 : x2 = 0
      · refine sh_tableIn (pc := 18) (k := 0) (tgt := 52) dX6_lamp_18 q_6 (bd_lit (by decide)) (by decide) (by decide) rfl (by decide) ?_
        replace h := h.1 q_6
        refine sh_aload_n (pc := 52) dX6_lamp_52 rfl rfl ?_
        refine sh_getR (pc := 53) dX6_lamp_53 fl_X6_157 rfl (is_L isP_oP) (pt_L0 isP_oP) ?_
        refine sh_iload_n (pc := 56) dX6_lamp_56 rfl rfl ?_
        obtain ⟨hi_5, h⟩ := h
        refine sh_iald (pc := 57) dX6_lamp_57 (is_P10 isP_oP) (by decide) hi_5 ?_
        exact k_iret dX6_lamp_58 rfl h
      replace h := h.2
      by_cases q_8 : x2 = 1
      · refine sh_tableIn (pc := 18) (k := 1) (tgt := 59) dX6_lamp_18 q_8 (bd_lit (by decide)) (by decide) (by decide) rfl (by decide) ?_
        replace h := h.1 q_8
        refine sh_aload_n (pc := 59) dX6_lamp_59 rfl rfl ?_
        refine sh_getR (pc := 60) dX6_lamp_60 fl_X6_160 rfl (is_L isP_oP) (pt_L1 isP_oP) ?_
        refine sh_iload_n (pc := 63) dX6_lamp_63 rfl rfl ?_
        obtain ⟨hi_7, h⟩ := h
        refine sh_iald (pc := 64) dX6_lamp_64 (is_P11 isP_oP) (by decide) hi_7 ?_
        exact k_iret dX6_lamp_65 rfl h
      replace h := h.2
      by_cases q_10 : x2 = 2
      · refine sh_tableIn (pc := 18) (k := 2) (tgt := 66) dX6_lamp_18 q_10 (bd_lit (by decide)) (by decide) (by decide) rfl (by decide) ?_
        replace h := h.1 q_10
        refine sh_aload_n (pc := 66) dX6_lamp_66 rfl rfl ?_
        refine sh_getR (pc := 67) dX6_lamp_67 fl_X6_163 rfl (is_L isP_oP) (pt_L2 isP_oP) ?_
        refine sh_iload_n (pc := 70) dX6_lamp_70 rfl rfl ?_
        obtain ⟨hi_9, h⟩ := h
        refine sh_iald (pc := 71) dX6_lamp_71 (is_P12 isP_oP) (by decide) hi_9 ?_
        exact k_iret dX6_lamp_72 rfl h
      replace h := h.2
      by_cases q_12 : x2 = 3
      · refine sh_tableIn (pc := 18) (k := 3) (tgt := 73) dX6_lamp_18 q_12 (bd_lit (by decide)) (by decide) (by decide) rfl (by decide) ?_
        replace h := h.1 q_12
        refine sh_aload_n (pc := 73) dX6_lamp_73 rfl rfl ?_
        refine sh_getR (pc := 74) dX6_lamp_74 fl_X6_166 rfl (is_L isP_oP) (pt_L3 isP_oP) ?_
        refine sh_iload_n (pc := 77) dX6_lamp_77 rfl rfl ?_
        obtain ⟨hi_11, h⟩ := h
        refine sh_iald (pc := 78) dX6_lamp_78 (is_P13 isP_oP) (by decide) hi_11 ?_
        exact k_iret dX6_lamp_79 rfl h
      replace h := h.2
      by_cases q_16 : x2 = 4
      · refine sh_tableIn (pc := 18) (k := 4) (tgt := 80) dX6_lamp_18 q_16 (bd_lit (by decide)) (by decide) (by decide) rfl (by decide) ?_
        replace h := h.1 q_16
        refine sh_aload_n (pc := 80) dX6_lamp_80 rfl rfl ?_
        refine sh_iload_n (pc := 81) dX6_lamp_81 rfl rfl ?_
        refine k_V1i (pc := 82) is_1 dX6_lamp_82 lk_X6_169 rfl h (fun v15 I13 h => ?_)
        exact k_iret dX6_lamp_85 rfl h
      replace h := h.2
      have q_17 : x2 < 0 ∨ 4 < x2 := by omega
      refine sh_tableOut (pc := 18) (tgt := 86) dX6_lamp_18 hb_4 q_17 (by decide) ?_
      replace h := h q_17
      refine sh_bipush (pc := 86) (v := (-2)) dX6_lamp_86 (by decide) ?_
      exact k_iret dX6_lamp_88 rfl h
    · exact absurd qz (by decide)
  · skip
    refine sh_if_ne (pc := 12) (tgt := 17) dX6_lamp_12 (by decide) (bd_lit (by decide)) (fun qz => ?_) (fun qz => ?_)
    · exact absurd qz (by decide)
    · skip
      refine sh_iconst (pc := 15) (v := (-1)) dX6_lamp_15 rfl ?_
      exact k_iret dX6_lamp_16 rfl h
set_option maxRecDepth 100000 in
set_option maxHeartbeats 4000000 in
theorem eX6_shadow {x1 : Int} {x2 : Int} {x3 : Int} {I : sh_Mem} {Q : Int → sh_Mem → Prop} (h : (cc mX5_has [.inr (oP + 1), .inl x1] I (qi fun v3 I1 => ((v3 = 1 ∧ (cc mX6_isLamp [.inl x2] I1 (qi fun v6 I4 => ((v6 = 1 ∧ (sh_Bd x3 ∧ ((x3 = 0 → (cc mX4_shadowLength [.inr oP, .inl x1, .inl x2] I4 (qi fun v10 I8 => Q v10 I8))) ∧ ((x3 = 1 → (cc mX4_shadowEnd [.inr oP, .inl x1, .inl x2] I4 (qi fun v14 I12 => Q v14 I12))) ∧ ((x3 = 2 → (cc mX4_shadowEnd [.inr oP, .inl x1, .inl x2] I4 (qi fun v18 I16 => (cc mX5_standingOn [.inr (oP + 1), .inl v18] I16 (qi fun v21 I19 => Q v21 I19))))) ∧ ((x3 < 0 ∨ 2 < x3) → Q (-2) I4)))))) ∨ (v6 = 0 ∧ Q (-1) I4))))) ∨ (v3 = 0 ∧ Q (-1) I1))))) : cc mX6_shadow [.inr 1, .inl x1, .inl x2, .inl x3] I (qi Q) := by
  refine sh_call cd_X6_shadow.2.2.2 (Nat.le_of_ble_eq_true rfl) ?_
  show kk mX6_shadow 0 [some (.inr 1), some (.inl x1), some (.inl x2), some (.inl x3)] [] I (qi Q)
  refine sh_aload_n (pc := 0) dX6_shadow_0 rfl rfl ?_
  refine sh_getR (pc := 1) dX6_shadow_1 fl_X6_12 rfl is_1 pt_1_0 ?_
  refine sh_getR (pc := 4) dX6_shadow_4 fl_X6_58 rfl (is_P isP_oP) (pt_P0 isP_oP) ?_
  refine sh_iload_n (pc := 7) dX6_shadow_7 rfl rfl ?_
  refine k_V1i (pc := 8) (is_R isP_oP) dX6_shadow_8 lk_X6_126 rfl h (fun v3 I1 h => ?_)
  rcases h with ⟨rfl, h⟩ | ⟨rfl, h⟩
  · skip
    refine sh_if_eq (pc := 11) (tgt := 21) dX6_shadow_11 (by decide) (bd_lit (by decide)) (fun qz => ?_) (fun qz => ?_)
    · exact absurd qz (by decide)
    · skip
      refine sh_iload_n (pc := 14) dX6_shadow_14 rfl rfl ?_
      refine k_S1i (pc := 15) dX6_shadow_15 lk_X6_154 rfl h (fun v6 I4 h => ?_)
      rcases h with ⟨rfl, h⟩ | ⟨rfl, h⟩
      · skip
        refine sh_if_ne (pc := 18) (tgt := 23) dX6_shadow_18 (by decide) (bd_lit (by decide)) (fun qz => ?_) (fun qz => ?_)
        · skip
          refine sh_iload_n (pc := 23) dX6_shadow_23 rfl rfl ?_
          obtain ⟨hb_7, h⟩ := h
          by_cases q_11 : x3 = 0
          · refine sh_tableIn (pc := 24) (k := 0) (tgt := 52) dX6_shadow_24 q_11 (bd_lit (by decide)) (by decide) (by decide) rfl (by decide) ?_
            replace h := h.1 q_11
            refine sh_aload_n (pc := 52) dX6_shadow_52 rfl rfl ?_
            refine sh_getR (pc := 53) dX6_shadow_53 fl_X6_12 rfl is_1 pt_1_0 ?_
            refine sh_iload_n (pc := 56) dX6_shadow_56 rfl rfl ?_
            refine sh_iload_n (pc := 57) dX6_shadow_57 rfl rfl ?_
            refine k_V2i (pc := 58) (is_P isP_oP) dX6_shadow_58 lk_X6_172 rfl h (fun v10 I8 h => ?_)
            exact k_iret dX6_shadow_61 rfl h
          replace h := h.2
          by_cases q_15 : x3 = 1
          · refine sh_tableIn (pc := 24) (k := 1) (tgt := 62) dX6_shadow_24 q_15 (bd_lit (by decide)) (by decide) (by decide) rfl (by decide) ?_
            replace h := h.1 q_15
            refine sh_aload_n (pc := 62) dX6_shadow_62 rfl rfl ?_
            refine sh_getR (pc := 63) dX6_shadow_63 fl_X6_12 rfl is_1 pt_1_0 ?_
            refine sh_iload_n (pc := 66) dX6_shadow_66 rfl rfl ?_
            refine sh_iload_n (pc := 67) dX6_shadow_67 rfl rfl ?_
            refine k_V2i (pc := 68) (is_P isP_oP) dX6_shadow_68 lk_X6_175 rfl h (fun v14 I12 h => ?_)
            exact k_iret dX6_shadow_71 rfl h
          replace h := h.2
          by_cases q_22 : x3 = 2
          · refine sh_tableIn (pc := 24) (k := 2) (tgt := 72) dX6_shadow_24 q_22 (bd_lit (by decide)) (by decide) (by decide) rfl (by decide) ?_
            replace h := h.1 q_22
            refine sh_aload_n (pc := 72) dX6_shadow_72 rfl rfl ?_
            refine sh_getR (pc := 73) dX6_shadow_73 fl_X6_12 rfl is_1 pt_1_0 ?_
            refine sh_getR (pc := 76) dX6_shadow_76 fl_X6_58 rfl (is_P isP_oP) (pt_P0 isP_oP) ?_
            refine sh_aload_n (pc := 79) dX6_shadow_79 rfl rfl ?_
            refine sh_getR (pc := 80) dX6_shadow_80 fl_X6_12 rfl is_1 pt_1_0 ?_
            refine sh_iload_n (pc := 83) dX6_shadow_83 rfl rfl ?_
            refine sh_iload_n (pc := 84) dX6_shadow_84 rfl rfl ?_
            refine k_V2i (pc := 85) (is_P isP_oP) dX6_shadow_85 lk_X6_175 rfl h (fun v18 I16 h => ?_)
            refine k_V1i (pc := 88) (is_R isP_oP) dX6_shadow_88 lk_X6_178 rfl h (fun v21 I19 h => ?_)
            exact k_iret dX6_shadow_91 rfl h
          replace h := h.2
          have q_23 : x3 < 0 ∨ 2 < x3 := by omega
          refine sh_tableOut (pc := 24) (tgt := 92) dX6_shadow_24 hb_7 q_23 (by decide) ?_
          replace h := h q_23
          refine sh_bipush (pc := 92) (v := (-2)) dX6_shadow_92 (by decide) ?_
          exact k_iret dX6_shadow_94 rfl h
        · exact absurd qz (by decide)
      · skip
        refine sh_if_ne (pc := 18) (tgt := 23) dX6_shadow_18 (by decide) (bd_lit (by decide)) (fun qz => ?_) (fun qz => ?_)
        · exact absurd qz (by decide)
        · skip
          refine sh_iconst (pc := 21) (v := (-1)) dX6_shadow_21 rfl ?_
          exact k_iret dX6_shadow_22 rfl h
  · skip
    refine sh_if_eq (pc := 11) (tgt := 21) dX6_shadow_11 (by decide) (bd_lit (by decide)) (fun qz => ?_) (fun qz => ?_)
    · skip
      refine sh_iconst (pc := 21) (v := (-1)) dX6_shadow_21 rfl ?_
      exact k_iret dX6_shadow_22 rfl h
    · exact absurd qz (by decide)
set_option maxRecDepth 100000 in
set_option maxHeartbeats 4000000 in
theorem eX6_darkness {x1 : Int} {I : sh_Mem} {Q : Int → sh_Mem → Prop} (h : (cc mX6_isCell [.inl x1] I (qi fun v3 I1 => ((v3 = 1 ∧ kk mX6_darkness 13 [some (.inr 1), some (.inl x1), some (.inl 0), some (.inl 0), none] [] I1 (qi Q)) ∨ (v3 = 0 ∧ Q (-1) I1))))) : cc mX6_darkness [.inr 1, .inl x1] I (qi Q) := by
  refine sh_call cd_X6_darkness.2.2.2 (Nat.le_of_ble_eq_true rfl) ?_
  show kk mX6_darkness 0 [some (.inr 1), some (.inl x1), none, none, none] [] I (qi Q)
  refine sh_iload_n (pc := 0) dX6_darkness_0 rfl rfl ?_
  refine k_S1i (pc := 1) dX6_darkness_1 lk_X6_181 rfl h (fun v3 I1 h => ?_)
  rcases h with ⟨rfl, h⟩ | ⟨rfl, h⟩
  · skip
    refine sh_if_ne (pc := 4) (tgt := 9) dX6_darkness_4 (by decide) (bd_lit (by decide)) (fun qz => ?_) (fun qz => ?_)
    · skip
      refine sh_iconst (pc := 9) (v := 0) dX6_darkness_9 rfl ?_
      refine k_istore_n (pc := 10) [some (.inr 1), some (.inl x1), some (.inl 0), none, none] dX6_darkness_10 rfl rfl (by decide) ?_
      refine sh_iconst (pc := 11) (v := 0) dX6_darkness_11 rfl ?_
      refine k_istore_n (pc := 12) [some (.inr 1), some (.inl x1), some (.inl 0), some (.inl 0), none] dX6_darkness_12 rfl rfl (by decide) ?_
      exact sh_O.locals h (sub_some (sub_some (sub_some (sub_some (sub_none sub_nil)))))
    · exact absurd qz (by decide)
  · skip
    refine sh_if_ne (pc := 4) (tgt := 9) dX6_darkness_4 (by decide) (bd_lit (by decide)) (fun qz => ?_) (fun qz => ?_)
    · exact absurd qz (by decide)
    · skip
      refine sh_iconst (pc := 7) (v := (-1)) dX6_darkness_7 rfl ?_
      exact k_iret dX6_darkness_8 rfl h
set_option maxRecDepth 100000 in
set_option maxHeartbeats 4000000 in
theorem lX6_darkness_13 {y1 : Int} {y2 : Int} {y3 : Int} {I : sh_Mem} {Q : Int → sh_Mem → Prop} (h : (sh_Bd y3 ∧ (sh_Bd (I (oP + 1) 7) ∧ (((I (oP + 1) 7) ≤ y3 → Q y2 I) ∧ (y3 < (I (oP + 1) 7) → kk mX6_darkness 30 [some (.inr 1), some (.inl y1), some (.inl y2), some (.inl y3), some (.inl 0)] [] I (qi Q)))))) : kk mX6_darkness 13 [some (.inr 1), some (.inl y1), some (.inl y2), some (.inl y3), none] [] I (qi Q) := by
  refine sh_iload_n (pc := 13) dX6_darkness_13 rfl rfl ?_
  refine sh_aload_n (pc := 14) dX6_darkness_14 rfl rfl ?_
  refine sh_getR (pc := 15) dX6_darkness_15 fl_X6_12 rfl is_1 pt_1_0 ?_
  refine sh_getR (pc := 18) dX6_darkness_18 fl_X6_58 rfl (is_P isP_oP) (pt_P0 isP_oP) ?_
  refine sh_getI (pc := 21) (g := 7) dX6_darkness_21 fl_X6_123 rfl (is_R isP_oP) rfl ?_
  obtain ⟨hb_1, h⟩ := h
  obtain ⟨hb_2, h⟩ := h
  refine sh_icmp_ge (pc := 24) (tgt := 65) dX6_darkness_24 (by decide) hb_1 hb_2 (fun q_3 => ?_) (fun q_3 => ?_)
  · replace h := h.1 q_3
    refine sh_iload_n (pc := 65) dX6_darkness_65 rfl rfl ?_
    exact k_iret dX6_darkness_66 rfl h
  · replace h := h.2 q_3
    refine sh_iconst (pc := 27) (v := 0) dX6_darkness_27 rfl ?_
    refine k_istore (pc := 28) [some (.inr 1), some (.inl y1), some (.inl y2), some (.inl y3), some (.inl 0)] dX6_darkness_28 rfl (by decide) ?_
    exact sh_O.locals h (sub_some (sub_some (sub_some (sub_some (sub_some sub_nil)))))
set_option maxRecDepth 100000 in
set_option maxHeartbeats 4000000 in
theorem lX6_darkness_30 {y1 : Int} {y2 : Int} {y3 : Int} {y4 : Int} {I : sh_Mem} {Q : Int → sh_Mem → Prop} (h : (sh_Bd y4 ∧ ((3 ≤ y4 → kk mX6_darkness 13 [some (.inr 1), some (.inl y1), some (.inl y2), some (.inl (y3 + 1)), none] [] I (qi Q)) ∧ (y4 < 3 → (cc mX4_isInShadow [.inr oP, .inl y1, .inl y3, .inl y4] I (qi fun v5 I3 => ((v5 = 1 ∧ kk mX6_darkness 30 [some (.inr 1), some (.inl y1), some (.inl (y2 + 1)), some (.inl y3), some (.inl (y4 + 1))] [] I3 (qi Q)) ∨ (v5 = 0 ∧ kk mX6_darkness 30 [some (.inr 1), some (.inl y1), some (.inl y2), some (.inl y3), some (.inl (y4 + 1))] [] I3 (qi Q))))))))) : kk mX6_darkness 30 [some (.inr 1), some (.inl y1), some (.inl y2), some (.inl y3), some (.inl y4)] [] I (qi Q) := by
  refine sh_iload (pc := 30) dX6_darkness_30 rfl ?_
  refine sh_iconst (pc := 32) (v := 3) dX6_darkness_32 rfl ?_
  obtain ⟨hb_1, h⟩ := h
  refine sh_icmp_ge (pc := 33) (tgt := 59) dX6_darkness_33 (by decide) hb_1 (bd_lit (by decide)) (fun q_2 => ?_) (fun q_2 => ?_)
  · replace h := h.1 q_2
    refine k_iinc (pc := 59) [some (.inr 1), some (.inl y1), some (.inl y2), some (.inl (y3 + 1)), some (.inl y4)] dX6_darkness_59 rfl rfl (by decide) ?_
    refine sh_goto (pc := 62) (tgt := 13) dX6_darkness_62 (by decide) ?_
    exact sh_O.locals h (sub_some (sub_some (sub_some (sub_some (sub_none sub_nil)))))
  · replace h := h.2 q_2
    refine sh_aload_n (pc := 36) dX6_darkness_36 rfl rfl ?_
    refine sh_getR (pc := 37) dX6_darkness_37 fl_X6_12 rfl is_1 pt_1_0 ?_
    refine sh_iload_n (pc := 40) dX6_darkness_40 rfl rfl ?_
    refine sh_iload_n (pc := 41) dX6_darkness_41 rfl rfl ?_
    refine sh_iload (pc := 42) dX6_darkness_42 rfl ?_
    refine k_V3i (pc := 44) (is_P isP_oP) dX6_darkness_44 lk_X6_184 rfl h (fun v5 I3 h => ?_)
    rcases h with ⟨rfl, h⟩ | ⟨rfl, h⟩
    · skip
      refine sh_if_eq (pc := 47) (tgt := 53) dX6_darkness_47 (by decide) (bd_lit (by decide)) (fun qz => ?_) (fun qz => ?_)
      · exact absurd qz (by decide)
      · skip
        refine k_iinc (pc := 50) [some (.inr 1), some (.inl y1), some (.inl (y2 + 1)), some (.inl y3), some (.inl y4)] dX6_darkness_50 rfl rfl (by decide) ?_
        refine k_iinc (pc := 53) [some (.inr 1), some (.inl y1), some (.inl (y2 + 1)), some (.inl y3), some (.inl (y4 + 1))] dX6_darkness_53 rfl rfl (by decide) ?_
        refine sh_goto (pc := 56) (tgt := 30) dX6_darkness_56 (by decide) ?_
        exact sh_O.locals h (sub_some (sub_some (sub_some (sub_some (sub_some sub_nil)))))
    · skip
      refine sh_if_eq (pc := 47) (tgt := 53) dX6_darkness_47 (by decide) (bd_lit (by decide)) (fun qz => ?_) (fun qz => ?_)
      · skip
        refine k_iinc (pc := 53) [some (.inr 1), some (.inl y1), some (.inl y2), some (.inl y3), some (.inl (y4 + 1))] dX6_darkness_53 rfl rfl (by decide) ?_
        refine sh_goto (pc := 56) (tgt := 30) dX6_darkness_56 (by decide) ?_
        exact sh_O.locals h (sub_some (sub_some (sub_some (sub_some (sub_some sub_nil)))))
      · exact absurd qz (by decide)
set_option maxRecDepth 100000 in
set_option maxHeartbeats 4000000 in
theorem eX6_looked {x1 : Int} {I : sh_Mem} {Q : Int → sh_Mem → Prop} (h : (cc mX6_isCell [.inl x1] I (qi fun v3 I1 => ((v3 = 1 ∧ kk mX6_looked 13 [some (.inr 1), some (.inl x1), some (.inl 0), some (.inl 0)] [] I1 (qi Q)) ∨ (v3 = 0 ∧ Q (-1) I1))))) : cc mX6_looked [.inr 1, .inl x1] I (qi Q) := by
  refine sh_call cd_X6_looked.2.2.2 (Nat.le_of_ble_eq_true rfl) ?_
  show kk mX6_looked 0 [some (.inr 1), some (.inl x1), none, none] [] I (qi Q)
  refine sh_iload_n (pc := 0) dX6_looked_0 rfl rfl ?_
  refine k_S1i (pc := 1) dX6_looked_1 lk_X6_181 rfl h (fun v3 I1 h => ?_)
  rcases h with ⟨rfl, h⟩ | ⟨rfl, h⟩
  · skip
    refine sh_if_ne (pc := 4) (tgt := 9) dX6_looked_4 (by decide) (bd_lit (by decide)) (fun qz => ?_) (fun qz => ?_)
    · skip
      refine sh_iconst (pc := 9) (v := 0) dX6_looked_9 rfl ?_
      refine k_istore_n (pc := 10) [some (.inr 1), some (.inl x1), some (.inl 0), none] dX6_looked_10 rfl rfl (by decide) ?_
      refine sh_iconst (pc := 11) (v := 0) dX6_looked_11 rfl ?_
      refine k_istore_n (pc := 12) [some (.inr 1), some (.inl x1), some (.inl 0), some (.inl 0)] dX6_looked_12 rfl rfl (by decide) ?_
      exact sh_O.locals h (sub_some (sub_some (sub_some (sub_some sub_nil))))
    · exact absurd qz (by decide)
  · skip
    refine sh_if_ne (pc := 4) (tgt := 9) dX6_looked_4 (by decide) (bd_lit (by decide)) (fun qz => ?_) (fun qz => ?_)
    · exact absurd qz (by decide)
    · skip
      refine sh_iconst (pc := 7) (v := (-1)) dX6_looked_7 rfl ?_
      exact k_iret dX6_looked_8 rfl h
set_option maxRecDepth 100000 in
set_option maxHeartbeats 4000000 in
theorem lX6_looked_13 {y1 : Int} {y2 : Int} {y3 : Int} {I : sh_Mem} {Q : Int → sh_Mem → Prop} (h : (sh_Bd y3 ∧ ((3 ≤ y3 → Q y2 I) ∧ (y3 < 3 → (cc mX4_shadowerOf [.inr oP, .inl y1, .inl y3] I (qi fun v5 I3 => (sh_Bd v5 ∧ ((v5 = (-5) → kk mX6_looked 13 [some (.inr 1), some (.inl y1), some (.inl y2), some (.inl (y3 + 1))] [] I3 (qi Q)) ∧ (¬ v5 = (-5) → kk mX6_looked 13 [some (.inr 1), some (.inl y1), some (.inl (y2 + 1)), some (.inl (y3 + 1))] [] I3 (qi Q)))))))))) : kk mX6_looked 13 [some (.inr 1), some (.inl y1), some (.inl y2), some (.inl y3)] [] I (qi Q) := by
  refine sh_iload_n (pc := 13) dX6_looked_13 rfl rfl ?_
  refine sh_iconst (pc := 14) (v := 3) dX6_looked_14 rfl ?_
  obtain ⟨hb_1, h⟩ := h
  refine sh_icmp_ge (pc := 15) (tgt := 41) dX6_looked_15 (by decide) hb_1 (bd_lit (by decide)) (fun q_2 => ?_) (fun q_2 => ?_)
  · replace h := h.1 q_2
    refine sh_iload_n (pc := 41) dX6_looked_41 rfl rfl ?_
    exact k_iret dX6_looked_42 rfl h
  · replace h := h.2 q_2
    refine sh_aload_n (pc := 18) dX6_looked_18 rfl rfl ?_
    refine sh_getR (pc := 19) dX6_looked_19 fl_X6_12 rfl is_1 pt_1_0 ?_
    refine sh_iload_n (pc := 22) dX6_looked_22 rfl rfl ?_
    refine sh_iload_n (pc := 23) dX6_looked_23 rfl rfl ?_
    refine k_V2i (pc := 24) (is_P isP_oP) dX6_looked_24 lk_X6_188 rfl h (fun v5 I3 h => ?_)
    refine sh_bipush (pc := 27) (v := (-5)) dX6_looked_27 (by decide) ?_
    obtain ⟨hb_6, h⟩ := h
    refine sh_icmp_eq (pc := 29) (tgt := 35) dX6_looked_29 (by decide) hb_6 (bd_lit (by decide)) (fun q_7 => ?_) (fun q_7 => ?_)
    · replace h := h.1 q_7
      refine k_iinc (pc := 35) [some (.inr 1), some (.inl y1), some (.inl y2), some (.inl (y3 + 1))] dX6_looked_35 rfl rfl (by decide) ?_
      refine sh_goto (pc := 38) (tgt := 13) dX6_looked_38 (by decide) ?_
      exact sh_O.locals h (sub_some (sub_some (sub_some (sub_some sub_nil))))
    · replace h := h.2 q_7
      refine k_iinc (pc := 32) [some (.inr 1), some (.inl y1), some (.inl (y2 + 1)), some (.inl y3)] dX6_looked_32 rfl rfl (by decide) ?_
      refine k_iinc (pc := 35) [some (.inr 1), some (.inl y1), some (.inl (y2 + 1)), some (.inl (y3 + 1))] dX6_looked_35 rfl rfl (by decide) ?_
      refine sh_goto (pc := 38) (tgt := 13) dX6_looked_38 (by decide) ?_
      exact sh_O.locals h (sub_some (sub_some (sub_some (sub_some sub_nil))))
set_option maxRecDepth 100000 in
set_option maxHeartbeats 4000000 in
theorem eX6_at {x1 : Int} {I : sh_Mem} {Q : Int → sh_Mem → Prop} (h : (cc mX6_isCell [.inl x1] I (qi fun v3 I1 => ((v3 = 1 ∧ (cc mX5_standingOn [.inr (oP + 1), .inl x1] I1 (qi fun v6 I4 => Q v6 I4))) ∨ (v3 = 0 ∧ Q (-1) I1))))) : cc mX6_at [.inr 1, .inl x1] I (qi Q) := by
  refine sh_call cd_X6_at.2.2.2 (Nat.le_of_ble_eq_true rfl) ?_
  show kk mX6_at 0 [some (.inr 1), some (.inl x1)] [] I (qi Q)
  refine sh_iload_n (pc := 0) dX6_at_0 rfl rfl ?_
  refine k_S1i (pc := 1) dX6_at_1 lk_X6_181 rfl h (fun v3 I1 h => ?_)
  rcases h with ⟨rfl, h⟩ | ⟨rfl, h⟩
  · skip
    refine sh_if_eq (pc := 4) (tgt := 21) dX6_at_4 (by decide) (bd_lit (by decide)) (fun qz => ?_) (fun qz => ?_)
    · exact absurd qz (by decide)
    · skip
      refine sh_aload_n (pc := 7) dX6_at_7 rfl rfl ?_
      refine sh_getR (pc := 8) dX6_at_8 fl_X6_12 rfl is_1 pt_1_0 ?_
      refine sh_getR (pc := 11) dX6_at_11 fl_X6_58 rfl (is_P isP_oP) (pt_P0 isP_oP) ?_
      refine sh_iload_n (pc := 14) dX6_at_14 rfl rfl ?_
      refine k_V1i (pc := 15) (is_R isP_oP) dX6_at_15 lk_X6_178 rfl h (fun v6 I4 h => ?_)
      refine sh_goto (pc := 18) (tgt := 22) dX6_at_18 (by decide) ?_
      exact k_iret dX6_at_22 rfl h
  · skip
    refine sh_if_eq (pc := 4) (tgt := 21) dX6_at_4 (by decide) (bd_lit (by decide)) (fun qz => ?_) (fun qz => ?_)
    · skip
      refine sh_iconst (pc := 21) (v := (-1)) dX6_at_21 rfl ?_
      exact k_iret dX6_at_22 rfl h
    · exact absurd qz (by decide)
set_option maxRecDepth 100000 in
set_option maxHeartbeats 4000000 in
theorem eX6_reason {x1 : Int} {I : sh_Mem} {Q : Int → sh_Mem → Prop} (h : (cc mX5_has [.inr (oP + 1), .inl x1] I (qi fun v3 I1 => ((v3 = 1 ∧ (sh_Bd x1 ∧ (sh_Bd (I1 (oP + 1) 8) ∧ ((¬ x1 = (I1 (oP + 1) 8) → (cc mX4_hasShadow [.inr oP, .inl x1] I1 (qi fun v9 I7 => ((v9 = 1 ∧ ((0 ≤ x1 ∧ x1 < (6 : Int)) ∧ (sh_Bd (I7 (oP + 5) x1) ∧ (((I7 (oP + 5) x1) = 0 → (cc mX4_catcherStandsInShadowOf [.inr oP, .inl x1] I7 (qi fun v15 I13 => ((v15 = 1 ∧ (cc mX4_firstCaught [.inr oP] I13 (qi fun v18 I16 => (sh_Bd v18 ∧ ((¬ v18 = x1 → Q 5 I16) ∧ (v18 = x1 → Q 0 I16)))))) ∨ (v15 = 0 ∧ Q 4 I13))))) ∧ (¬ (I7 (oP + 5) x1) = 0 → Q 3 I7))))) ∨ (v9 = 0 ∧ Q 2 I7))))) ∧ (x1 = (I1 (oP + 1) 8) → Q 1 I1))))) ∨ (v3 = 0 ∧ Q (-1) I1))))) : cc mX6_reason [.inr 1, .inl x1] I (qi Q) := by
  refine sh_call cd_X6_reason.2.2.2 (Nat.le_of_ble_eq_true rfl) ?_
  show kk mX6_reason 0 [some (.inr 1), some (.inl x1), none] [] I (qi Q)
  refine sh_aload_n (pc := 0) dX6_reason_0 rfl rfl ?_
  refine sh_getR (pc := 1) dX6_reason_1 fl_X6_12 rfl is_1 pt_1_0 ?_
  refine sh_getR (pc := 4) dX6_reason_4 fl_X6_58 rfl (is_P isP_oP) (pt_P0 isP_oP) ?_
  refine k_astore_n (pc := 7) [some (.inr 1), some (.inl x1), some (.inr (oP + 1))] dX6_reason_7 rfl rfl (by decide) ?_
  refine sh_aload_n (pc := 8) dX6_reason_8 rfl rfl ?_
  refine sh_iload_n (pc := 9) dX6_reason_9 rfl rfl ?_
  refine k_V1i (pc := 10) (is_R isP_oP) dX6_reason_10 lk_X6_126 rfl h (fun v3 I1 h => ?_)
  rcases h with ⟨rfl, h⟩ | ⟨rfl, h⟩
  · skip
    refine sh_if_ne (pc := 13) (tgt := 18) dX6_reason_13 (by decide) (bd_lit (by decide)) (fun qz => ?_) (fun qz => ?_)
    · skip
      refine sh_iload_n (pc := 18) dX6_reason_18 rfl rfl ?_
      refine sh_aload_n (pc := 19) dX6_reason_19 rfl rfl ?_
      refine sh_getI (pc := 20) (g := 8) dX6_reason_20 fl_X6_191 rfl (is_R isP_oP) rfl ?_
      obtain ⟨hb_4, h⟩ := h
      obtain ⟨hb_5, h⟩ := h
      refine sh_icmp_ne (pc := 23) (tgt := 28) dX6_reason_23 (by decide) hb_4 hb_5 (fun q_6 => ?_) (fun q_6 => ?_)
      · replace h := h.1 q_6
        refine sh_aload_n (pc := 28) dX6_reason_28 rfl rfl ?_
        refine sh_getR (pc := 29) dX6_reason_29 fl_X6_12 rfl is_1 pt_1_0 ?_
        refine sh_iload_n (pc := 32) dX6_reason_32 rfl rfl ?_
        refine k_V1i (pc := 33) (is_P isP_oP) dX6_reason_33 lk_X6_194 rfl h (fun v9 I7 h => ?_)
        rcases h with ⟨rfl, h⟩ | ⟨rfl, h⟩
        · skip
          refine sh_if_ne (pc := 36) (tgt := 41) dX6_reason_36 (by decide) (bd_lit (by decide)) (fun qz => ?_) (fun qz => ?_)
          · skip
            refine sh_aload_n (pc := 41) dX6_reason_41 rfl rfl ?_
            refine sh_getR (pc := 42) dX6_reason_42 fl_X6_139 rfl (is_R isP_oP) (pt_R3 isP_oP) ?_
            refine sh_iload_n (pc := 45) dX6_reason_45 rfl rfl ?_
            obtain ⟨hi_10, h⟩ := h
            refine sh_iald (pc := 46) dX6_reason_46 (is_P5 isP_oP) (by decide) hi_10 ?_
            obtain ⟨hb_11, h⟩ := h
            refine sh_if_eq (pc := 47) (tgt := 52) dX6_reason_47 (by decide) hb_11  (fun q_12 => ?_) (fun q_12 => ?_)
            · replace h := h.1 q_12
              refine sh_aload_n (pc := 52) dX6_reason_52 rfl rfl ?_
              refine sh_getR (pc := 53) dX6_reason_53 fl_X6_12 rfl is_1 pt_1_0 ?_
              refine sh_iload_n (pc := 56) dX6_reason_56 rfl rfl ?_
              refine k_V1i (pc := 57) (is_P isP_oP) dX6_reason_57 lk_X6_197 rfl h (fun v15 I13 h => ?_)
              rcases h with ⟨rfl, h⟩ | ⟨rfl, h⟩
              · skip
                refine sh_if_ne (pc := 60) (tgt := 65) dX6_reason_60 (by decide) (bd_lit (by decide)) (fun qz => ?_) (fun qz => ?_)
                · skip
                  refine sh_aload_n (pc := 65) dX6_reason_65 rfl rfl ?_
                  refine sh_getR (pc := 66) dX6_reason_66 fl_X6_12 rfl is_1 pt_1_0 ?_
                  refine k_V0i (pc := 69) (is_P isP_oP) dX6_reason_69 lk_X6_200 rfl h (fun v18 I16 h => ?_)
                  refine sh_iload_n (pc := 72) dX6_reason_72 rfl rfl ?_
                  obtain ⟨hb_19, h⟩ := h
                  refine sh_icmp_ne (pc := 73) (tgt := 80) dX6_reason_73 (by decide) hb_19 hb_4 (fun q_20 => ?_) (fun q_20 => ?_)
                  · replace h := h.1 q_20
                    refine sh_iconst (pc := 80) (v := 5) dX6_reason_80 rfl ?_
                    exact k_iret dX6_reason_81 rfl h
                  · replace h := h.2 q_20
                    refine sh_iconst (pc := 76) (v := 0) dX6_reason_76 rfl ?_
                    refine sh_goto (pc := 77) (tgt := 81) dX6_reason_77 (by decide) ?_
                    exact k_iret dX6_reason_81 rfl h
                · exact absurd qz (by decide)
              · skip
                refine sh_if_ne (pc := 60) (tgt := 65) dX6_reason_60 (by decide) (bd_lit (by decide)) (fun qz => ?_) (fun qz => ?_)
                · exact absurd qz (by decide)
                · skip
                  refine sh_iconst (pc := 63) (v := 4) dX6_reason_63 rfl ?_
                  exact k_iret dX6_reason_64 rfl h
            · replace h := h.2 q_12
              refine sh_iconst (pc := 50) (v := 3) dX6_reason_50 rfl ?_
              exact k_iret dX6_reason_51 rfl h
          · exact absurd qz (by decide)
        · skip
          refine sh_if_ne (pc := 36) (tgt := 41) dX6_reason_36 (by decide) (bd_lit (by decide)) (fun qz => ?_) (fun qz => ?_)
          · exact absurd qz (by decide)
          · skip
            refine sh_iconst (pc := 39) (v := 2) dX6_reason_39 rfl ?_
            exact k_iret dX6_reason_40 rfl h
      · replace h := h.2 q_6
        refine sh_iconst (pc := 26) (v := 1) dX6_reason_26 rfl ?_
        exact k_iret dX6_reason_27 rfl h
    · exact absurd qz (by decide)
  · skip
    refine sh_if_ne (pc := 13) (tgt := 18) dX6_reason_13 (by decide) (bd_lit (by decide)) (fun qz => ?_) (fun qz => ?_)
    · exact absurd qz (by decide)
    · skip
      refine sh_iconst (pc := 16) (v := (-1)) dX6_reason_16 rfl ?_
      exact k_iret dX6_reason_17 rfl h
set_option maxRecDepth 100000 in
set_option maxHeartbeats 4000000 in
theorem eX6_stepsTo {x1 : Int} {I : sh_Mem} {Q : Int → sh_Mem → Prop} (h : (cc mX5_has [.inr (oP + 1), .inl x1] I (qi fun v3 I1 => ((v3 = 1 ∧ (cc mX5_has [.inr (oP + 1), .inl (I (oP + 1) 8)] I1 (qi fun v6 I4 => ((v6 = 1 ∧ (sh_Bd x1 ∧ (sh_Bd (I (oP + 1) 8) ∧ ((x1 = (I (oP + 1) 8) → Q (-4) I4) ∧ (¬ x1 = (I (oP + 1) 8) → ((0 ≤ x1 ∧ x1 < (6 : Int)) ∧ (sh_Bd (I4 (oP + 5) x1) ∧ ((¬ (I4 (oP + 5) x1) = 0 → Q (-4) I4) ∧ ((I4 (oP + 5) x1) = 0 → (cc mX4_hasShadow [.inr oP, .inl x1] I4 (qi fun v15 I13 => ((v15 = 1 ∧ (cc mX0_clear [.inr 114] I13 (qv fun I16 => (cc mX4_darkenShadowsOf [.inr oP, .inl x1, .inr 114] I16 (qv fun I18 => kk mX6_stepsTo 81 [some (.inr 1), none, some (.inr (oP + 1)), some (.inl (I (oP + 1) 8)), some (.inl 0)] [] I18 (qi Q)))))) ∨ (v15 = 0 ∧ Q (-4) I13))))))))))))) ∨ (v6 = 0 ∧ Q (-1) I4))))) ∨ (v3 = 0 ∧ Q (-1) I1))))) : cc mX6_stepsTo [.inr 1, .inl x1] I (qi Q) := by
  refine sh_call cd_X6_stepsTo.2.2.2 (Nat.le_of_ble_eq_true rfl) ?_
  show kk mX6_stepsTo 0 [some (.inr 1), some (.inl x1), none, none, none] [] I (qi Q)
  refine sh_aload_n (pc := 0) dX6_stepsTo_0 rfl rfl ?_
  refine sh_getR (pc := 1) dX6_stepsTo_1 fl_X6_12 rfl is_1 pt_1_0 ?_
  refine sh_getR (pc := 4) dX6_stepsTo_4 fl_X6_58 rfl (is_P isP_oP) (pt_P0 isP_oP) ?_
  refine k_astore_n (pc := 7) [some (.inr 1), some (.inl x1), some (.inr (oP + 1)), none, none] dX6_stepsTo_7 rfl rfl (by decide) ?_
  refine sh_aload_n (pc := 8) dX6_stepsTo_8 rfl rfl ?_
  refine sh_getI (pc := 9) (g := 8) dX6_stepsTo_9 fl_X6_191 rfl (is_R isP_oP) rfl ?_
  refine k_istore_n (pc := 12) [some (.inr 1), some (.inl x1), some (.inr (oP + 1)), some (.inl (I (oP + 1) 8)), none] dX6_stepsTo_12 rfl rfl (by decide) ?_
  refine sh_aload_n (pc := 13) dX6_stepsTo_13 rfl rfl ?_
  refine sh_iload_n (pc := 14) dX6_stepsTo_14 rfl rfl ?_
  refine k_V1i (pc := 15) (is_R isP_oP) dX6_stepsTo_15 lk_X6_126 rfl h (fun v3 I1 h => ?_)
  rcases h with ⟨rfl, h⟩ | ⟨rfl, h⟩
  · skip
    refine sh_if_eq (pc := 18) (tgt := 29) dX6_stepsTo_18 (by decide) (bd_lit (by decide)) (fun qz => ?_) (fun qz => ?_)
    · exact absurd qz (by decide)
    · skip
      refine sh_aload_n (pc := 21) dX6_stepsTo_21 rfl rfl ?_
      refine sh_iload_n (pc := 22) dX6_stepsTo_22 rfl rfl ?_
      refine k_V1i (pc := 23) (is_R isP_oP) dX6_stepsTo_23 lk_X6_126 rfl h (fun v6 I4 h => ?_)
      rcases h with ⟨rfl, h⟩ | ⟨rfl, h⟩
      · skip
        refine sh_if_ne (pc := 26) (tgt := 31) dX6_stepsTo_26 (by decide) (bd_lit (by decide)) (fun qz => ?_) (fun qz => ?_)
        · skip
          refine sh_iload_n (pc := 31) dX6_stepsTo_31 rfl rfl ?_
          refine sh_iload_n (pc := 32) dX6_stepsTo_32 rfl rfl ?_
          obtain ⟨hb_7, h⟩ := h
          obtain ⟨hb_8, h⟩ := h
          refine sh_icmp_eq (pc := 33) (tgt := 56) dX6_stepsTo_33 (by decide) hb_7 hb_8 (fun q_9 => ?_) (fun q_9 => ?_)
          · replace h := h.1 q_9
            refine sh_bipush (pc := 56) (v := (-4)) dX6_stepsTo_56 (by decide) ?_
            exact k_iret dX6_stepsTo_58 rfl h
          · replace h := h.2 q_9
            refine sh_aload_n (pc := 36) dX6_stepsTo_36 rfl rfl ?_
            refine sh_getR (pc := 37) dX6_stepsTo_37 fl_X6_139 rfl (is_R isP_oP) (pt_R3 isP_oP) ?_
            refine sh_iload_n (pc := 40) dX6_stepsTo_40 rfl rfl ?_
            obtain ⟨hi_10, h⟩ := h
            refine sh_iald (pc := 41) dX6_stepsTo_41 (is_P5 isP_oP) (by decide) hi_10 ?_
            obtain ⟨hb_11, h⟩ := h
            refine sh_if_ne (pc := 42) (tgt := 56) dX6_stepsTo_42 (by decide) hb_11  (fun q_12 => ?_) (fun q_12 => ?_)
            · replace h := h.1 q_12
              refine sh_bipush (pc := 56) (v := (-4)) dX6_stepsTo_56 (by decide) ?_
              exact k_iret dX6_stepsTo_58 rfl h
            · replace h := h.2 q_12
              refine sh_aload_n (pc := 45) dX6_stepsTo_45 rfl rfl ?_
              refine sh_getR (pc := 46) dX6_stepsTo_46 fl_X6_12 rfl is_1 pt_1_0 ?_
              refine sh_iload_n (pc := 49) dX6_stepsTo_49 rfl rfl ?_
              refine k_V1i (pc := 50) (is_P isP_oP) dX6_stepsTo_50 lk_X6_194 rfl h (fun v15 I13 h => ?_)
              rcases h with ⟨rfl, h⟩ | ⟨rfl, h⟩
              · skip
                refine sh_if_ne (pc := 53) (tgt := 59) dX6_stepsTo_53 (by decide) (bd_lit (by decide)) (fun qz => ?_) (fun qz => ?_)
                · skip
                  refine sh_aload_n (pc := 59) dX6_stepsTo_59 rfl rfl ?_
                  refine sh_getR (pc := 60) dX6_stepsTo_60 fl_X6_39 rfl is_1 pt_1_5 ?_
                  refine k_V0v (pc := 63) is_114 dX6_stepsTo_63 lk_X6_203 rfl h (fun I16 h => ?_)
                  refine sh_aload_n (pc := 66) dX6_stepsTo_66 rfl rfl ?_
                  refine sh_getR (pc := 67) dX6_stepsTo_67 fl_X6_12 rfl is_1 pt_1_0 ?_
                  refine sh_iload_n (pc := 70) dX6_stepsTo_70 rfl rfl ?_
                  refine sh_aload_n (pc := 71) dX6_stepsTo_71 rfl rfl ?_
                  refine sh_getR (pc := 72) dX6_stepsTo_72 fl_X6_39 rfl is_1 pt_1_5 ?_
                  refine k_V2v (pc := 75) (is_P isP_oP) dX6_stepsTo_75 lk_X6_205 rfl h (fun I18 h => ?_)
                  refine sh_iconst (pc := 78) (v := 0) dX6_stepsTo_78 rfl ?_
                  refine k_istore (pc := 79) [some (.inr 1), some (.inl x1), some (.inr (oP + 1)), some (.inl (I (oP + 1) 8)), some (.inl 0)] dX6_stepsTo_79 rfl (by decide) ?_
                  exact sh_O.locals h (sub_some (sub_none (sub_some (sub_some (sub_some sub_nil)))))
                · exact absurd qz (by decide)
              · skip
                refine sh_if_ne (pc := 53) (tgt := 59) dX6_stepsTo_53 (by decide) (bd_lit (by decide)) (fun qz => ?_) (fun qz => ?_)
                · exact absurd qz (by decide)
                · skip
                  refine sh_bipush (pc := 56) (v := (-4)) dX6_stepsTo_56 (by decide) ?_
                  exact k_iret dX6_stepsTo_58 rfl h
        · exact absurd qz (by decide)
      · skip
        refine sh_if_ne (pc := 26) (tgt := 31) dX6_stepsTo_26 (by decide) (bd_lit (by decide)) (fun qz => ?_) (fun qz => ?_)
        · exact absurd qz (by decide)
        · skip
          refine sh_iconst (pc := 29) (v := (-1)) dX6_stepsTo_29 rfl ?_
          exact k_iret dX6_stepsTo_30 rfl h
  · skip
    refine sh_if_eq (pc := 18) (tgt := 29) dX6_stepsTo_18 (by decide) (bd_lit (by decide)) (fun qz => ?_) (fun qz => ?_)
    · skip
      refine sh_iconst (pc := 29) (v := (-1)) dX6_stepsTo_29 rfl ?_
      exact k_iret dX6_stepsTo_30 rfl h
    · exact absurd qz (by decide)
set_option maxRecDepth 100000 in
set_option maxHeartbeats 4000000 in
theorem lX6_stepsTo_81 {y3 : Int} {y4 : Int} {I : sh_Mem} {Q : Int → sh_Mem → Prop} (h : (sh_Bd y4 ∧ (sh_Bd (I (oP + 1) 7) ∧ (((I (oP + 1) 7) ≤ y4 → ((0 ≤ y3 ∧ y3 < (6 : Int)) ∧ (cc mX0_stepsIntoTheDark [.inr 114, .inl (I (oP + 2) y3)] I (qi fun v7 I5 => Q v7 I5)))) ∧ (y4 < (I (oP + 1) 7) → ((6 ≤ y4 → ((0 ≤ y3 ∧ y3 < (6 : Int)) ∧ (cc mX0_stepsIntoTheDark [.inr 114, .inl (I (oP + 2) y3)] I (qi fun v12 I10 => Q v12 I10)))) ∧ (y4 < 6 → (sh_Bd y3 ∧ ((y4 = y3 → kk mX6_stepsTo 81 [some (.inr 1), none, some (.inr (oP + 1)), some (.inl y3), some (.inl (y4 + 1))] [] I (qi Q)) ∧ (¬ y4 = y3 → ((0 ≤ y4 ∧ y4 < (6 : Int)) ∧ (cc mX0_block [.inr 114, .inl (I (oP + 2) y4)] I (qv fun I16 => kk mX6_stepsTo 81 [some (.inr 1), none, some (.inr (oP + 1)), some (.inl y3), some (.inl (y4 + 1))] [] I16 (qi Q)))))))))))))) : kk mX6_stepsTo 81 [some (.inr 1), none, some (.inr (oP + 1)), some (.inl y3), some (.inl y4)] [] I (qi Q) := by
  refine sh_iload (pc := 81) dX6_stepsTo_81 rfl ?_
  refine sh_aload_n (pc := 83) dX6_stepsTo_83 rfl rfl ?_
  refine sh_getI (pc := 84) (g := 7) dX6_stepsTo_84 fl_X6_123 rfl (is_R isP_oP) rfl ?_
  obtain ⟨hb_1, h⟩ := h
  obtain ⟨hb_2, h⟩ := h
  refine sh_icmp_ge (pc := 87) (tgt := 123) dX6_stepsTo_87 (by decide) hb_1 hb_2 (fun q_3 => ?_) (fun q_3 => ?_)
  · replace h := h.1 q_3
    refine sh_aload_n (pc := 123) dX6_stepsTo_123 rfl rfl ?_
    refine sh_getR (pc := 124) dX6_stepsTo_124 fl_X6_39 rfl is_1 pt_1_5 ?_
    refine sh_aload_n (pc := 127) dX6_stepsTo_127 rfl rfl ?_
    refine sh_getR (pc := 128) dX6_stepsTo_128 fl_X6_130 rfl (is_R isP_oP) (pt_R0 isP_oP) ?_
    refine sh_iload_n (pc := 131) dX6_stepsTo_131 rfl rfl ?_
    obtain ⟨hi_4, h⟩ := h
    refine sh_iald (pc := 132) dX6_stepsTo_132 (is_P2 isP_oP) (by decide) hi_4 ?_
    refine k_V1i (pc := 133) is_114 dX6_stepsTo_133 lk_X6_213 rfl h (fun v7 I5 h => ?_)
    exact k_iret dX6_stepsTo_136 rfl h
  · replace h := h.2 q_3
    refine sh_iload (pc := 90) dX6_stepsTo_90 rfl ?_
    refine sh_bipush (pc := 92) (v := 6) dX6_stepsTo_92 (by decide) ?_
    refine sh_icmp_ge (pc := 94) (tgt := 123) dX6_stepsTo_94 (by decide) hb_1 (bd_lit (by decide)) (fun q_8 => ?_) (fun q_8 => ?_)
    · replace h := h.1 q_8
      refine sh_aload_n (pc := 123) dX6_stepsTo_123 rfl rfl ?_
      refine sh_getR (pc := 124) dX6_stepsTo_124 fl_X6_39 rfl is_1 pt_1_5 ?_
      refine sh_aload_n (pc := 127) dX6_stepsTo_127 rfl rfl ?_
      refine sh_getR (pc := 128) dX6_stepsTo_128 fl_X6_130 rfl (is_R isP_oP) (pt_R0 isP_oP) ?_
      refine sh_iload_n (pc := 131) dX6_stepsTo_131 rfl rfl ?_
      obtain ⟨hi_9, h⟩ := h
      refine sh_iald (pc := 132) dX6_stepsTo_132 (is_P2 isP_oP) (by decide) hi_9 ?_
      refine k_V1i (pc := 133) is_114 dX6_stepsTo_133 lk_X6_213 rfl h (fun v12 I10 h => ?_)
      exact k_iret dX6_stepsTo_136 rfl h
    · replace h := h.2 q_8
      refine sh_iload (pc := 97) dX6_stepsTo_97 rfl ?_
      refine sh_iload_n (pc := 99) dX6_stepsTo_99 rfl rfl ?_
      obtain ⟨hb_13, h⟩ := h
      refine sh_icmp_eq (pc := 100) (tgt := 117) dX6_stepsTo_100 (by decide) hb_1 hb_13 (fun q_14 => ?_) (fun q_14 => ?_)
      · replace h := h.1 q_14
        refine k_iinc (pc := 117) [some (.inr 1), none, some (.inr (oP + 1)), some (.inl y3), some (.inl (y4 + 1))] dX6_stepsTo_117 rfl rfl (by decide) ?_
        refine sh_goto (pc := 120) (tgt := 81) dX6_stepsTo_120 (by decide) ?_
        exact sh_O.locals h (sub_some (sub_none (sub_some (sub_some (sub_some sub_nil)))))
      · replace h := h.2 q_14
        refine sh_aload_n (pc := 103) dX6_stepsTo_103 rfl rfl ?_
        refine sh_getR (pc := 104) dX6_stepsTo_104 fl_X6_39 rfl is_1 pt_1_5 ?_
        refine sh_aload_n (pc := 107) dX6_stepsTo_107 rfl rfl ?_
        refine sh_getR (pc := 108) dX6_stepsTo_108 fl_X6_130 rfl (is_R isP_oP) (pt_R0 isP_oP) ?_
        refine sh_iload (pc := 111) dX6_stepsTo_111 rfl ?_
        obtain ⟨hi_15, h⟩ := h
        refine sh_iald (pc := 113) dX6_stepsTo_113 (is_P2 isP_oP) (by decide) hi_15 ?_
        refine k_V1v (pc := 114) is_114 dX6_stepsTo_114 lk_X6_209 rfl h (fun I16 h => ?_)
        refine k_iinc (pc := 117) [some (.inr 1), none, some (.inr (oP + 1)), some (.inl y3), some (.inl (y4 + 1))] dX6_stepsTo_117 rfl rfl (by decide) ?_
        refine sh_goto (pc := 120) (tgt := 81) dX6_stepsTo_120 (by decide) ?_
        exact sh_O.locals h (sub_some (sub_none (sub_some (sub_some (sub_some sub_nil)))))
set_option maxRecDepth 100000 in
set_option maxHeartbeats 4000000 in
theorem eX6_safest  {I : sh_Mem} {Q : Int → sh_Mem → Prop} (h : (sh_Bd (I (oP + 1) 7) ∧ ((2 ≤ (I (oP + 1) 7) → kk mX6_safest 27 [some (.inr 1), some (.inr (oP + 1)), some (.inl (-5)), some (.inl (-1)), some (.inl 0), none] [] I (qi Q)) ∧ ((I (oP + 1) 7) < 2 → Q (-5) I)))) : cc mX6_safest [.inr 1] I (qi Q) := by
  refine sh_call cd_X6_safest.2.2.2 (Nat.le_of_ble_eq_true rfl) ?_
  show kk mX6_safest 0 [some (.inr 1), none, none, none, none, none] [] I (qi Q)
  refine sh_aload_n (pc := 0) dX6_safest_0 rfl rfl ?_
  refine sh_getR (pc := 1) dX6_safest_1 fl_X6_12 rfl is_1 pt_1_0 ?_
  refine sh_getR (pc := 4) dX6_safest_4 fl_X6_58 rfl (is_P isP_oP) (pt_P0 isP_oP) ?_
  refine k_astore_n (pc := 7) [some (.inr 1), some (.inr (oP + 1)), none, none, none, none] dX6_safest_7 rfl rfl (by decide) ?_
  refine sh_aload_n (pc := 8) dX6_safest_8 rfl rfl ?_
  refine sh_getI (pc := 9) (g := 7) dX6_safest_9 fl_X6_123 rfl (is_R isP_oP) rfl ?_
  refine sh_iconst (pc := 12) (v := 2) dX6_safest_12 rfl ?_
  obtain ⟨hb_1, h⟩ := h
  refine sh_icmp_ge (pc := 13) (tgt := 19) dX6_safest_13 (by decide) hb_1 (bd_lit (by decide)) (fun q_2 => ?_) (fun q_2 => ?_)
  · replace h := h.1 q_2
    refine sh_bipush (pc := 19) (v := (-5)) dX6_safest_19 (by decide) ?_
    refine k_istore_n (pc := 21) [some (.inr 1), some (.inr (oP + 1)), some (.inl (-5)), none, none, none] dX6_safest_21 rfl rfl (by decide) ?_
    refine sh_iconst (pc := 22) (v := (-1)) dX6_safest_22 rfl ?_
    refine k_istore_n (pc := 23) [some (.inr 1), some (.inr (oP + 1)), some (.inl (-5)), some (.inl (-1)), none, none] dX6_safest_23 rfl rfl (by decide) ?_
    refine sh_iconst (pc := 24) (v := 0) dX6_safest_24 rfl ?_
    refine k_istore (pc := 25) [some (.inr 1), some (.inr (oP + 1)), some (.inl (-5)), some (.inl (-1)), some (.inl 0), none] dX6_safest_25 rfl (by decide) ?_
    exact sh_O.locals h (sub_some (sub_some (sub_some (sub_some (sub_some (sub_none sub_nil))))))
  · replace h := h.2 q_2
    refine sh_bipush (pc := 16) (v := (-5)) dX6_safest_16 (by decide) ?_
    exact k_iret dX6_safest_18 rfl h
set_option maxRecDepth 100000 in
set_option maxHeartbeats 4000000 in
theorem lX6_safest_27 {y2 : Int} {y3 : Int} {y4 : Int} {I : sh_Mem} {Q : Int → sh_Mem → Prop} (h : (sh_Bd y4 ∧ (sh_Bd (I (oP + 1) 7) ∧ (((I (oP + 1) 7) ≤ y4 → Q y2 I) ∧ (y4 < (I (oP + 1) 7) → (sh_Bd (I (oP + 1) 8) ∧ ((¬ y4 = (I (oP + 1) 8) → (cc mX6_stepsOrFarthest [.inr 1, .inl y4] I (qi fun v8 I6 => (sh_Bd v8 ∧ (sh_Bd y3 ∧ ((v8 ≤ y3 → kk mX6_safest 27 [some (.inr 1), some (.inr (oP + 1)), some (.inl y2), some (.inl y3), some (.inl (y4 + 1)), none] [] I6 (qi Q)) ∧ (y3 < v8 → kk mX6_safest 27 [some (.inr 1), some (.inr (oP + 1)), some (.inl y4), some (.inl v8), some (.inl (y4 + 1)), none] [] I6 (qi Q)))))))) ∧ (y4 = (I (oP + 1) 8) → (sh_Bd y3 ∧ (((-1) ≤ y3 → kk mX6_safest 27 [some (.inr 1), some (.inr (oP + 1)), some (.inl y2), some (.inl y3), some (.inl (y4 + 1)), none] [] I (qi Q)) ∧ (y3 < (-1) → kk mX6_safest 27 [some (.inr 1), some (.inr (oP + 1)), some (.inl y4), some (.inl (-1)), some (.inl (y4 + 1)), none] [] I (qi Q)))))))))))) : kk mX6_safest 27 [some (.inr 1), some (.inr (oP + 1)), some (.inl y2), some (.inl y3), some (.inl y4), none] [] I (qi Q) := by
  refine sh_iload (pc := 27) dX6_safest_27 rfl ?_
  refine sh_aload_n (pc := 29) dX6_safest_29 rfl rfl ?_
  refine sh_getI (pc := 30) (g := 7) dX6_safest_30 fl_X6_123 rfl (is_R isP_oP) rfl ?_
  obtain ⟨hb_1, h⟩ := h
  obtain ⟨hb_2, h⟩ := h
  refine sh_icmp_ge (pc := 33) (tgt := 75) dX6_safest_33 (by decide) hb_1 hb_2 (fun q_3 => ?_) (fun q_3 => ?_)
  · replace h := h.1 q_3
    refine sh_iload_n (pc := 75) dX6_safest_75 rfl rfl ?_
    exact k_iret dX6_safest_76 rfl h
  · replace h := h.2 q_3
    refine sh_iload (pc := 36) dX6_safest_36 rfl ?_
    refine sh_aload_n (pc := 38) dX6_safest_38 rfl rfl ?_
    refine sh_getI (pc := 39) (g := 8) dX6_safest_39 fl_X6_191 rfl (is_R isP_oP) rfl ?_
    obtain ⟨hb_4, h⟩ := h
    refine sh_icmp_ne (pc := 42) (tgt := 49) dX6_safest_42 (by decide) hb_1 hb_4 (fun q_5 => ?_) (fun q_5 => ?_)
    · replace h := h.1 q_5
      refine sh_aload_n (pc := 49) dX6_safest_49 rfl rfl ?_
      refine sh_iload (pc := 50) dX6_safest_50 rfl ?_
      refine k_V1i (pc := 52) is_1 dX6_safest_52 lk_X6_216 rfl h (fun v8 I6 h => ?_)
      refine k_istore (pc := 55) [some (.inr 1), some (.inr (oP + 1)), some (.inl y2), some (.inl y3), some (.inl y4), some (.inl v8)] dX6_safest_55 rfl (by decide) ?_
      refine sh_iload (pc := 57) dX6_safest_57 rfl ?_
      refine sh_iload_n (pc := 59) dX6_safest_59 rfl rfl ?_
      obtain ⟨hb_9, h⟩ := h
      obtain ⟨hb_10, h⟩ := h
      refine sh_icmp_le (pc := 60) (tgt := 69) dX6_safest_60 (by decide) hb_9 hb_10 (fun q_11 => ?_) (fun q_11 => ?_)
      · replace h := h.1 q_11
        refine k_iinc (pc := 69) [some (.inr 1), some (.inr (oP + 1)), some (.inl y2), some (.inl y3), some (.inl (y4 + 1)), some (.inl v8)] dX6_safest_69 rfl rfl (by decide) ?_
        refine sh_goto (pc := 72) (tgt := 27) dX6_safest_72 (by decide) ?_
        exact sh_O.locals h (sub_some (sub_some (sub_some (sub_some (sub_some (sub_none sub_nil))))))
      · replace h := h.2 q_11
        refine sh_iload (pc := 63) dX6_safest_63 rfl ?_
        refine k_istore_n (pc := 65) [some (.inr 1), some (.inr (oP + 1)), some (.inl y4), some (.inl y3), some (.inl y4), some (.inl v8)] dX6_safest_65 rfl rfl (by decide) ?_
        refine sh_iload (pc := 66) dX6_safest_66 rfl ?_
        refine k_istore_n (pc := 68) [some (.inr 1), some (.inr (oP + 1)), some (.inl y4), some (.inl v8), some (.inl y4), some (.inl v8)] dX6_safest_68 rfl rfl (by decide) ?_
        refine k_iinc (pc := 69) [some (.inr 1), some (.inr (oP + 1)), some (.inl y4), some (.inl v8), some (.inl (y4 + 1)), some (.inl v8)] dX6_safest_69 rfl rfl (by decide) ?_
        refine sh_goto (pc := 72) (tgt := 27) dX6_safest_72 (by decide) ?_
        exact sh_O.locals h (sub_some (sub_some (sub_some (sub_some (sub_some (sub_none sub_nil))))))
    · replace h := h.2 q_5
      refine sh_iconst (pc := 45) (v := (-1)) dX6_safest_45 rfl ?_
      refine sh_goto (pc := 46) (tgt := 55) dX6_safest_46 (by decide) ?_
      refine k_istore (pc := 55) [some (.inr 1), some (.inr (oP + 1)), some (.inl y2), some (.inl y3), some (.inl y4), some (.inl (-1))] dX6_safest_55 rfl (by decide) ?_
      refine sh_iload (pc := 57) dX6_safest_57 rfl ?_
      refine sh_iload_n (pc := 59) dX6_safest_59 rfl rfl ?_
      obtain ⟨hb_12, h⟩ := h
      refine sh_icmp_le (pc := 60) (tgt := 69) dX6_safest_60 (by decide) (bd_lit (by decide)) hb_12 (fun q_13 => ?_) (fun q_13 => ?_)
      · replace h := h.1 q_13
        refine k_iinc (pc := 69) [some (.inr 1), some (.inr (oP + 1)), some (.inl y2), some (.inl y3), some (.inl (y4 + 1)), some (.inl (-1))] dX6_safest_69 rfl rfl (by decide) ?_
        refine sh_goto (pc := 72) (tgt := 27) dX6_safest_72 (by decide) ?_
        exact sh_O.locals h (sub_some (sub_some (sub_some (sub_some (sub_some (sub_none sub_nil))))))
      · replace h := h.2 q_13
        refine sh_iload (pc := 63) dX6_safest_63 rfl ?_
        refine k_istore_n (pc := 65) [some (.inr 1), some (.inr (oP + 1)), some (.inl y4), some (.inl y3), some (.inl y4), some (.inl (-1))] dX6_safest_65 rfl rfl (by decide) ?_
        refine sh_iload (pc := 66) dX6_safest_66 rfl ?_
        refine k_istore_n (pc := 68) [some (.inr 1), some (.inr (oP + 1)), some (.inl y4), some (.inl (-1)), some (.inl y4), some (.inl (-1))] dX6_safest_68 rfl rfl (by decide) ?_
        refine k_iinc (pc := 69) [some (.inr 1), some (.inr (oP + 1)), some (.inl y4), some (.inl (-1)), some (.inl (y4 + 1)), some (.inl (-1))] dX6_safest_69 rfl rfl (by decide) ?_
        refine sh_goto (pc := 72) (tgt := 27) dX6_safest_72 (by decide) ?_
        exact sh_O.locals h (sub_some (sub_some (sub_some (sub_some (sub_some (sub_none sub_nil))))))
set_option maxRecDepth 100000 in
set_option maxHeartbeats 4000000 in
theorem eX6_ifTurns {x1 : Int} {x2 : Int} {I : sh_Mem} {Q : Int → sh_Mem → Prop} (h : (sh_Bd x1 ∧ ((x1 < 1 → Q (-2) I) ∧ (1 ≤ x1 → ((99 < x1 → Q (-2) I) ∧ (x1 ≤ 99 → (sh_Bd x2 ∧ ((x2 < 0 → Q (-2) I) ∧ (0 ≤ x2 → ((x2 ≤ 2 → (cc mX4_copyFrom [.inr oT, .inr oP] I (qv fun I7 => kk mX6_ifTurns 43 [some (.inr 1), some (.inl x1), some (.inl x2), some (.inl 0), some (.inl (-5)), some (.inl 1)] [] I7 (qi Q)))) ∧ (2 < x2 → Q (-2) I))))))))))) : cc mX6_ifTurns [.inr 1, .inl x1, .inl x2] I (qi Q) := by
  refine sh_call cd_X6_ifTurns.2.2.2 (Nat.le_of_ble_eq_true rfl) ?_
  show kk mX6_ifTurns 0 [some (.inr 1), some (.inl x1), some (.inl x2), none, none, none] [] I (qi Q)
  refine sh_iload_n (pc := 0) dX6_ifTurns_0 rfl rfl ?_
  refine sh_iconst (pc := 1) (v := 1) dX6_ifTurns_1 rfl ?_
  obtain ⟨hb_1, h⟩ := h
  refine sh_icmp_lt (pc := 2) (tgt := 20) dX6_ifTurns_2 (by decide) hb_1 (bd_lit (by decide)) (fun q_2 => ?_) (fun q_2 => ?_)
  · replace h := h.1 q_2
    refine sh_bipush (pc := 20) (v := (-2)) dX6_ifTurns_20 (by decide) ?_
    exact k_iret dX6_ifTurns_22 rfl h
  · replace h := h.2 q_2
    refine sh_iload_n (pc := 5) dX6_ifTurns_5 rfl rfl ?_
    refine sh_bipush (pc := 6) (v := 99) dX6_ifTurns_6 (by decide) ?_
    refine sh_icmp_gt (pc := 8) (tgt := 20) dX6_ifTurns_8 (by decide) hb_1 (bd_lit (by decide)) (fun q_3 => ?_) (fun q_3 => ?_)
    · replace h := h.1 q_3
      refine sh_bipush (pc := 20) (v := (-2)) dX6_ifTurns_20 (by decide) ?_
      exact k_iret dX6_ifTurns_22 rfl h
    · replace h := h.2 q_3
      refine sh_iload_n (pc := 11) dX6_ifTurns_11 rfl rfl ?_
      obtain ⟨hb_4, h⟩ := h
      refine sh_if_lt (pc := 12) (tgt := 20) dX6_ifTurns_12 (by decide) hb_4  (fun q_5 => ?_) (fun q_5 => ?_)
      · replace h := h.1 q_5
        refine sh_bipush (pc := 20) (v := (-2)) dX6_ifTurns_20 (by decide) ?_
        exact k_iret dX6_ifTurns_22 rfl h
      · replace h := h.2 q_5
        refine sh_iload_n (pc := 15) dX6_ifTurns_15 rfl rfl ?_
        refine sh_iconst (pc := 16) (v := 2) dX6_ifTurns_16 rfl ?_
        refine sh_icmp_le (pc := 17) (tgt := 23) dX6_ifTurns_17 (by decide) hb_4 (bd_lit (by decide)) (fun q_6 => ?_) (fun q_6 => ?_)
        · replace h := h.1 q_6
          refine sh_aload_n (pc := 23) dX6_ifTurns_23 rfl rfl ?_
          refine sh_getR (pc := 24) dX6_ifTurns_24 fl_X6_16 rfl is_1 pt_1_1 ?_
          refine sh_aload_n (pc := 27) dX6_ifTurns_27 rfl rfl ?_
          refine sh_getR (pc := 28) dX6_ifTurns_28 fl_X6_12 rfl is_1 pt_1_0 ?_
          refine k_V1v (pc := 31) (is_P isP_oT) dX6_ifTurns_31 lk_X6_54 rfl h (fun I7 h => ?_)
          refine sh_iconst (pc := 34) (v := 0) dX6_ifTurns_34 rfl ?_
          refine k_istore_n (pc := 35) [some (.inr 1), some (.inl x1), some (.inl x2), some (.inl 0), none, none] dX6_ifTurns_35 rfl rfl (by decide) ?_
          refine sh_bipush (pc := 36) (v := (-5)) dX6_ifTurns_36 (by decide) ?_
          refine k_istore (pc := 38) [some (.inr 1), some (.inl x1), some (.inl x2), some (.inl 0), some (.inl (-5)), none] dX6_ifTurns_38 rfl (by decide) ?_
          refine sh_iconst (pc := 40) (v := 1) dX6_ifTurns_40 rfl ?_
          refine k_istore (pc := 41) [some (.inr 1), some (.inl x1), some (.inl x2), some (.inl 0), some (.inl (-5)), some (.inl 1)] dX6_ifTurns_41 rfl (by decide) ?_
          exact sh_O.locals h (sub_some (sub_some (sub_some (sub_some (sub_some (sub_some sub_nil))))))
        · replace h := h.2 q_6
          refine sh_bipush (pc := 20) (v := (-2)) dX6_ifTurns_20 (by decide) ?_
          exact k_iret dX6_ifTurns_22 rfl h
set_option maxRecDepth 100000 in
set_option maxHeartbeats 4000000 in
theorem lX6_ifTurns_43 {y1 : Int} {y2 : Int} {y3 : Int} {y4 : Int} {y5 : Int} {I : sh_Mem} {Q : Int → sh_Mem → Prop} (h : (sh_Bd y5 ∧ (sh_Bd y1 ∧ ((y1 < y5 → (sh_Bd y2 ∧ ((y2 = 0 → Q y3 I) ∧ ((y2 = 1 → Q (I (oT + 1) 8) I) ∧ ((¬ y2 = 0 ∧ ¬ y2 = 1) → Q y4 I))))) ∧ (y5 ≤ y1 → (cc mX4_takeTurn [.inr oT] I (qi fun v9 I7 => ((v9 = 1 ∧ (sh_Bd y4 ∧ ((¬ y4 = (-5) → kk mX6_ifTurns 43 [some (.inr 1), some (.inl y1), some (.inl y2), some (.inl (y3 + 1)), some (.inl y4), some (.inl (y5 + 1))] [] I7 (qi Q)) ∧ (y4 = (-5) → kk mX6_ifTurns 43 [some (.inr 1), some (.inl y1), some (.inl y2), some (.inl (y3 + 1)), some (.inl y5), some (.inl (y5 + 1))] [] I7 (qi Q))))) ∨ (v9 = 0 ∧ kk mX6_ifTurns 43 [some (.inr 1), some (.inl y1), some (.inl y2), some (.inl y3), some (.inl y4), some (.inl (y5 + 1))] [] I7 (qi Q)))))))))) : kk mX6_ifTurns 43 [some (.inr 1), some (.inl y1), some (.inl y2), some (.inl y3), some (.inl y4), some (.inl y5)] [] I (qi Q) := by
  refine sh_iload (pc := 43) dX6_ifTurns_43 rfl ?_
  refine sh_iload_n (pc := 45) dX6_ifTurns_45 rfl rfl ?_
  obtain ⟨hb_1, h⟩ := h
  obtain ⟨hb_2, h⟩ := h
  refine sh_icmp_gt (pc := 46) (tgt := 84) dX6_ifTurns_46 (by decide) hb_1 hb_2 (fun q_3 => ?_) (fun q_3 => ?_)
  · replace h := h.1 q_3
    refine sh_iload_n (pc := 84) dX6_ifTurns_84 rfl rfl ?_
    obtain ⟨hb_4, h⟩ := h
    by_cases q_5 : y2 = 0
    · refine sh_lookup (pc := 85) (off := 27) (tgt := 112) dX6_ifTurns_85 (by decide) hb_4 (by rw [q_5]; decide) (by decide) ?_
      replace h := h.1 q_5
      refine sh_iload_n (pc := 112) dX6_ifTurns_112 rfl rfl ?_
      exact k_iret dX6_ifTurns_113 rfl h
    replace h := h.2
    by_cases q_6 : y2 = 1
    · refine sh_lookup (pc := 85) (off := 29) (tgt := 114) dX6_ifTurns_85 (by decide) hb_4 (by rw [q_6]; decide) (by decide) ?_
      replace h := h.1 q_6
      refine sh_aload_n (pc := 114) dX6_ifTurns_114 rfl rfl ?_
      refine sh_getR (pc := 115) dX6_ifTurns_115 fl_X6_16 rfl is_1 pt_1_1 ?_
      refine sh_getR (pc := 118) dX6_ifTurns_118 fl_X6_58 rfl (is_P isP_oT) (pt_P0 isP_oT) ?_
      refine sh_getI (pc := 121) (g := 8) dX6_ifTurns_121 fl_X6_191 rfl (is_R isP_oT) rfl ?_
      exact k_iret dX6_ifTurns_124 rfl h
    replace h := h.2
    refine sh_lookup (pc := 85) (off := 40) (tgt := 125) dX6_ifTurns_85 (by decide) hb_4 (by simp [Op.lookupswitch.offset_cons, Op.lookupswitch.offset_nil, (Ne.symm q_5), (Ne.symm q_6)]) (by decide) ?_
    replace h := h ⟨q_5, q_6⟩
    refine sh_iload (pc := 125) dX6_ifTurns_125 rfl ?_
    exact k_iret dX6_ifTurns_127 rfl h
  · replace h := h.2 q_3
    refine sh_aload_n (pc := 49) dX6_ifTurns_49 rfl rfl ?_
    refine sh_getR (pc := 50) dX6_ifTurns_50 fl_X6_16 rfl is_1 pt_1_1 ?_
    refine k_V0i (pc := 53) (is_P isP_oT) dX6_ifTurns_53 lk_X6_219 rfl h (fun v9 I7 h => ?_)
    rcases h with ⟨rfl, h⟩ | ⟨rfl, h⟩
    · skip
      refine sh_if_eq (pc := 56) (tgt := 78) dX6_ifTurns_56 (by decide) (bd_lit (by decide)) (fun qz => ?_) (fun qz => ?_)
      · exact absurd qz (by decide)
      · skip
        refine k_iinc (pc := 59) [some (.inr 1), some (.inl y1), some (.inl y2), some (.inl (y3 + 1)), some (.inl y4), some (.inl y5)] dX6_ifTurns_59 rfl rfl (by decide) ?_
        refine sh_iload (pc := 62) dX6_ifTurns_62 rfl ?_
        refine sh_bipush (pc := 64) (v := (-5)) dX6_ifTurns_64 (by decide) ?_
        obtain ⟨hb_10, h⟩ := h
        refine sh_icmp_ne (pc := 66) (tgt := 74) dX6_ifTurns_66 (by decide) hb_10 (bd_lit (by decide)) (fun q_11 => ?_) (fun q_11 => ?_)
        · replace h := h.1 q_11
          refine sh_iload (pc := 74) dX6_ifTurns_74 rfl ?_
          refine k_istore (pc := 76) [some (.inr 1), some (.inl y1), some (.inl y2), some (.inl (y3 + 1)), some (.inl y4), some (.inl y5)] dX6_ifTurns_76 rfl (by decide) ?_
          refine k_iinc (pc := 78) [some (.inr 1), some (.inl y1), some (.inl y2), some (.inl (y3 + 1)), some (.inl y4), some (.inl (y5 + 1))] dX6_ifTurns_78 rfl rfl (by decide) ?_
          refine sh_goto (pc := 81) (tgt := 43) dX6_ifTurns_81 (by decide) ?_
          exact sh_O.locals h (sub_some (sub_some (sub_some (sub_some (sub_some (sub_some sub_nil))))))
        · replace h := h.2 q_11
          refine sh_iload (pc := 69) dX6_ifTurns_69 rfl ?_
          refine sh_goto (pc := 71) (tgt := 76) dX6_ifTurns_71 (by decide) ?_
          refine k_istore (pc := 76) [some (.inr 1), some (.inl y1), some (.inl y2), some (.inl (y3 + 1)), some (.inl y5), some (.inl y5)] dX6_ifTurns_76 rfl (by decide) ?_
          refine k_iinc (pc := 78) [some (.inr 1), some (.inl y1), some (.inl y2), some (.inl (y3 + 1)), some (.inl y5), some (.inl (y5 + 1))] dX6_ifTurns_78 rfl rfl (by decide) ?_
          refine sh_goto (pc := 81) (tgt := 43) dX6_ifTurns_81 (by decide) ?_
          exact sh_O.locals h (sub_some (sub_some (sub_some (sub_some (sub_some (sub_some sub_nil))))))
    · skip
      refine sh_if_eq (pc := 56) (tgt := 78) dX6_ifTurns_56 (by decide) (bd_lit (by decide)) (fun qz => ?_) (fun qz => ?_)
      · skip
        refine k_iinc (pc := 78) [some (.inr 1), some (.inl y1), some (.inl y2), some (.inl y3), some (.inl y4), some (.inl (y5 + 1))] dX6_ifTurns_78 rfl rfl (by decide) ?_
        refine sh_goto (pc := 81) (tgt := 43) dX6_ifTurns_81 (by decide) ?_
        exact sh_O.locals h (sub_some (sub_some (sub_some (sub_some (sub_some (sub_some sub_nil))))))
      · exact absurd qz (by decide)
set_option maxRecDepth 100000 in
set_option maxHeartbeats 4000000 in
theorem eX6_count {x1 : Int} {I : sh_Mem} {Q : Int → sh_Mem → Prop} (h : (sh_Bd x1 ∧ ((x1 = 0 → Q (I oP 3) I) ∧ ((x1 = 1 → Q (I (oP + 1) 7) I) ∧ ((x1 = 2 → Q (I (oP + 1) 8) I) ∧ ((x1 = 3 → (cc mX3_burning [.inr (oP + 9)] I (qi fun v7 I5 => Q v7 I5))) ∧ ((x1 = 4 → (cc mX6_cellsInAnyShadow [.inr 1] I (qi fun v11 I9 => Q v11 I9))) ∧ ((x1 = 5 → (cc mX4_runnersWithoutShadow [.inr oP] I (qi fun v15 I13 => Q v15 I13))) ∧ ((x1 = 6 → Q (I (oP + 1) 9) I) ∧ ((x1 = 7 → Q (I (oP + 1) 10) I) ∧ ((x1 = 8 → Q (I (oP + 1) 11) I) ∧ ((x1 = 9 → Q (I oP 4) I) ∧ ((x1 = 10 → Q (I (oP + 14) 0) I) ∧ ((x1 = 11 → Q (I (oP + 14) 1) I) ∧ ((x1 = 12 → Q (I 47 2) I) ∧ ((x1 = 13 → Q (I 109 1) I) ∧ ((x1 < 0 ∨ 13 < x1) → Q (-2) I))))))))))))))))) : cc mX6_count [.inr 1, .inl x1] I (qi Q) := by
  refine sh_call cd_X6_count.2.2.2 (Nat.le_of_ble_eq_true rfl) ?_
  show kk mX6_count 0 [some (.inr 1), some (.inl x1)] [] I (qi Q)
  refine sh_iload_n (pc := 0) dX6_count_0 rfl rfl ?_
  obtain ⟨hb_1, h⟩ := h
  by_cases q_2 : x1 = 0
  · refine sh_tableIn (pc := 1) (k := 0) (tgt := 72) dX6_count_1 q_2 (bd_lit (by decide)) (by decide) (by decide) rfl (by decide) ?_
    replace h := h.1 q_2
    refine sh_aload_n (pc := 72) dX6_count_72 rfl rfl ?_
    refine sh_getR (pc := 73) dX6_count_73 fl_X6_12 rfl is_1 pt_1_0 ?_
    refine sh_getI (pc := 76) (g := 3) dX6_count_76 fl_X6_223 rfl (is_P isP_oP) rfl ?_
    exact k_iret dX6_count_79 rfl h
  replace h := h.2
  by_cases q_3 : x1 = 1
  · refine sh_tableIn (pc := 1) (k := 1) (tgt := 80) dX6_count_1 q_3 (bd_lit (by decide)) (by decide) (by decide) rfl (by decide) ?_
    replace h := h.1 q_3
    refine sh_aload_n (pc := 80) dX6_count_80 rfl rfl ?_
    refine sh_getR (pc := 81) dX6_count_81 fl_X6_12 rfl is_1 pt_1_0 ?_
    refine sh_getR (pc := 84) dX6_count_84 fl_X6_58 rfl (is_P isP_oP) (pt_P0 isP_oP) ?_
    refine sh_getI (pc := 87) (g := 7) dX6_count_87 fl_X6_123 rfl (is_R isP_oP) rfl ?_
    exact k_iret dX6_count_90 rfl h
  replace h := h.2
  by_cases q_4 : x1 = 2
  · refine sh_tableIn (pc := 1) (k := 2) (tgt := 91) dX6_count_1 q_4 (bd_lit (by decide)) (by decide) (by decide) rfl (by decide) ?_
    replace h := h.1 q_4
    refine sh_aload_n (pc := 91) dX6_count_91 rfl rfl ?_
    refine sh_getR (pc := 92) dX6_count_92 fl_X6_12 rfl is_1 pt_1_0 ?_
    refine sh_getR (pc := 95) dX6_count_95 fl_X6_58 rfl (is_P isP_oP) (pt_P0 isP_oP) ?_
    refine sh_getI (pc := 98) (g := 8) dX6_count_98 fl_X6_191 rfl (is_R isP_oP) rfl ?_
    exact k_iret dX6_count_101 rfl h
  replace h := h.2
  by_cases q_8 : x1 = 3
  · refine sh_tableIn (pc := 1) (k := 3) (tgt := 102) dX6_count_1 q_8 (bd_lit (by decide)) (by decide) (by decide) rfl (by decide) ?_
    replace h := h.1 q_8
    refine sh_aload_n (pc := 102) dX6_count_102 rfl rfl ?_
    refine sh_getR (pc := 103) dX6_count_103 fl_X6_12 rfl is_1 pt_1_0 ?_
    refine sh_getR (pc := 106) dX6_count_106 fl_X6_75 rfl (is_P isP_oP) (pt_P1 isP_oP) ?_
    refine k_V0i (pc := 109) (is_L isP_oP) dX6_count_109 lk_X6_226 rfl h (fun v7 I5 h => ?_)
    exact k_iret dX6_count_112 rfl h
  replace h := h.2
  by_cases q_12 : x1 = 4
  · refine sh_tableIn (pc := 1) (k := 4) (tgt := 113) dX6_count_1 q_12 (bd_lit (by decide)) (by decide) (by decide) rfl (by decide) ?_
    replace h := h.1 q_12
    refine sh_aload_n (pc := 113) dX6_count_113 rfl rfl ?_
    refine k_V0i (pc := 114) is_1 dX6_count_114 lk_X6_229 rfl h (fun v11 I9 h => ?_)
    exact k_iret dX6_count_117 rfl h
  replace h := h.2
  by_cases q_16 : x1 = 5
  · refine sh_tableIn (pc := 1) (k := 5) (tgt := 118) dX6_count_1 q_16 (bd_lit (by decide)) (by decide) (by decide) rfl (by decide) ?_
    replace h := h.1 q_16
    refine sh_aload_n (pc := 118) dX6_count_118 rfl rfl ?_
    refine sh_getR (pc := 119) dX6_count_119 fl_X6_12 rfl is_1 pt_1_0 ?_
    refine k_V0i (pc := 122) (is_P isP_oP) dX6_count_122 lk_X6_232 rfl h (fun v15 I13 h => ?_)
    exact k_iret dX6_count_125 rfl h
  replace h := h.2
  by_cases q_17 : x1 = 6
  · refine sh_tableIn (pc := 1) (k := 6) (tgt := 126) dX6_count_1 q_17 (bd_lit (by decide)) (by decide) (by decide) rfl (by decide) ?_
    replace h := h.1 q_17
    refine sh_aload_n (pc := 126) dX6_count_126 rfl rfl ?_
    refine sh_getR (pc := 127) dX6_count_127 fl_X6_12 rfl is_1 pt_1_0 ?_
    refine sh_getR (pc := 130) dX6_count_130 fl_X6_58 rfl (is_P isP_oP) (pt_P0 isP_oP) ?_
    refine sh_getI (pc := 133) (g := 9) dX6_count_133 fl_X6_235 rfl (is_R isP_oP) rfl ?_
    exact k_iret dX6_count_136 rfl h
  replace h := h.2
  by_cases q_18 : x1 = 7
  · refine sh_tableIn (pc := 1) (k := 7) (tgt := 137) dX6_count_1 q_18 (bd_lit (by decide)) (by decide) (by decide) rfl (by decide) ?_
    replace h := h.1 q_18
    refine sh_aload_n (pc := 137) dX6_count_137 rfl rfl ?_
    refine sh_getR (pc := 138) dX6_count_138 fl_X6_12 rfl is_1 pt_1_0 ?_
    refine sh_getR (pc := 141) dX6_count_141 fl_X6_58 rfl (is_P isP_oP) (pt_P0 isP_oP) ?_
    refine sh_getI (pc := 144) (g := 10) dX6_count_144 fl_X6_238 rfl (is_R isP_oP) rfl ?_
    exact k_iret dX6_count_147 rfl h
  replace h := h.2
  by_cases q_19 : x1 = 8
  · refine sh_tableIn (pc := 1) (k := 8) (tgt := 148) dX6_count_1 q_19 (bd_lit (by decide)) (by decide) (by decide) rfl (by decide) ?_
    replace h := h.1 q_19
    refine sh_aload_n (pc := 148) dX6_count_148 rfl rfl ?_
    refine sh_getR (pc := 149) dX6_count_149 fl_X6_12 rfl is_1 pt_1_0 ?_
    refine sh_getR (pc := 152) dX6_count_152 fl_X6_58 rfl (is_P isP_oP) (pt_P0 isP_oP) ?_
    refine sh_getI (pc := 155) (g := 11) dX6_count_155 fl_X6_241 rfl (is_R isP_oP) rfl ?_
    exact k_iret dX6_count_158 rfl h
  replace h := h.2
  by_cases q_20 : x1 = 9
  · refine sh_tableIn (pc := 1) (k := 9) (tgt := 159) dX6_count_1 q_20 (bd_lit (by decide)) (by decide) (by decide) rfl (by decide) ?_
    replace h := h.1 q_20
    refine sh_aload_n (pc := 159) dX6_count_159 rfl rfl ?_
    refine sh_getR (pc := 160) dX6_count_160 fl_X6_12 rfl is_1 pt_1_0 ?_
    refine sh_getI (pc := 163) (g := 4) dX6_count_163 fl_X6_244 rfl (is_P isP_oP) rfl ?_
    exact k_iret dX6_count_166 rfl h
  replace h := h.2
  by_cases q_21 : x1 = 10
  · refine sh_tableIn (pc := 1) (k := 10) (tgt := 167) dX6_count_1 q_21 (bd_lit (by decide)) (by decide) (by decide) rfl (by decide) ?_
    replace h := h.1 q_21
    refine sh_aload_n (pc := 167) dX6_count_167 rfl rfl ?_
    refine sh_getR (pc := 168) dX6_count_168 fl_X6_12 rfl is_1 pt_1_0 ?_
    refine sh_getR (pc := 171) dX6_count_171 fl_X6_88 rfl (is_P isP_oP) (pt_P2 isP_oP) ?_
    refine sh_iconst (pc := 174) (v := 0) dX6_count_174 rfl ?_
    refine sh_iald (pc := 175) dX6_count_175 (is_P14 isP_oP) (by decide) (by decide) ?_
    exact k_iret dX6_count_176 rfl h
  replace h := h.2
  by_cases q_22 : x1 = 11
  · refine sh_tableIn (pc := 1) (k := 11) (tgt := 177) dX6_count_1 q_22 (bd_lit (by decide)) (by decide) (by decide) rfl (by decide) ?_
    replace h := h.1 q_22
    refine sh_aload_n (pc := 177) dX6_count_177 rfl rfl ?_
    refine sh_getR (pc := 178) dX6_count_178 fl_X6_12 rfl is_1 pt_1_0 ?_
    refine sh_getR (pc := 181) dX6_count_181 fl_X6_88 rfl (is_P isP_oP) (pt_P2 isP_oP) ?_
    refine sh_iconst (pc := 184) (v := 1) dX6_count_184 rfl ?_
    refine sh_iald (pc := 185) dX6_count_185 (is_P14 isP_oP) (by decide) (by decide) ?_
    exact k_iret dX6_count_186 rfl h
  replace h := h.2
  by_cases q_23 : x1 = 12
  · refine sh_tableIn (pc := 1) (k := 12) (tgt := 187) dX6_count_1 q_23 (bd_lit (by decide)) (by decide) (by decide) rfl (by decide) ?_
    replace h := h.1 q_23
    refine sh_aload_n (pc := 187) dX6_count_187 rfl rfl ?_
    refine sh_getR (pc := 188) dX6_count_188 fl_X6_25 rfl is_1 pt_1_3 ?_
    refine sh_getI (pc := 191) (g := 2) dX6_count_191 fl_X6_120 rfl is_47 rfl ?_
    exact k_iret dX6_count_194 rfl h
  replace h := h.2
  by_cases q_24 : x1 = 13
  · refine sh_tableIn (pc := 1) (k := 13) (tgt := 195) dX6_count_1 q_24 (bd_lit (by decide)) (by decide) (by decide) rfl (by decide) ?_
    replace h := h.1 q_24
    refine sh_aload_n (pc := 195) dX6_count_195 rfl rfl ?_
    refine sh_getR (pc := 196) dX6_count_196 fl_X6_32 rfl is_1 pt_1_4 ?_
    refine sh_getI (pc := 199) (g := 1) dX6_count_199 fl_X6_247 rfl is_109 rfl ?_
    exact k_iret dX6_count_202 rfl h
  replace h := h.2
  have q_25 : x1 < 0 ∨ 13 < x1 := by omega
  refine sh_tableOut (pc := 1) (tgt := 203) dX6_count_1 hb_1 q_25 (by decide) ?_
  replace h := h q_25
  refine sh_bipush (pc := 203) (v := (-2)) dX6_count_203 (by decide) ?_
  exact k_iret dX6_count_205 rfl h
set_option maxRecDepth 100000 in
set_option maxHeartbeats 4000000 in
theorem eX6_takeOver {x1 : Int} {I : sh_Mem} {Q : Int → sh_Mem → Prop} (h : (sh_Bd x1 ∧ ((x1 < 0 → Q x1 I) ∧ (0 ≤ x1 → (cc mX2_record [.inr 47, .inr oP] I (qv fun I3 => (cc mX4_copyFrom [.inr oP, .inr oT] I3 (qv fun I5 => Q x1 I5)))))))) : cc mX6_takeOver [.inr 1, .inl x1] I (qi Q) := by
  refine sh_call cd_X6_takeOver.2.2.2 (Nat.le_of_ble_eq_true rfl) ?_
  show kk mX6_takeOver 0 [some (.inr 1), some (.inl x1)] [] I (qi Q)
  refine sh_iload_n (pc := 0) dX6_takeOver_0 rfl rfl ?_
  obtain ⟨hb_1, h⟩ := h
  refine sh_if_lt (pc := 1) (tgt := 26) dX6_takeOver_1 (by decide) hb_1  (fun q_2 => ?_) (fun q_2 => ?_)
  · replace h := h.1 q_2
    refine sh_iload_n (pc := 26) dX6_takeOver_26 rfl rfl ?_
    exact k_iret dX6_takeOver_27 rfl h
  · replace h := h.2 q_2
    refine sh_aload_n (pc := 4) dX6_takeOver_4 rfl rfl ?_
    refine sh_getR (pc := 5) dX6_takeOver_5 fl_X6_25 rfl is_1 pt_1_3 ?_
    refine sh_aload_n (pc := 8) dX6_takeOver_8 rfl rfl ?_
    refine sh_getR (pc := 9) dX6_takeOver_9 fl_X6_12 rfl is_1 pt_1_0 ?_
    refine k_V1v (pc := 12) is_47 dX6_takeOver_12 lk_X6_250 rfl h (fun I3 h => ?_)
    refine sh_aload_n (pc := 15) dX6_takeOver_15 rfl rfl ?_
    refine sh_getR (pc := 16) dX6_takeOver_16 fl_X6_12 rfl is_1 pt_1_0 ?_
    refine sh_aload_n (pc := 19) dX6_takeOver_19 rfl rfl ?_
    refine sh_getR (pc := 20) dX6_takeOver_20 fl_X6_16 rfl is_1 pt_1_1 ?_
    refine k_V1v (pc := 23) (is_P isP_oP) dX6_takeOver_23 lk_X6_54 rfl h (fun I5 h => ?_)
    refine sh_iload_n (pc := 26) dX6_takeOver_26 rfl rfl ?_
    exact k_iret dX6_takeOver_27 rfl h
set_option maxRecDepth 100000 in
set_option maxHeartbeats 4000000 in
theorem eX6_cellsInShadowsOf {x1 : Int} {I : sh_Mem} {Q : Int → sh_Mem → Prop} (h : (cc mX0_clear [.inr 114] I (qv fun I1 => (cc mX4_darkenShadowsOf [.inr oP, .inl x1, .inr 114] I1 (qv fun I3 => (cc mX0_darkCells [.inr 114] I3 (qi fun v7 I5 => Q v7 I5))))))) : cc mX6_cellsInShadowsOf [.inr 1, .inl x1] I (qi Q) := by
  refine sh_call cd_X6_cellsInShadowsOf.2.2.2 (Nat.le_of_ble_eq_true rfl) ?_
  show kk mX6_cellsInShadowsOf 0 [some (.inr 1), some (.inl x1)] [] I (qi Q)
  refine sh_aload_n (pc := 0) dX6_cellsInShadowsOf_0 rfl rfl ?_
  refine sh_getR (pc := 1) dX6_cellsInShadowsOf_1 fl_X6_39 rfl is_1 pt_1_5 ?_
  refine k_V0v (pc := 4) is_114 dX6_cellsInShadowsOf_4 lk_X6_203 rfl h (fun I1 h => ?_)
  refine sh_aload_n (pc := 7) dX6_cellsInShadowsOf_7 rfl rfl ?_
  refine sh_getR (pc := 8) dX6_cellsInShadowsOf_8 fl_X6_12 rfl is_1 pt_1_0 ?_
  refine sh_iload_n (pc := 11) dX6_cellsInShadowsOf_11 rfl rfl ?_
  refine sh_aload_n (pc := 12) dX6_cellsInShadowsOf_12 rfl rfl ?_
  refine sh_getR (pc := 13) dX6_cellsInShadowsOf_13 fl_X6_39 rfl is_1 pt_1_5 ?_
  refine k_V2v (pc := 16) (is_P isP_oP) dX6_cellsInShadowsOf_16 lk_X6_205 rfl h (fun I3 h => ?_)
  refine sh_aload_n (pc := 19) dX6_cellsInShadowsOf_19 rfl rfl ?_
  refine sh_getR (pc := 20) dX6_cellsInShadowsOf_20 fl_X6_39 rfl is_1 pt_1_5 ?_
  refine k_V0i (pc := 23) is_114 dX6_cellsInShadowsOf_23 lk_X6_262 rfl h (fun v7 I5 h => ?_)
  exact k_iret dX6_cellsInShadowsOf_26 rfl h
set_option maxRecDepth 100000 in
set_option maxHeartbeats 4000000 in
theorem eX6_cellsInShadowsBy {x1 : Int} {I : sh_Mem} {Q : Int → sh_Mem → Prop} (h : (cc mX0_clear [.inr 114] I (qv fun I1 => kk mX6_cellsInShadowsBy 9 [some (.inr 1), some (.inl x1), some (.inl 0)] [] I1 (qi Q)))) : cc mX6_cellsInShadowsBy [.inr 1, .inl x1] I (qi Q) := by
  refine sh_call cd_X6_cellsInShadowsBy.2.2.2 (Nat.le_of_ble_eq_true rfl) ?_
  show kk mX6_cellsInShadowsBy 0 [some (.inr 1), some (.inl x1), none] [] I (qi Q)
  refine sh_aload_n (pc := 0) dX6_cellsInShadowsBy_0 rfl rfl ?_
  refine sh_getR (pc := 1) dX6_cellsInShadowsBy_1 fl_X6_39 rfl is_1 pt_1_5 ?_
  refine k_V0v (pc := 4) is_114 dX6_cellsInShadowsBy_4 lk_X6_203 rfl h (fun I1 h => ?_)
  refine sh_iconst (pc := 7) (v := 0) dX6_cellsInShadowsBy_7 rfl ?_
  refine k_istore_n (pc := 8) [some (.inr 1), some (.inl x1), some (.inl 0)] dX6_cellsInShadowsBy_8 rfl rfl (by decide) ?_
  exact sh_O.locals h (sub_some (sub_some (sub_some sub_nil)))
set_option maxRecDepth 100000 in
set_option maxHeartbeats 4000000 in
theorem lX6_cellsInShadowsBy_9 {y1 : Int} {y2 : Int} {I : sh_Mem} {Q : Int → sh_Mem → Prop} (h : (sh_Bd y2 ∧ (sh_Bd (I (oP + 1) 7) ∧ (((I (oP + 1) 7) ≤ y2 → (cc mX0_darkCells [.inr 114] I (qi fun v6 I4 => Q v6 I4))) ∧ (y2 < (I (oP + 1) 7) → (cc mX4_darkenShadow [.inr oP, .inl y2, .inl y1, .inr 114] I (qv fun I7 => kk mX6_cellsInShadowsBy 9 [some (.inr 1), some (.inl y1), some (.inl (y2 + 1))] [] I7 (qi Q)))))))) : kk mX6_cellsInShadowsBy 9 [some (.inr 1), some (.inl y1), some (.inl y2)] [] I (qi Q) := by
  refine sh_iload_n (pc := 9) dX6_cellsInShadowsBy_9 rfl rfl ?_
  refine sh_aload_n (pc := 10) dX6_cellsInShadowsBy_10 rfl rfl ?_
  refine sh_getR (pc := 11) dX6_cellsInShadowsBy_11 fl_X6_12 rfl is_1 pt_1_0 ?_
  refine sh_getR (pc := 14) dX6_cellsInShadowsBy_14 fl_X6_58 rfl (is_P isP_oP) (pt_P0 isP_oP) ?_
  refine sh_getI (pc := 17) (g := 7) dX6_cellsInShadowsBy_17 fl_X6_123 rfl (is_R isP_oP) rfl ?_
  obtain ⟨hb_1, h⟩ := h
  obtain ⟨hb_2, h⟩ := h
  refine sh_icmp_ge (pc := 20) (tgt := 42) dX6_cellsInShadowsBy_20 (by decide) hb_1 hb_2 (fun q_3 => ?_) (fun q_3 => ?_)
  · replace h := h.1 q_3
    refine sh_aload_n (pc := 42) dX6_cellsInShadowsBy_42 rfl rfl ?_
    refine sh_getR (pc := 43) dX6_cellsInShadowsBy_43 fl_X6_39 rfl is_1 pt_1_5 ?_
    refine k_V0i (pc := 46) is_114 dX6_cellsInShadowsBy_46 lk_X6_262 rfl h (fun v6 I4 h => ?_)
    exact k_iret dX6_cellsInShadowsBy_49 rfl h
  · replace h := h.2 q_3
    refine sh_aload_n (pc := 23) dX6_cellsInShadowsBy_23 rfl rfl ?_
    refine sh_getR (pc := 24) dX6_cellsInShadowsBy_24 fl_X6_12 rfl is_1 pt_1_0 ?_
    refine sh_iload_n (pc := 27) dX6_cellsInShadowsBy_27 rfl rfl ?_
    refine sh_iload_n (pc := 28) dX6_cellsInShadowsBy_28 rfl rfl ?_
    refine sh_aload_n (pc := 29) dX6_cellsInShadowsBy_29 rfl rfl ?_
    refine sh_getR (pc := 30) dX6_cellsInShadowsBy_30 fl_X6_39 rfl is_1 pt_1_5 ?_
    refine k_V3v (pc := 33) (is_P isP_oP) dX6_cellsInShadowsBy_33 lk_X6_265 rfl h (fun I7 h => ?_)
    refine k_iinc (pc := 36) [some (.inr 1), some (.inl y1), some (.inl (y2 + 1))] dX6_cellsInShadowsBy_36 rfl rfl (by decide) ?_
    refine sh_goto (pc := 39) (tgt := 9) dX6_cellsInShadowsBy_39 (by decide) ?_
    exact sh_O.locals h (sub_some (sub_some (sub_some sub_nil)))
set_option maxRecDepth 100000 in
set_option maxHeartbeats 4000000 in
theorem eX6_cellsInAnyShadow  {I : sh_Mem} {Q : Int → sh_Mem → Prop} (h : (cc mX0_clear [.inr 114] I (qv fun I1 => kk mX6_cellsInAnyShadow 9 [some (.inr 1), some (.inl 0)] [] I1 (qi Q)))) : cc mX6_cellsInAnyShadow [.inr 1] I (qi Q) := by
  refine sh_call cd_X6_cellsInAnyShadow.2.2.2 (Nat.le_of_ble_eq_true rfl) ?_
  show kk mX6_cellsInAnyShadow 0 [some (.inr 1), none] [] I (qi Q)
  refine sh_aload_n (pc := 0) dX6_cellsInAnyShadow_0 rfl rfl ?_
  refine sh_getR (pc := 1) dX6_cellsInAnyShadow_1 fl_X6_39 rfl is_1 pt_1_5 ?_
  refine k_V0v (pc := 4) is_114 dX6_cellsInAnyShadow_4 lk_X6_203 rfl h (fun I1 h => ?_)
  refine sh_iconst (pc := 7) (v := 0) dX6_cellsInAnyShadow_7 rfl ?_
  refine k_istore_n (pc := 8) [some (.inr 1), some (.inl 0)] dX6_cellsInAnyShadow_8 rfl rfl (by decide) ?_
  exact sh_O.locals h (sub_some (sub_some sub_nil))
set_option maxRecDepth 100000 in
set_option maxHeartbeats 4000000 in
theorem lX6_cellsInAnyShadow_9 {y1 : Int} {I : sh_Mem} {Q : Int → sh_Mem → Prop} (h : (sh_Bd y1 ∧ (sh_Bd (I (oP + 1) 7) ∧ (((I (oP + 1) 7) ≤ y1 → (cc mX0_darkCells [.inr 114] I (qi fun v6 I4 => Q v6 I4))) ∧ (y1 < (I (oP + 1) 7) → (cc mX4_darkenShadowsOf [.inr oP, .inl y1, .inr 114] I (qv fun I7 => kk mX6_cellsInAnyShadow 9 [some (.inr 1), some (.inl (y1 + 1))] [] I7 (qi Q)))))))) : kk mX6_cellsInAnyShadow 9 [some (.inr 1), some (.inl y1)] [] I (qi Q) := by
  refine sh_iload_n (pc := 9) dX6_cellsInAnyShadow_9 rfl rfl ?_
  refine sh_aload_n (pc := 10) dX6_cellsInAnyShadow_10 rfl rfl ?_
  refine sh_getR (pc := 11) dX6_cellsInAnyShadow_11 fl_X6_12 rfl is_1 pt_1_0 ?_
  refine sh_getR (pc := 14) dX6_cellsInAnyShadow_14 fl_X6_58 rfl (is_P isP_oP) (pt_P0 isP_oP) ?_
  refine sh_getI (pc := 17) (g := 7) dX6_cellsInAnyShadow_17 fl_X6_123 rfl (is_R isP_oP) rfl ?_
  obtain ⟨hb_1, h⟩ := h
  obtain ⟨hb_2, h⟩ := h
  refine sh_icmp_ge (pc := 20) (tgt := 41) dX6_cellsInAnyShadow_20 (by decide) hb_1 hb_2 (fun q_3 => ?_) (fun q_3 => ?_)
  · replace h := h.1 q_3
    refine sh_aload_n (pc := 41) dX6_cellsInAnyShadow_41 rfl rfl ?_
    refine sh_getR (pc := 42) dX6_cellsInAnyShadow_42 fl_X6_39 rfl is_1 pt_1_5 ?_
    refine k_V0i (pc := 45) is_114 dX6_cellsInAnyShadow_45 lk_X6_262 rfl h (fun v6 I4 h => ?_)
    exact k_iret dX6_cellsInAnyShadow_48 rfl h
  · replace h := h.2 q_3
    refine sh_aload_n (pc := 23) dX6_cellsInAnyShadow_23 rfl rfl ?_
    refine sh_getR (pc := 24) dX6_cellsInAnyShadow_24 fl_X6_12 rfl is_1 pt_1_0 ?_
    refine sh_iload_n (pc := 27) dX6_cellsInAnyShadow_27 rfl rfl ?_
    refine sh_aload_n (pc := 28) dX6_cellsInAnyShadow_28 rfl rfl ?_
    refine sh_getR (pc := 29) dX6_cellsInAnyShadow_29 fl_X6_39 rfl is_1 pt_1_5 ?_
    refine k_V2v (pc := 32) (is_P isP_oP) dX6_cellsInAnyShadow_32 lk_X6_205 rfl h (fun I7 h => ?_)
    refine k_iinc (pc := 35) [some (.inr 1), some (.inl (y1 + 1))] dX6_cellsInAnyShadow_35 rfl rfl (by decide) ?_
    refine sh_goto (pc := 38) (tgt := 9) dX6_cellsInAnyShadow_38 (by decide) ?_
    exact sh_O.locals h (sub_some (sub_some sub_nil))
set_option maxRecDepth 100000 in
set_option maxHeartbeats 4000000 in
theorem eX6_stepsOrFarthest {x1 : Int} {I : sh_Mem} {Q : Int → sh_Mem → Prop} (h : (cc mX6_stepsTo [.inr 1, .inl x1] I (qi fun v3 I1 => (sh_Bd v3 ∧ ((0 ≤ v3 → Q v3 I1) ∧ (v3 < 0 → Q 100 I1)))))) : cc mX6_stepsOrFarthest [.inr 1, .inl x1] I (qi Q) := by
  refine sh_call cd_X6_stepsOrFarthest.2.2.2 (Nat.le_of_ble_eq_true rfl) ?_
  show kk mX6_stepsOrFarthest 0 [some (.inr 1), some (.inl x1), none] [] I (qi Q)
  refine sh_aload_n (pc := 0) dX6_stepsOrFarthest_0 rfl rfl ?_
  refine sh_iload_n (pc := 1) dX6_stepsOrFarthest_1 rfl rfl ?_
  refine k_V1i (pc := 2) is_1 dX6_stepsOrFarthest_2 lk_X6_269 rfl h (fun v3 I1 h => ?_)
  refine k_istore_n (pc := 5) [some (.inr 1), some (.inl x1), some (.inl v3)] dX6_stepsOrFarthest_5 rfl rfl (by decide) ?_
  refine sh_iload_n (pc := 6) dX6_stepsOrFarthest_6 rfl rfl ?_
  obtain ⟨hb_4, h⟩ := h
  refine sh_if_ge (pc := 7) (tgt := 15) dX6_stepsOrFarthest_7 (by decide) hb_4  (fun q_5 => ?_) (fun q_5 => ?_)
  · replace h := h.1 q_5
    refine sh_iload_n (pc := 15) dX6_stepsOrFarthest_15 rfl rfl ?_
    exact k_iret dX6_stepsOrFarthest_16 rfl h
  · replace h := h.2 q_5
    refine sh_bipush (pc := 10) (v := 100) dX6_stepsOrFarthest_10 (by decide) ?_
    refine sh_goto (pc := 12) (tgt := 16) dX6_stepsOrFarthest_12 (by decide) ?_
    exact k_iret dX6_stepsOrFarthest_16 rfl h
set_option maxRecDepth 100000 in
set_option maxHeartbeats 4000000 in
theorem eX6_isCell {x1 : Int} {I : sh_Mem} {Q : Int → sh_Mem → Prop} (h : (sh_Bd x1 ∧ ((x1 < 0 → Q 0 I) ∧ (0 ≤ x1 → ((100 ≤ x1 → Q 0 I) ∧ (x1 < 100 → Q 1 I)))))) : cc mX6_isCell [.inl x1] I (qi Q) := by
  refine sh_call cd_X6_isCell.2.2.2 (Nat.le_of_ble_eq_true rfl) ?_
  show kk mX6_isCell 0 [some (.inl x1)] [] I (qi Q)
  refine sh_iload_n (pc := 0) dX6_isCell_0 rfl rfl ?_
  obtain ⟨hb_1, h⟩ := h
  refine sh_if_lt (pc := 1) (tgt := 14) dX6_isCell_1 (by decide) hb_1  (fun q_2 => ?_) (fun q_2 => ?_)
  · replace h := h.1 q_2
    refine sh_iconst (pc := 14) (v := 0) dX6_isCell_14 rfl ?_
    exact k_zret dX6_isCell_15 rfl (Or.inl rfl) h
  · replace h := h.2 q_2
    refine sh_iload_n (pc := 4) dX6_isCell_4 rfl rfl ?_
    refine sh_bipush (pc := 5) (v := 100) dX6_isCell_5 (by decide) ?_
    refine sh_icmp_ge (pc := 7) (tgt := 14) dX6_isCell_7 (by decide) hb_1 (bd_lit (by decide)) (fun q_3 => ?_) (fun q_3 => ?_)
    · replace h := h.1 q_3
      refine sh_iconst (pc := 14) (v := 0) dX6_isCell_14 rfl ?_
      exact k_zret dX6_isCell_15 rfl (Or.inl rfl) h
    · replace h := h.2 q_3
      refine sh_iconst (pc := 10) (v := 1) dX6_isCell_10 rfl ?_
      refine sh_goto (pc := 11) (tgt := 15) dX6_isCell_11 (by decide) ?_
      exact k_zret dX6_isCell_15 rfl (Or.inr rfl) h
set_option maxRecDepth 100000 in
set_option maxHeartbeats 4000000 in
theorem eX6_isLamp {x1 : Int} {I : sh_Mem} {Q : Int → sh_Mem → Prop} (h : (sh_Bd x1 ∧ ((x1 < 0 → Q 0 I) ∧ (0 ≤ x1 → ((3 ≤ x1 → Q 0 I) ∧ (x1 < 3 → Q 1 I)))))) : cc mX6_isLamp [.inl x1] I (qi Q) := by
  refine sh_call cd_X6_isLamp.2.2.2 (Nat.le_of_ble_eq_true rfl) ?_
  show kk mX6_isLamp 0 [some (.inl x1)] [] I (qi Q)
  refine sh_iload_n (pc := 0) dX6_isLamp_0 rfl rfl ?_
  obtain ⟨hb_1, h⟩ := h
  refine sh_if_lt (pc := 1) (tgt := 13) dX6_isLamp_1 (by decide) hb_1  (fun q_2 => ?_) (fun q_2 => ?_)
  · replace h := h.1 q_2
    refine sh_iconst (pc := 13) (v := 0) dX6_isLamp_13 rfl ?_
    exact k_zret dX6_isLamp_14 rfl (Or.inl rfl) h
  · replace h := h.2 q_2
    refine sh_iload_n (pc := 4) dX6_isLamp_4 rfl rfl ?_
    refine sh_iconst (pc := 5) (v := 3) dX6_isLamp_5 rfl ?_
    refine sh_icmp_ge (pc := 6) (tgt := 13) dX6_isLamp_6 (by decide) hb_1 (bd_lit (by decide)) (fun q_3 => ?_) (fun q_3 => ?_)
    · replace h := h.1 q_3
      refine sh_iconst (pc := 13) (v := 0) dX6_isLamp_13 rfl ?_
      exact k_zret dX6_isLamp_14 rfl (Or.inl rfl) h
    · replace h := h.2 q_3
      refine sh_iconst (pc := 9) (v := 1) dX6_isLamp_9 rfl ?_
      refine sh_goto (pc := 10) (tgt := 14) dX6_isLamp_10 (by decide) ?_
      exact k_zret dX6_isLamp_14 rfl (Or.inr rfl) h
set_option maxRecDepth 100000 in
set_option maxHeartbeats 4000000 in
theorem eX6_replace {o1 N1 : Nat} (ho1 : sh_is 119 o1 8 N1) (hN_o1 : N1 < 2147483648) {x2 : Int} {x3 : Int} {x4 : Int} {x5 : Int} {I : sh_Mem} {Q : Int → sh_Mem → Prop} (h : (sh_Bd x2 ∧ ((x2 < 0 → Q (-1) I) ∧ (0 ≤ x2 → (sh_Bd (N1 : Int) ∧ ((x2 < (N1 : Int) → (sh_Bd x3 ∧ (sh_Bd x4 ∧ ((x3 < x4 → Q (-2) I) ∧ (x4 ≤ x3 → (sh_Bd x5 ∧ ((x3 ≤ x5 → ((0 ≤ x2 ∧ x2 < (N1 : Int)) ∧ (sh_Bd (I o1 x2) ∧ ((¬ (I o1 x2) = x3 → Q (I o1 x2) (sh_u I o1 x2 x3)) ∧ ((I o1 x2) = x3 → Q (-5) I))))) ∧ (x5 < x3 → Q (-2) I)))))))) ∧ ((N1 : Int) ≤ x2 → Q (-1) I))))))) : cc mX6_replace [.inr o1, .inl x2, .inl x3, .inl x4, .inl x5] I (qi Q) := by
  refine sh_call cd_X6_replace.2.2.2 (Nat.le_of_ble_eq_true rfl) ?_
  show kk mX6_replace 0 [some (.inr o1), some (.inl x2), some (.inl x3), some (.inl x4), some (.inl x5), none] [] I (qi Q)
  refine sh_iload_n (pc := 0) dX6_replace_0 rfl rfl ?_
  obtain ⟨hb_1, h⟩ := h
  refine sh_if_lt (pc := 1) (tgt := 10) dX6_replace_1 (by decide) hb_1  (fun q_2 => ?_) (fun q_2 => ?_)
  · replace h := h.1 q_2
    refine sh_iconst (pc := 10) (v := (-1)) dX6_replace_10 rfl ?_
    exact k_iret dX6_replace_11 rfl h
  · replace h := h.2 q_2
    refine sh_iload_n (pc := 4) dX6_replace_4 rfl rfl ?_
    refine sh_aload_n (pc := 5) dX6_replace_5 rfl rfl ?_
    refine sh_alen (pc := 6) dX6_replace_6 ho1 (by decide) (by decide) (v := (N1 : Int)) rfl ?_
    obtain ⟨hb_3, h⟩ := h
    refine sh_icmp_lt (pc := 7) (tgt := 12) dX6_replace_7 (by decide) hb_1 hb_3 (fun q_4 => ?_) (fun q_4 => ?_)
    · replace h := h.1 q_4
      refine sh_iload_n (pc := 12) dX6_replace_12 rfl rfl ?_
      refine sh_iload_n (pc := 13) dX6_replace_13 rfl rfl ?_
      obtain ⟨hb_5, h⟩ := h
      obtain ⟨hb_6, h⟩ := h
      refine sh_icmp_lt (pc := 14) (tgt := 23) dX6_replace_14 (by decide) hb_5 hb_6 (fun q_7 => ?_) (fun q_7 => ?_)
      · replace h := h.1 q_7
        refine sh_bipush (pc := 23) (v := (-2)) dX6_replace_23 (by decide) ?_
        exact k_iret dX6_replace_25 rfl h
      · replace h := h.2 q_7
        refine sh_iload_n (pc := 17) dX6_replace_17 rfl rfl ?_
        refine sh_iload (pc := 18) dX6_replace_18 rfl ?_
        obtain ⟨hb_8, h⟩ := h
        refine sh_icmp_le (pc := 20) (tgt := 26) dX6_replace_20 (by decide) hb_5 hb_8 (fun q_9 => ?_) (fun q_9 => ?_)
        · replace h := h.1 q_9
          refine sh_aload_n (pc := 26) dX6_replace_26 rfl rfl ?_
          refine sh_iload_n (pc := 27) dX6_replace_27 rfl rfl ?_
          obtain ⟨hi_10, h⟩ := h
          refine sh_iald (pc := 28) dX6_replace_28 ho1 hN_o1 hi_10 ?_
          refine k_istore (pc := 29) [some (.inr o1), some (.inl x2), some (.inl x3), some (.inl x4), some (.inl x5), some (.inl (I o1 x2))] dX6_replace_29 rfl (by decide) ?_
          refine sh_iload (pc := 31) dX6_replace_31 rfl ?_
          refine sh_iload_n (pc := 33) dX6_replace_33 rfl rfl ?_
          obtain ⟨hb_11, h⟩ := h
          refine sh_icmp_ne (pc := 34) (tgt := 40) dX6_replace_34 (by decide) hb_11 hb_5 (fun q_12 => ?_) (fun q_12 => ?_)
          · replace h := h.1 q_12
            refine sh_aload_n (pc := 40) dX6_replace_40 rfl rfl ?_
            refine sh_iload_n (pc := 41) dX6_replace_41 rfl rfl ?_
            refine sh_iload_n (pc := 42) dX6_replace_42 rfl rfl ?_
            refine sh_iast (pc := 43) dX6_replace_43 ho1 hN_o1 hi_10  ?_
            refine sh_iload (pc := 44) dX6_replace_44 rfl ?_
            exact k_iret dX6_replace_46 rfl h
          · replace h := h.2 q_12
            refine sh_bipush (pc := 37) (v := (-5)) dX6_replace_37 (by decide) ?_
            exact k_iret dX6_replace_39 rfl h
        · replace h := h.2 q_9
          refine sh_bipush (pc := 23) (v := (-2)) dX6_replace_23 (by decide) ?_
          exact k_iret dX6_replace_25 rfl h
    · replace h := h.2 q_4
      refine sh_iconst (pc := 10) (v := (-1)) dX6_replace_10 rfl ?_
      exact k_iret dX6_replace_11 rfl h
set_option maxRecDepth 100000 in
set_option maxHeartbeats 4000000 in
theorem eX6_copyRow {o1 N1 : Nat} (ho1 : sh_is 119 o1 8 N1) (hN_o1 : N1 < 2147483648) {o2 N2 : Nat} (ho2 : sh_is 119 o2 8 N2) (hN_o2 : N2 < 2147483648) {I : sh_Mem} {Q : sh_Mem → Prop} (h : (sh_Bd (N1 : Int) ∧ (sh_Bd (N2 : Int) ∧ ((((0 : Int) ≤ (min (N1 : Int) (N2 : Int)) ∧ (0 : Int) ≤ 0 ∧ (0 : Int) ≤ 0) ∧ 0 + (min (N1 : Int) (N2 : Int)) ≤ (N1 : Int) ∧ 0 + (min (N1 : Int) (N2 : Int)) ≤ (N2 : Int)) ∧ Q (sh_cpy I o1 o2 0 0 (min (N1 : Int) (N2 : Int))))))) : cc mX6_copyRow [.inr o1, .inr o2] I (qv Q) := by
  refine sh_call cd_X6_copyRow.2.2.2 (Nat.le_of_ble_eq_true rfl) ?_
  show kk mX6_copyRow 0 [some (.inr o1), some (.inr o2)] [] I (qv Q)
  refine sh_aload_n (pc := 0) dX6_copyRow_0 rfl rfl ?_
  refine sh_iconst (pc := 1) (v := 0) dX6_copyRow_1 rfl ?_
  refine sh_aload_n (pc := 2) dX6_copyRow_2 rfl rfl ?_
  refine sh_iconst (pc := 3) (v := 0) dX6_copyRow_3 rfl ?_
  refine sh_aload_n (pc := 4) dX6_copyRow_4 rfl rfl ?_
  refine sh_alen (pc := 5) dX6_copyRow_5 ho1 (by decide) (by decide) (v := (N1 : Int)) rfl ?_
  refine sh_aload_n (pc := 6) dX6_copyRow_6 rfl rfl ?_
  refine sh_alen (pc := 7) dX6_copyRow_7 ho2 (by decide) (by decide) (v := (N2 : Int)) rfl ?_
  obtain ⟨hb_1, h⟩ := h
  obtain ⟨hb_2, h⟩ := h
  refine sh_min (pc := 8) dX6_copyRow_8 wm_X6_272 wmin_1 wmin_2 wmin_3 (by decide) (by decide) (by simp) hb_1 hb_2 ?_
  obtain ⟨hc_3, h⟩ := h
  refine sh_copy (pc := 11) dX6_copyRow_11 wm_X6_277 wcp_1 wcp_2 wcp_3 (by decide) (by decide) (by simp) ho1 ho2 hN_o1 hN_o2 hc_3.1 hc_3.2.1 hc_3.2.2 ?_
  exact k_vret dX6_copyRow_14 rfl h
set_option maxRecDepth 100000 in
set_option maxHeartbeats 4000000 in
theorem eX6_opposite {x1 : Int} {I : sh_Mem} {Q : Int → sh_Mem → Prop} (h : ((0 ≤ (x1 + 2) ∧ (x1 + 2) < 2147483648) ∧ Q ((x1 + 2) % 4) I)) : cc mX6_opposite [.inl x1] I (qi Q) := by
  refine sh_call cd_X6_opposite.2.2.2 (Nat.le_of_ble_eq_true rfl) ?_
  show kk mX6_opposite 0 [some (.inl x1)] [] I (qi Q)
  refine sh_iload_n (pc := 0) dX6_opposite_0 rfl rfl ?_
  refine sh_iconst (pc := 1) (v := 2) dX6_opposite_1 rfl ?_
  refine sh_iadd (pc := 2) dX6_opposite_2 ?_
  refine sh_iconst (pc := 3) (v := 4) dX6_opposite_3 rfl ?_
  obtain ⟨hn_1, h⟩ := h
  refine sh_irem (pc := 4) dX6_opposite_4 hn_1.1 hn_1.2 (by decide) (by decide) ?_
  exact k_iret dX6_opposite_5 rfl h
set_option maxRecDepth 100000 in
set_option maxHeartbeats 4000000 in
theorem eX6_cellsToEdge {x1 : Int} {x2 : Int} {I : sh_Mem} {Q : Int → sh_Mem → Prop} (h : (sh_Bd x2 ∧ ((x2 = 0 → ((0 ≤ x1 ∧ x1 < 2147483648) ∧ Q (x1 / 10) I)) ∧ ((x2 = 1 → ((0 ≤ x1 ∧ x1 < 2147483648) ∧ Q (9 - (x1 % 10)) I)) ∧ ((x2 = 2 → ((0 ≤ x1 ∧ x1 < 2147483648) ∧ Q (9 - (x1 / 10)) I)) ∧ ((x2 = 3 → ((0 ≤ x1 ∧ x1 < 2147483648) ∧ Q (x1 % 10) I)) ∧ ((x2 < 0 ∨ 3 < x2) → Q 0 I))))))) : cc mX6_cellsToEdge [.inl x1, .inl x2] I (qi Q) := by
  refine sh_call cd_X6_cellsToEdge.2.2.2 (Nat.le_of_ble_eq_true rfl) ?_
  show kk mX6_cellsToEdge 0 [some (.inl x1), some (.inl x2)] [] I (qi Q)
  refine sh_iload_n (pc := 0) dX6_cellsToEdge_0 rfl rfl ?_
  obtain ⟨hb_1, h⟩ := h
  by_cases q_3 : x2 = 0
  · refine sh_tableIn (pc := 1) (k := 0) (tgt := 32) dX6_cellsToEdge_1 q_3 (bd_lit (by decide)) (by decide) (by decide) rfl (by decide) ?_
    replace h := h.1 q_3
    refine sh_iload_n (pc := 32) dX6_cellsToEdge_32 rfl rfl ?_
    refine sh_bipush (pc := 33) (v := 10) dX6_cellsToEdge_33 (by decide) ?_
    obtain ⟨hn_2, h⟩ := h
    refine sh_idiv (pc := 35) dX6_cellsToEdge_35 hn_2.1 hn_2.2 (by decide) (by decide) ?_
    exact k_iret dX6_cellsToEdge_36 rfl h
  replace h := h.2
  by_cases q_5 : x2 = 1
  · refine sh_tableIn (pc := 1) (k := 1) (tgt := 37) dX6_cellsToEdge_1 q_5 (bd_lit (by decide)) (by decide) (by decide) rfl (by decide) ?_
    replace h := h.1 q_5
    refine sh_bipush (pc := 37) (v := 9) dX6_cellsToEdge_37 (by decide) ?_
    refine sh_iload_n (pc := 39) dX6_cellsToEdge_39 rfl rfl ?_
    refine sh_bipush (pc := 40) (v := 10) dX6_cellsToEdge_40 (by decide) ?_
    obtain ⟨hn_4, h⟩ := h
    refine sh_irem (pc := 42) dX6_cellsToEdge_42 hn_4.1 hn_4.2 (by decide) (by decide) ?_
    refine sh_isub (pc := 43) dX6_cellsToEdge_43 ?_
    exact k_iret dX6_cellsToEdge_44 rfl h
  replace h := h.2
  by_cases q_7 : x2 = 2
  · refine sh_tableIn (pc := 1) (k := 2) (tgt := 45) dX6_cellsToEdge_1 q_7 (bd_lit (by decide)) (by decide) (by decide) rfl (by decide) ?_
    replace h := h.1 q_7
    refine sh_bipush (pc := 45) (v := 9) dX6_cellsToEdge_45 (by decide) ?_
    refine sh_iload_n (pc := 47) dX6_cellsToEdge_47 rfl rfl ?_
    refine sh_bipush (pc := 48) (v := 10) dX6_cellsToEdge_48 (by decide) ?_
    obtain ⟨hn_6, h⟩ := h
    refine sh_idiv (pc := 50) dX6_cellsToEdge_50 hn_6.1 hn_6.2 (by decide) (by decide) ?_
    refine sh_isub (pc := 51) dX6_cellsToEdge_51 ?_
    exact k_iret dX6_cellsToEdge_52 rfl h
  replace h := h.2
  by_cases q_9 : x2 = 3
  · refine sh_tableIn (pc := 1) (k := 3) (tgt := 53) dX6_cellsToEdge_1 q_9 (bd_lit (by decide)) (by decide) (by decide) rfl (by decide) ?_
    replace h := h.1 q_9
    refine sh_iload_n (pc := 53) dX6_cellsToEdge_53 rfl rfl ?_
    refine sh_bipush (pc := 54) (v := 10) dX6_cellsToEdge_54 (by decide) ?_
    obtain ⟨hn_8, h⟩ := h
    refine sh_irem (pc := 56) dX6_cellsToEdge_56 hn_8.1 hn_8.2 (by decide) (by decide) ?_
    exact k_iret dX6_cellsToEdge_57 rfl h
  replace h := h.2
  have q_10 : x2 < 0 ∨ 3 < x2 := by omega
  refine sh_tableOut (pc := 1) (tgt := 58) dX6_cellsToEdge_1 hb_1 q_10 (by decide) ?_
  replace h := h q_10
  refine sh_iconst (pc := 58) (v := 0) dX6_cellsToEdge_58 rfl ?_
  exact k_iret dX6_cellsToEdge_59 rfl h
set_option maxRecDepth 100000 in
set_option maxHeartbeats 4000000 in
theorem eX6_cellAlong {x1 : Int} {x2 : Int} {x3 : Int} {I : sh_Mem} {Q : Int → sh_Mem → Prop} (h : (sh_Bd x2 ∧ ((x2 = 0 → Q (x1 - (10 * x3)) I) ∧ ((x2 = 1 → Q (x1 + x3) I) ∧ ((x2 = 2 → Q (x1 + (10 * x3)) I) ∧ ((x2 = 3 → Q (x1 - x3) I) ∧ ((x2 < 0 ∨ 3 < x2) → Q x1 I))))))) : cc mX6_cellAlong [.inl x1, .inl x2, .inl x3] I (qi Q) := by
  refine sh_call cd_X6_cellAlong.2.2.2 (Nat.le_of_ble_eq_true rfl) ?_
  show kk mX6_cellAlong 0 [some (.inl x1), some (.inl x2), some (.inl x3)] [] I (qi Q)
  refine sh_iload_n (pc := 0) dX6_cellAlong_0 rfl rfl ?_
  obtain ⟨hb_1, h⟩ := h
  by_cases q_2 : x2 = 0
  · refine sh_tableIn (pc := 1) (k := 0) (tgt := 32) dX6_cellAlong_1 q_2 (bd_lit (by decide)) (by decide) (by decide) rfl (by decide) ?_
    replace h := h.1 q_2
    refine sh_iload_n (pc := 32) dX6_cellAlong_32 rfl rfl ?_
    refine sh_bipush (pc := 33) (v := 10) dX6_cellAlong_33 (by decide) ?_
    refine sh_iload_n (pc := 35) dX6_cellAlong_35 rfl rfl ?_
    refine sh_imul (pc := 36) dX6_cellAlong_36 ?_
    refine sh_isub (pc := 37) dX6_cellAlong_37 ?_
    exact k_iret dX6_cellAlong_38 rfl h
  replace h := h.2
  by_cases q_3 : x2 = 1
  · refine sh_tableIn (pc := 1) (k := 1) (tgt := 39) dX6_cellAlong_1 q_3 (bd_lit (by decide)) (by decide) (by decide) rfl (by decide) ?_
    replace h := h.1 q_3
    refine sh_iload_n (pc := 39) dX6_cellAlong_39 rfl rfl ?_
    refine sh_iload_n (pc := 40) dX6_cellAlong_40 rfl rfl ?_
    refine sh_iadd (pc := 41) dX6_cellAlong_41 ?_
    exact k_iret dX6_cellAlong_42 rfl h
  replace h := h.2
  by_cases q_4 : x2 = 2
  · refine sh_tableIn (pc := 1) (k := 2) (tgt := 43) dX6_cellAlong_1 q_4 (bd_lit (by decide)) (by decide) (by decide) rfl (by decide) ?_
    replace h := h.1 q_4
    refine sh_iload_n (pc := 43) dX6_cellAlong_43 rfl rfl ?_
    refine sh_bipush (pc := 44) (v := 10) dX6_cellAlong_44 (by decide) ?_
    refine sh_iload_n (pc := 46) dX6_cellAlong_46 rfl rfl ?_
    refine sh_imul (pc := 47) dX6_cellAlong_47 ?_
    refine sh_iadd (pc := 48) dX6_cellAlong_48 ?_
    exact k_iret dX6_cellAlong_49 rfl h
  replace h := h.2
  by_cases q_5 : x2 = 3
  · refine sh_tableIn (pc := 1) (k := 3) (tgt := 50) dX6_cellAlong_1 q_5 (bd_lit (by decide)) (by decide) (by decide) rfl (by decide) ?_
    replace h := h.1 q_5
    refine sh_iload_n (pc := 50) dX6_cellAlong_50 rfl rfl ?_
    refine sh_iload_n (pc := 51) dX6_cellAlong_51 rfl rfl ?_
    refine sh_isub (pc := 52) dX6_cellAlong_52 ?_
    exact k_iret dX6_cellAlong_53 rfl h
  replace h := h.2
  have q_6 : x2 < 0 ∨ 3 < x2 := by omega
  refine sh_tableOut (pc := 1) (tgt := 54) dX6_cellAlong_1 hb_1 q_6 (by decide) ?_
  replace h := h q_6
  refine sh_iload_n (pc := 54) dX6_cellAlong_54 rfl rfl ?_
  exact k_iret dX6_cellAlong_55 rfl h
set_option maxRecDepth 100000 in
set_option maxHeartbeats 4000000 in
theorem eX6_distanceAlong {x1 : Int} {x2 : Int} {x3 : Int} {I : sh_Mem} {Q : Int → sh_Mem → Prop} (h : ((0 ≤ x2 ∧ x2 < 2147483648) ∧ ((0 ≤ x1 ∧ x1 < 2147483648) ∧ (sh_Bd x3 ∧ ((x3 = 0 → (sh_Bd ((x2 % 10) - (x1 % 10)) ∧ ((¬ ((x2 % 10) - (x1 % 10)) = 0 → Q 0 I) ∧ (((x2 % 10) - (x1 % 10)) = 0 → Q (-((x2 / 10) - (x1 / 10))) I)))) ∧ ((x3 = 1 → (sh_Bd ((x2 / 10) - (x1 / 10)) ∧ ((¬ ((x2 / 10) - (x1 / 10)) = 0 → Q 0 I) ∧ (((x2 / 10) - (x1 / 10)) = 0 → Q ((x2 % 10) - (x1 % 10)) I)))) ∧ ((x3 = 2 → (sh_Bd ((x2 % 10) - (x1 % 10)) ∧ ((¬ ((x2 % 10) - (x1 % 10)) = 0 → Q 0 I) ∧ (((x2 % 10) - (x1 % 10)) = 0 → Q ((x2 / 10) - (x1 / 10)) I)))) ∧ ((x3 = 3 → (sh_Bd ((x2 / 10) - (x1 / 10)) ∧ ((¬ ((x2 / 10) - (x1 / 10)) = 0 → Q 0 I) ∧ (((x2 / 10) - (x1 / 10)) = 0 → Q (-((x2 % 10) - (x1 % 10))) I)))) ∧ ((x3 < 0 ∨ 3 < x3) → Q 0 I))))))))) : cc mX6_distanceAlong [.inl x1, .inl x2, .inl x3] I (qi Q) := by
  refine sh_call cd_X6_distanceAlong.2.2.2 (Nat.le_of_ble_eq_true rfl) ?_
  show kk mX6_distanceAlong 0 [some (.inl x1), some (.inl x2), some (.inl x3), none, none] [] I (qi Q)
  refine sh_iload_n (pc := 0) dX6_distanceAlong_0 rfl rfl ?_
  refine sh_bipush (pc := 1) (v := 10) dX6_distanceAlong_1 (by decide) ?_
  obtain ⟨hn_1, h⟩ := h
  refine sh_idiv (pc := 3) dX6_distanceAlong_3 hn_1.1 hn_1.2 (by decide) (by decide) ?_
  refine sh_iload_n (pc := 4) dX6_distanceAlong_4 rfl rfl ?_
  refine sh_bipush (pc := 5) (v := 10) dX6_distanceAlong_5 (by decide) ?_
  obtain ⟨hn_2, h⟩ := h
  refine sh_idiv (pc := 7) dX6_distanceAlong_7 hn_2.1 hn_2.2 (by decide) (by decide) ?_
  refine sh_isub (pc := 8) dX6_distanceAlong_8 ?_
  refine k_istore_n (pc := 9) [some (.inl x1), some (.inl x2), some (.inl x3), some (.inl ((x2 / 10) - (x1 / 10))), none] dX6_distanceAlong_9 rfl rfl (by decide) ?_
  refine sh_iload_n (pc := 10) dX6_distanceAlong_10 rfl rfl ?_
  refine sh_bipush (pc := 11) (v := 10) dX6_distanceAlong_11 (by decide) ?_
  refine sh_irem (pc := 13) dX6_distanceAlong_13 hn_1.1 hn_1.2 (by decide) (by decide) ?_
  refine sh_iload_n (pc := 14) dX6_distanceAlong_14 rfl rfl ?_
  refine sh_bipush (pc := 15) (v := 10) dX6_distanceAlong_15 (by decide) ?_
  refine sh_irem (pc := 17) dX6_distanceAlong_17 hn_2.1 hn_2.2 (by decide) (by decide) ?_
  refine sh_isub (pc := 18) dX6_distanceAlong_18 ?_
  refine k_istore (pc := 19) [some (.inl x1), some (.inl x2), some (.inl x3), some (.inl ((x2 / 10) - (x1 / 10))), some (.inl ((x2 % 10) - (x1 % 10)))] dX6_distanceAlong_19 rfl (by decide) ?_
  refine sh_iload_n (pc := 21) dX6_distanceAlong_21 rfl rfl ?_
  obtain ⟨hb_3, h⟩ := h
  by_cases q_6 : x3 = 0
  · refine sh_tableIn (pc := 22) (k := 0) (tgt := 52) dX6_distanceAlong_22 q_6 (bd_lit (by decide)) (by decide) (by decide) rfl (by decide) ?_
    replace h := h.1 q_6
    refine sh_iload (pc := 52) dX6_distanceAlong_52 rfl ?_
    obtain ⟨hb_4, h⟩ := h
    refine sh_if_ne (pc := 54) (tgt := 62) dX6_distanceAlong_54 (by decide) hb_4  (fun q_5 => ?_) (fun q_5 => ?_)
    · replace h := h.1 q_5
      refine sh_iconst (pc := 62) (v := 0) dX6_distanceAlong_62 rfl ?_
      exact k_iret dX6_distanceAlong_63 rfl h
    · replace h := h.2 q_5
      refine sh_iload_n (pc := 57) dX6_distanceAlong_57 rfl rfl ?_
      refine sh_ineg (pc := 58) dX6_distanceAlong_58 ?_
      refine sh_goto (pc := 59) (tgt := 63) dX6_distanceAlong_59 (by decide) ?_
      exact k_iret dX6_distanceAlong_63 rfl h
  replace h := h.2
  by_cases q_9 : x3 = 1
  · refine sh_tableIn (pc := 22) (k := 1) (tgt := 64) dX6_distanceAlong_22 q_9 (bd_lit (by decide)) (by decide) (by decide) rfl (by decide) ?_
    replace h := h.1 q_9
    refine sh_iload_n (pc := 64) dX6_distanceAlong_64 rfl rfl ?_
    obtain ⟨hb_7, h⟩ := h
    refine sh_if_ne (pc := 65) (tgt := 73) dX6_distanceAlong_65 (by decide) hb_7  (fun q_8 => ?_) (fun q_8 => ?_)
    · replace h := h.1 q_8
      refine sh_iconst (pc := 73) (v := 0) dX6_distanceAlong_73 rfl ?_
      exact k_iret dX6_distanceAlong_74 rfl h
    · replace h := h.2 q_8
      refine sh_iload (pc := 68) dX6_distanceAlong_68 rfl ?_
      refine sh_goto (pc := 70) (tgt := 74) dX6_distanceAlong_70 (by decide) ?_
      exact k_iret dX6_distanceAlong_74 rfl h
  replace h := h.2
  by_cases q_12 : x3 = 2
  · refine sh_tableIn (pc := 22) (k := 2) (tgt := 75) dX6_distanceAlong_22 q_12 (bd_lit (by decide)) (by decide) (by decide) rfl (by decide) ?_
    replace h := h.1 q_12
    refine sh_iload (pc := 75) dX6_distanceAlong_75 rfl ?_
    obtain ⟨hb_10, h⟩ := h
    refine sh_if_ne (pc := 77) (tgt := 84) dX6_distanceAlong_77 (by decide) hb_10  (fun q_11 => ?_) (fun q_11 => ?_)
    · replace h := h.1 q_11
      refine sh_iconst (pc := 84) (v := 0) dX6_distanceAlong_84 rfl ?_
      exact k_iret dX6_distanceAlong_85 rfl h
    · replace h := h.2 q_11
      refine sh_iload_n (pc := 80) dX6_distanceAlong_80 rfl rfl ?_
      refine sh_goto (pc := 81) (tgt := 85) dX6_distanceAlong_81 (by decide) ?_
      exact k_iret dX6_distanceAlong_85 rfl h
  replace h := h.2
  by_cases q_15 : x3 = 3
  · refine sh_tableIn (pc := 22) (k := 3) (tgt := 86) dX6_distanceAlong_22 q_15 (bd_lit (by decide)) (by decide) (by decide) rfl (by decide) ?_
    replace h := h.1 q_15
    refine sh_iload_n (pc := 86) dX6_distanceAlong_86 rfl rfl ?_
    obtain ⟨hb_13, h⟩ := h
    refine sh_if_ne (pc := 87) (tgt := 96) dX6_distanceAlong_87 (by decide) hb_13  (fun q_14 => ?_) (fun q_14 => ?_)
    · replace h := h.1 q_14
      refine sh_iconst (pc := 96) (v := 0) dX6_distanceAlong_96 rfl ?_
      exact k_iret dX6_distanceAlong_97 rfl h
    · replace h := h.2 q_14
      refine sh_iload (pc := 90) dX6_distanceAlong_90 rfl ?_
      refine sh_ineg (pc := 92) dX6_distanceAlong_92 ?_
      refine sh_goto (pc := 93) (tgt := 97) dX6_distanceAlong_93 (by decide) ?_
      exact k_iret dX6_distanceAlong_97 rfl h
  replace h := h.2
  have q_16 : x3 < 0 ∨ 3 < x3 := by omega
  refine sh_tableOut (pc := 22) (tgt := 98) dX6_distanceAlong_22 hb_3 q_16 (by decide) ?_
  replace h := h q_16
  refine sh_iconst (pc := 98) (v := 0) dX6_distanceAlong_98 rfl ?_
  exact k_iret dX6_distanceAlong_99 rfl h
