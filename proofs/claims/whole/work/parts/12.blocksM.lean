/-! ===== 12: the cases of the reference ===== -/
set_option maxRecDepth 100000 in
set_option maxHeartbeats 4000000 in
theorem eX7_in {x1 : Int} {x2 : Int} {x3 : Int} {I : sh_Mem} {Q : Int → sh_Mem → Prop} (h : (sh_Bd x1 ∧ (sh_Bd x2 ∧ ((x1 < x2 → Q 0 I) ∧ (x2 ≤ x1 → (sh_Bd x3 ∧ ((x3 < x1 → Q 0 I) ∧ (x1 ≤ x3 → Q 1 I)))))))) : cc mX7_in [.inl x1, .inl x2, .inl x3] I (qi Q) := by
  refine sh_call cd_X7_in.2.2.2 (Nat.le_of_ble_eq_true rfl) ?_
  show kk mX7_in 0 [some (.inl x1), some (.inl x2), some (.inl x3)] [] I (qi Q)
  refine sh_iload_n (pc := 0) dX7_in_0 rfl rfl ?_
  refine sh_iload_n (pc := 1) dX7_in_1 rfl rfl ?_
  obtain ⟨hb_1, h⟩ := h
  obtain ⟨hb_2, h⟩ := h
  refine sh_icmp_lt (pc := 2) (tgt := 14) dX7_in_2 (by decide) hb_1 hb_2 (fun q_3 => ?_) (fun q_3 => ?_)
  · replace h := h.1 q_3
    refine sh_iconst (pc := 14) (v := 0) dX7_in_14 rfl ?_
    exact k_zret dX7_in_15 rfl (Or.inl rfl) h
  · replace h := h.2 q_3
    refine sh_iload_n (pc := 5) dX7_in_5 rfl rfl ?_
    refine sh_iload_n (pc := 6) dX7_in_6 rfl rfl ?_
    obtain ⟨hb_4, h⟩ := h
    refine sh_icmp_gt (pc := 7) (tgt := 14) dX7_in_7 (by decide) hb_1 hb_4 (fun q_5 => ?_) (fun q_5 => ?_)
    · replace h := h.1 q_5
      refine sh_iconst (pc := 14) (v := 0) dX7_in_14 rfl ?_
      exact k_zret dX7_in_15 rfl (Or.inl rfl) h
    · replace h := h.2 q_5
      refine sh_iconst (pc := 10) (v := 1) dX7_in_10 rfl ?_
      refine sh_goto (pc := 11) (tgt := 15) dX7_in_11 (by decide) ?_
      exact k_zret dX7_in_15 rfl (Or.inr rfl) h
set_option maxRecDepth 100000 in
set_option maxHeartbeats 4000000 in
theorem eX7_isCell {x1 : Int} {I : sh_Mem} {Q : Int → sh_Mem → Prop} (h : (cc mX7_in [.inl x1, .inl 0, .inl 99] I (qi fun v3 I1 => (sh_01 v3 ∧ Q v3 I1)))) : cc mX7_isCell [.inl x1] I (qi Q) := by
  refine sh_call cd_X7_isCell.2.2.2 (Nat.le_of_ble_eq_true rfl) ?_
  show kk mX7_isCell 0 [some (.inl x1)] [] I (qi Q)
  refine sh_iload_n (pc := 0) dX7_isCell_0 rfl rfl ?_
  refine sh_iconst (pc := 1) (v := 0) dX7_isCell_1 rfl ?_
  refine sh_bipush (pc := 2) (v := 99) dX7_isCell_2 (by decide) ?_
  refine k_S3i (pc := 4) dX7_isCell_4 lk_X7_51 rfl h (fun v3 I1 h => ?_)
  obtain ⟨hz_4, h⟩ := h
  exact k_zret dX7_isCell_7 rfl hz_4 h
set_option maxRecDepth 100000 in
set_option maxHeartbeats 4000000 in
theorem eX7_isRunner {x1 : Int} {I : sh_Mem} {Q : Int → sh_Mem → Prop} (h : (cc mX7_in [.inl x1, .inl 0, .inl ((I 120 20) - 1)] I (qi fun v3 I1 => (sh_01 v3 ∧ Q v3 I1)))) : cc mX7_isRunner [.inr 119, .inl x1] I (qi Q) := by
  refine sh_call cd_X7_isRunner.2.2.2 (Nat.le_of_ble_eq_true rfl) ?_
  show kk mX7_isRunner 0 [some (.inr 119), some (.inl x1)] [] I (qi Q)
  refine sh_iload_n (pc := 0) dX7_isRunner_0 rfl rfl ?_
  refine sh_iconst (pc := 1) (v := 0) dX7_isRunner_1 rfl ?_
  refine sh_aload_n (pc := 2) dX7_isRunner_2 rfl rfl ?_
  refine sh_getR (pc := 3) dX7_isRunner_3 fl_X7_7 rfl is_119 pt_119_0 ?_
  refine sh_bipush (pc := 6) (v := 20) dX7_isRunner_6 (by decide) ?_
  refine sh_iald (pc := 8) dX7_isRunner_8 is_120 (by decide) (by decide) ?_
  refine sh_iconst (pc := 9) (v := 1) dX7_isRunner_9 rfl ?_
  refine sh_isub (pc := 10) dX7_isRunner_10 ?_
  refine k_S3i (pc := 11) dX7_isRunner_11 lk_X7_51 rfl h (fun v3 I1 h => ?_)
  obtain ⟨hz_4, h⟩ := h
  exact k_zret dX7_isRunner_14 rfl hz_4 h
set_option maxRecDepth 100000 in
set_option maxHeartbeats 4000000 in
theorem eX7_isLamp {x1 : Int} {I : sh_Mem} {Q : Int → sh_Mem → Prop} (h : (cc mX7_in [.inl x1, .inl 0, .inl 2] I (qi fun v3 I1 => (sh_01 v3 ∧ Q v3 I1)))) : cc mX7_isLamp [.inl x1] I (qi Q) := by
  refine sh_call cd_X7_isLamp.2.2.2 (Nat.le_of_ble_eq_true rfl) ?_
  show kk mX7_isLamp 0 [some (.inl x1)] [] I (qi Q)
  refine sh_iload_n (pc := 0) dX7_isLamp_0 rfl rfl ?_
  refine sh_iconst (pc := 1) (v := 0) dX7_isLamp_1 rfl ?_
  refine sh_iconst (pc := 2) (v := 2) dX7_isLamp_2 rfl ?_
  refine k_S3i (pc := 3) dX7_isLamp_3 lk_X7_51 rfl h (fun v3 I1 h => ?_)
  obtain ⟨hz_4, h⟩ := h
  exact k_zret dX7_isLamp_6 rfl hz_4 h
set_option maxRecDepth 100000 in
set_option maxHeartbeats 4000000 in
theorem eX7_of {x1 : Int} {x2 : Int} {I : sh_Mem} {Q : Int → sh_Mem → Prop} (h : ((0 ≤ ((21 + (7 * x1)) + x2) ∧ ((21 + (7 * x1)) + x2) < (63 : Int)) ∧ Q (I 120 ((21 + (7 * x1)) + x2)) I)) : cc mX7_of [.inr 119, .inl x1, .inl x2] I (qi Q) := by
  refine sh_call cd_X7_of.2.2.2 (Nat.le_of_ble_eq_true rfl) ?_
  show kk mX7_of 0 [some (.inr 119), some (.inl x1), some (.inl x2)] [] I (qi Q)
  refine sh_aload_n (pc := 0) dX7_of_0 rfl rfl ?_
  refine sh_getR (pc := 1) dX7_of_1 fl_X7_7 rfl is_119 pt_119_0 ?_
  refine sh_bipush (pc := 4) (v := 21) dX7_of_4 (by decide) ?_
  refine sh_bipush (pc := 6) (v := 7) dX7_of_6 (by decide) ?_
  refine sh_iload_n (pc := 8) dX7_of_8 rfl rfl ?_
  refine sh_imul (pc := 9) dX7_of_9 ?_
  refine sh_iadd (pc := 10) dX7_of_10 ?_
  refine sh_iload_n (pc := 11) dX7_of_11 rfl rfl ?_
  refine sh_iadd (pc := 12) dX7_of_12 ?_
  obtain ⟨hi_1, h⟩ := h
  refine sh_iald (pc := 13) dX7_of_13 is_120 (by decide) hi_1 ?_
  exact k_iret dX7_of_14 rfl h
set_option maxRecDepth 100000 in
set_option maxHeartbeats 4000000 in
theorem eX7_put {x1 : Int} {x2 : Int} {x3 : Int} {I : sh_Mem} {Q : sh_Mem → Prop} (h : ((0 ≤ ((21 + (7 * x1)) + x2) ∧ ((21 + (7 * x1)) + x2) < (63 : Int)) ∧ Q (sh_u I 120 ((21 + (7 * x1)) + x2) x3))) : cc mX7_put [.inr 119, .inl x1, .inl x2, .inl x3] I (qv Q) := by
  refine sh_call cd_X7_put.2.2.2 (Nat.le_of_ble_eq_true rfl) ?_
  show kk mX7_put 0 [some (.inr 119), some (.inl x1), some (.inl x2), some (.inl x3)] [] I (qv Q)
  refine sh_aload_n (pc := 0) dX7_put_0 rfl rfl ?_
  refine sh_getR (pc := 1) dX7_put_1 fl_X7_7 rfl is_119 pt_119_0 ?_
  refine sh_bipush (pc := 4) (v := 21) dX7_put_4 (by decide) ?_
  refine sh_bipush (pc := 6) (v := 7) dX7_put_6 (by decide) ?_
  refine sh_iload_n (pc := 8) dX7_put_8 rfl rfl ?_
  refine sh_imul (pc := 9) dX7_put_9 ?_
  refine sh_iadd (pc := 10) dX7_put_10 ?_
  refine sh_iload_n (pc := 11) dX7_put_11 rfl rfl ?_
  refine sh_iadd (pc := 12) dX7_put_12 ?_
  refine sh_iload_n (pc := 13) dX7_put_13 rfl rfl ?_
  obtain ⟨hi_1, h⟩ := h
  refine sh_iast (pc := 14) dX7_put_14 is_120 (by decide) hi_1  ?_
  exact k_vret dX7_put_15 rfl h
set_option maxRecDepth 100000 in
set_option maxHeartbeats 4000000 in
theorem eX7_ofLamp {x1 : Int} {x2 : Int} {I : sh_Mem} {Q : Int → sh_Mem → Prop} (h : ((0 ≤ ((8 + (4 * x1)) + x2) ∧ ((8 + (4 * x1)) + x2) < (63 : Int)) ∧ Q (I 120 ((8 + (4 * x1)) + x2)) I)) : cc mX7_ofLamp [.inr 119, .inl x1, .inl x2] I (qi Q) := by
  refine sh_call cd_X7_ofLamp.2.2.2 (Nat.le_of_ble_eq_true rfl) ?_
  show kk mX7_ofLamp 0 [some (.inr 119), some (.inl x1), some (.inl x2)] [] I (qi Q)
  refine sh_aload_n (pc := 0) dX7_ofLamp_0 rfl rfl ?_
  refine sh_getR (pc := 1) dX7_ofLamp_1 fl_X7_7 rfl is_119 pt_119_0 ?_
  refine sh_bipush (pc := 4) (v := 8) dX7_ofLamp_4 (by decide) ?_
  refine sh_iconst (pc := 6) (v := 4) dX7_ofLamp_6 rfl ?_
  refine sh_iload_n (pc := 7) dX7_ofLamp_7 rfl rfl ?_
  refine sh_imul (pc := 8) dX7_ofLamp_8 ?_
  refine sh_iadd (pc := 9) dX7_ofLamp_9 ?_
  refine sh_iload_n (pc := 10) dX7_ofLamp_10 rfl rfl ?_
  refine sh_iadd (pc := 11) dX7_ofLamp_11 ?_
  obtain ⟨hi_1, h⟩ := h
  refine sh_iald (pc := 12) dX7_ofLamp_12 is_120 (by decide) hi_1 ?_
  exact k_iret dX7_ofLamp_13 rfl h
set_option maxRecDepth 100000 in
set_option maxHeartbeats 4000000 in
theorem eX7_putLamp {x1 : Int} {x2 : Int} {x3 : Int} {I : sh_Mem} {Q : sh_Mem → Prop} (h : ((0 ≤ ((8 + (4 * x1)) + x2) ∧ ((8 + (4 * x1)) + x2) < (63 : Int)) ∧ Q (sh_u I 120 ((8 + (4 * x1)) + x2) x3))) : cc mX7_putLamp [.inr 119, .inl x1, .inl x2, .inl x3] I (qv Q) := by
  refine sh_call cd_X7_putLamp.2.2.2 (Nat.le_of_ble_eq_true rfl) ?_
  show kk mX7_putLamp 0 [some (.inr 119), some (.inl x1), some (.inl x2), some (.inl x3)] [] I (qv Q)
  refine sh_aload_n (pc := 0) dX7_putLamp_0 rfl rfl ?_
  refine sh_getR (pc := 1) dX7_putLamp_1 fl_X7_7 rfl is_119 pt_119_0 ?_
  refine sh_bipush (pc := 4) (v := 8) dX7_putLamp_4 (by decide) ?_
  refine sh_iconst (pc := 6) (v := 4) dX7_putLamp_6 rfl ?_
  refine sh_iload_n (pc := 7) dX7_putLamp_7 rfl rfl ?_
  refine sh_imul (pc := 8) dX7_putLamp_8 ?_
  refine sh_iadd (pc := 9) dX7_putLamp_9 ?_
  refine sh_iload_n (pc := 10) dX7_putLamp_10 rfl rfl ?_
  refine sh_iadd (pc := 11) dX7_putLamp_11 ?_
  refine sh_iload_n (pc := 12) dX7_putLamp_12 rfl rfl ?_
  obtain ⟨hi_1, h⟩ := h
  refine sh_iast (pc := 13) dX7_putLamp_13 is_120 (by decide) hi_1  ?_
  exact k_vret dX7_putLamp_14 rfl h
set_option maxRecDepth 100000 in
set_option maxHeartbeats 4000000 in
theorem eX7_putAside  {I : sh_Mem} {Q : sh_Mem → Prop} (h : kk mX7_putAside 2 [some (.inr 119), some (.inl 0)] [] I (qv Q)) : cc mX7_putAside [.inr 119] I (qv Q) := by
  refine sh_call cd_X7_putAside.2.2.2 (Nat.le_of_ble_eq_true rfl) ?_
  show kk mX7_putAside 0 [some (.inr 119), none] [] I (qv Q)
  refine sh_iconst (pc := 0) (v := 0) dX7_putAside_0 rfl ?_
  refine k_istore_n (pc := 1) [some (.inr 119), some (.inl 0)] dX7_putAside_1 rfl rfl (by decide) ?_
  exact sh_O.locals h (sub_some (sub_some sub_nil))
set_option maxRecDepth 100000 in
set_option maxHeartbeats 4000000 in
theorem lX7_putAside_2 {y1 : Int} {I : sh_Mem} {Q : sh_Mem → Prop} (h : (sh_Bd y1 ∧ ((63 ≤ y1 → Q I) ∧ (y1 < 63 → ((0 ≤ y1 ∧ y1 < (63 : Int)) ∧ kk mX7_putAside 2 [some (.inr 119), some (.inl (y1 + 1))] [] (sh_u I 123 y1 (I 120 y1)) (qv Q)))))) : kk mX7_putAside 2 [some (.inr 119), some (.inl y1)] [] I (qv Q) := by
  refine sh_iload_n (pc := 2) dX7_putAside_2 rfl rfl ?_
  refine sh_bipush (pc := 3) (v := 63) dX7_putAside_3 (by decide) ?_
  obtain ⟨hb_1, h⟩ := h
  refine sh_icmp_ge (pc := 5) (tgt := 26) dX7_putAside_5 (by decide) hb_1 (bd_lit (by decide)) (fun q_2 => ?_) (fun q_2 => ?_)
  · replace h := h.1 q_2
    exact k_vret dX7_putAside_26 rfl h
  · replace h := h.2 q_2
    refine sh_aload_n (pc := 8) dX7_putAside_8 rfl rfl ?_
    refine sh_getR (pc := 9) dX7_putAside_9 fl_X7_19 rfl is_119 pt_119_5 ?_
    refine sh_iload_n (pc := 12) dX7_putAside_12 rfl rfl ?_
    refine sh_aload_n (pc := 13) dX7_putAside_13 rfl rfl ?_
    refine sh_getR (pc := 14) dX7_putAside_14 fl_X7_7 rfl is_119 pt_119_0 ?_
    refine sh_iload_n (pc := 17) dX7_putAside_17 rfl rfl ?_
    obtain ⟨hi_3, h⟩ := h
    refine sh_iald (pc := 18) dX7_putAside_18 is_120 (by decide) hi_3 ?_
    refine sh_iast (pc := 19) dX7_putAside_19 is_123 (by decide) hi_3  ?_
    refine k_iinc (pc := 20) [some (.inr 119), some (.inl (y1 + 1))] dX7_putAside_20 rfl rfl (by decide) ?_
    refine sh_goto (pc := 23) (tgt := 2) dX7_putAside_23 (by decide) ?_
    exact sh_O.locals h (sub_some (sub_some sub_nil))
set_option maxRecDepth 100000 in
set_option maxHeartbeats 4000000 in
theorem eX7_putBack  {I : sh_Mem} {Q : sh_Mem → Prop} (h : kk mX7_putBack 2 [some (.inr 119), some (.inl 0)] [] I (qv Q)) : cc mX7_putBack [.inr 119] I (qv Q) := by
  refine sh_call cd_X7_putBack.2.2.2 (Nat.le_of_ble_eq_true rfl) ?_
  show kk mX7_putBack 0 [some (.inr 119), none] [] I (qv Q)
  refine sh_iconst (pc := 0) (v := 0) dX7_putBack_0 rfl ?_
  refine k_istore_n (pc := 1) [some (.inr 119), some (.inl 0)] dX7_putBack_1 rfl rfl (by decide) ?_
  exact sh_O.locals h (sub_some (sub_some sub_nil))
set_option maxRecDepth 100000 in
set_option maxHeartbeats 4000000 in
theorem lX7_putBack_2 {y1 : Int} {I : sh_Mem} {Q : sh_Mem → Prop} (h : (sh_Bd y1 ∧ ((63 ≤ y1 → Q I) ∧ (y1 < 63 → ((0 ≤ y1 ∧ y1 < (63 : Int)) ∧ kk mX7_putBack 2 [some (.inr 119), some (.inl (y1 + 1))] [] (sh_u I 120 y1 (I 123 y1)) (qv Q)))))) : kk mX7_putBack 2 [some (.inr 119), some (.inl y1)] [] I (qv Q) := by
  refine sh_iload_n (pc := 2) dX7_putBack_2 rfl rfl ?_
  refine sh_bipush (pc := 3) (v := 63) dX7_putBack_3 (by decide) ?_
  obtain ⟨hb_1, h⟩ := h
  refine sh_icmp_ge (pc := 5) (tgt := 26) dX7_putBack_5 (by decide) hb_1 (bd_lit (by decide)) (fun q_2 => ?_) (fun q_2 => ?_)
  · replace h := h.1 q_2
    exact k_vret dX7_putBack_26 rfl h
  · replace h := h.2 q_2
    refine sh_aload_n (pc := 8) dX7_putBack_8 rfl rfl ?_
    refine sh_getR (pc := 9) dX7_putBack_9 fl_X7_7 rfl is_119 pt_119_0 ?_
    refine sh_iload_n (pc := 12) dX7_putBack_12 rfl rfl ?_
    refine sh_aload_n (pc := 13) dX7_putBack_13 rfl rfl ?_
    refine sh_getR (pc := 14) dX7_putBack_14 fl_X7_19 rfl is_119 pt_119_5 ?_
    refine sh_iload_n (pc := 17) dX7_putBack_17 rfl rfl ?_
    obtain ⟨hi_3, h⟩ := h
    refine sh_iald (pc := 18) dX7_putBack_18 is_123 (by decide) hi_3 ?_
    refine sh_iast (pc := 19) dX7_putBack_19 is_120 (by decide) hi_3  ?_
    refine k_iinc (pc := 20) [some (.inr 119), some (.inl (y1 + 1))] dX7_putBack_20 rfl rfl (by decide) ?_
    refine sh_goto (pc := 23) (tgt := 2) dX7_putBack_23 (by decide) ?_
    exact sh_O.locals h (sub_some (sub_some sub_nil))
set_option maxRecDepth 100000 in
set_option maxHeartbeats 4000000 in
theorem eX7_record  {I : sh_Mem} {Q : sh_Mem → Prop} (h : (sh_Bd (I 119 2) ∧ ((¬ (I 119 2) = 4 → kk mX7_record 50 [some (.inr 119), some (.inl 0)] [] I (qv Q)) ∧ ((I 119 2) = 4 → kk mX7_record 10 [some (.inr 119), some (.inl 0)] [] I (qv Q))))) : cc mX7_record [.inr 119] I (qv Q) := by
  refine sh_call cd_X7_record.2.2.2 (Nat.le_of_ble_eq_true rfl) ?_
  show kk mX7_record 0 [some (.inr 119), none] [] I (qv Q)
  refine sh_aload_n (pc := 0) dX7_record_0 rfl rfl ?_
  refine sh_getI (pc := 1) (g := 2) dX7_record_1 fl_X7_55 rfl is_119 rfl ?_
  refine sh_iconst (pc := 4) (v := 4) dX7_record_4 rfl ?_
  obtain ⟨hb_1, h⟩ := h
  refine sh_icmp_ne (pc := 5) (tgt := 48) dX7_record_5 (by decide) hb_1 (bd_lit (by decide)) (fun q_2 => ?_) (fun q_2 => ?_)
  · replace h := h.1 q_2
    refine sh_iconst (pc := 48) (v := 0) dX7_record_48 rfl ?_
    refine k_istore_n (pc := 49) [some (.inr 119), some (.inl 0)] dX7_record_49 rfl rfl (by decide) ?_
    exact sh_O.locals h (sub_some (sub_some sub_nil))
  · replace h := h.2 q_2
    refine sh_iconst (pc := 8) (v := 0) dX7_record_8 rfl ?_
    refine k_istore_n (pc := 9) [some (.inr 119), some (.inl 0)] dX7_record_9 rfl rfl (by decide) ?_
    exact sh_O.locals h (sub_some (sub_some sub_nil))
set_option maxRecDepth 100000 in
set_option maxHeartbeats 4000000 in
theorem lX7_record_50 {y1 : Int} {I : sh_Mem} {Q : sh_Mem → Prop} (h : (sh_Bd y1 ∧ ((63 ≤ y1 → Q (sh_u I 119 2 ((I 119 2) + 1))) ∧ (y1 < 63 → ((0 ≤ y1 ∧ y1 < (63 : Int)) ∧ ((0 ≤ ((63 * (I 119 2)) + y1) ∧ ((63 * (I 119 2)) + y1) < (252 : Int)) ∧ kk mX7_record 50 [some (.inr 119), some (.inl (y1 + 1))] [] (sh_u I 121 ((63 * (I 119 2)) + y1) (I 123 y1)) (qv Q))))))) : kk mX7_record 50 [some (.inr 119), some (.inl y1)] [] I (qv Q) := by
  refine sh_iload_n (pc := 50) dX7_record_50 rfl rfl ?_
  refine sh_bipush (pc := 51) (v := 63) dX7_record_51 (by decide) ?_
  obtain ⟨hb_1, h⟩ := h
  refine sh_icmp_ge (pc := 53) (tgt := 82) dX7_record_53 (by decide) hb_1 (bd_lit (by decide)) (fun q_2 => ?_) (fun q_2 => ?_)
  · replace h := h.1 q_2
    refine sh_aload_n (pc := 82) dX7_record_82 rfl rfl ?_
    refine sh_dup (pc := 83) dX7_record_83 ?_
    refine sh_getI (pc := 84) (g := 2) dX7_record_84 fl_X7_55 rfl is_119 rfl ?_
    refine sh_iconst (pc := 87) (v := 1) dX7_record_87 rfl ?_
    refine sh_iadd (pc := 88) dX7_record_88 ?_
    refine k_putI (pc := 89) (g := 2) dX7_record_89 fl_X7_55 rfl is_119 rfl ?_
    exact k_vret dX7_record_92 rfl h
  · replace h := h.2 q_2
    refine sh_aload_n (pc := 56) dX7_record_56 rfl rfl ?_
    refine sh_getR (pc := 57) dX7_record_57 fl_X7_13 rfl is_119 pt_119_1 ?_
    refine sh_bipush (pc := 60) (v := 63) dX7_record_60 (by decide) ?_
    refine sh_aload_n (pc := 62) dX7_record_62 rfl rfl ?_
    refine sh_getI (pc := 63) (g := 2) dX7_record_63 fl_X7_55 rfl is_119 rfl ?_
    refine sh_imul (pc := 66) dX7_record_66 ?_
    refine sh_iload_n (pc := 67) dX7_record_67 rfl rfl ?_
    refine sh_iadd (pc := 68) dX7_record_68 ?_
    refine sh_aload_n (pc := 69) dX7_record_69 rfl rfl ?_
    refine sh_getR (pc := 70) dX7_record_70 fl_X7_19 rfl is_119 pt_119_5 ?_
    refine sh_iload_n (pc := 73) dX7_record_73 rfl rfl ?_
    obtain ⟨hi_3, h⟩ := h
    refine sh_iald (pc := 74) dX7_record_74 is_123 (by decide) hi_3 ?_
    obtain ⟨hi_4, h⟩ := h
    refine sh_iast (pc := 75) dX7_record_75 is_121 (by decide) hi_4  ?_
    refine k_iinc (pc := 76) [some (.inr 119), some (.inl (y1 + 1))] dX7_record_76 rfl rfl (by decide) ?_
    refine sh_goto (pc := 79) (tgt := 50) dX7_record_79 (by decide) ?_
    exact sh_O.locals h (sub_some (sub_some sub_nil))
set_option maxRecDepth 100000 in
set_option maxHeartbeats 4000000 in
theorem lX7_record_10 {y1 : Int} {I : sh_Mem} {Q : sh_Mem → Prop} (h : (sh_Bd y1 ∧ ((189 ≤ y1 → kk mX7_record 50 [some (.inr 119), some (.inl 0)] [] (sh_u I 119 2 ((I 119 2) - 1)) (qv Q)) ∧ (y1 < 189 → ((0 ≤ (y1 + 63) ∧ (y1 + 63) < (252 : Int)) ∧ ((0 ≤ y1 ∧ y1 < (252 : Int)) ∧ kk mX7_record 10 [some (.inr 119), some (.inl (y1 + 1))] [] (sh_u I 121 y1 (I 121 (y1 + 63))) (qv Q))))))) : kk mX7_record 10 [some (.inr 119), some (.inl y1)] [] I (qv Q) := by
  refine sh_iload_n (pc := 10) dX7_record_10 rfl rfl ?_
  refine sh_sipush (pc := 11) (v := 189) dX7_record_11 (by decide) ?_
  obtain ⟨hb_1, h⟩ := h
  refine sh_icmp_ge (pc := 14) (tgt := 38) dX7_record_14 (by decide) hb_1 (bd_lit (by decide)) (fun q_2 => ?_) (fun q_2 => ?_)
  · replace h := h.1 q_2
    refine sh_aload_n (pc := 38) dX7_record_38 rfl rfl ?_
    refine sh_dup (pc := 39) dX7_record_39 ?_
    refine sh_getI (pc := 40) (g := 2) dX7_record_40 fl_X7_55 rfl is_119 rfl ?_
    refine sh_iconst (pc := 43) (v := 1) dX7_record_43 rfl ?_
    refine sh_isub (pc := 44) dX7_record_44 ?_
    refine k_putI (pc := 45) (g := 2) dX7_record_45 fl_X7_55 rfl is_119 rfl ?_
    refine sh_iconst (pc := 48) (v := 0) dX7_record_48 rfl ?_
    refine k_istore_n (pc := 49) [some (.inr 119), some (.inl 0)] dX7_record_49 rfl rfl (by decide) ?_
    exact sh_O.locals h (sub_some (sub_some sub_nil))
  · replace h := h.2 q_2
    refine sh_aload_n (pc := 17) dX7_record_17 rfl rfl ?_
    refine sh_getR (pc := 18) dX7_record_18 fl_X7_13 rfl is_119 pt_119_1 ?_
    refine sh_iload_n (pc := 21) dX7_record_21 rfl rfl ?_
    refine sh_aload_n (pc := 22) dX7_record_22 rfl rfl ?_
    refine sh_getR (pc := 23) dX7_record_23 fl_X7_13 rfl is_119 pt_119_1 ?_
    refine sh_iload_n (pc := 26) dX7_record_26 rfl rfl ?_
    refine sh_bipush (pc := 27) (v := 63) dX7_record_27 (by decide) ?_
    refine sh_iadd (pc := 29) dX7_record_29 ?_
    obtain ⟨hi_3, h⟩ := h
    refine sh_iald (pc := 30) dX7_record_30 is_121 (by decide) hi_3 ?_
    obtain ⟨hi_4, h⟩ := h
    refine sh_iast (pc := 31) dX7_record_31 is_121 (by decide) hi_4  ?_
    refine k_iinc (pc := 32) [some (.inr 119), some (.inl (y1 + 1))] dX7_record_32 rfl rfl (by decide) ?_
    refine sh_goto (pc := 35) (tgt := 10) dX7_record_35 (by decide) ?_
    exact sh_O.locals h (sub_some (sub_some sub_nil))
set_option maxRecDepth 100000 in
set_option maxHeartbeats 4000000 in
theorem eX7_acted {x1 : Int} {I : sh_Mem} {Q : Int → sh_Mem → Prop} (h : (sh_Bd x1 ∧ ((x1 < 0 → Q x1 I) ∧ (0 ≤ x1 → (cc mX7_record [.inr 119] I (qv fun I3 => Q x1 I3)))))) : cc mX7_acted [.inr 119, .inl x1] I (qi Q) := by
  refine sh_call cd_X7_acted.2.2.2 (Nat.le_of_ble_eq_true rfl) ?_
  show kk mX7_acted 0 [some (.inr 119), some (.inl x1)] [] I (qi Q)
  refine sh_iload_n (pc := 0) dX7_acted_0 rfl rfl ?_
  obtain ⟨hb_1, h⟩ := h
  refine sh_if_lt (pc := 1) (tgt := 8) dX7_acted_1 (by decide) hb_1  (fun q_2 => ?_) (fun q_2 => ?_)
  · replace h := h.1 q_2
    refine sh_iload_n (pc := 8) dX7_acted_8 rfl rfl ?_
    exact k_iret dX7_acted_9 rfl h
  · replace h := h.2 q_2
    refine sh_aload_n (pc := 4) dX7_acted_4 rfl rfl ?_
    refine k_V0v (pc := 5) is_119 dX7_acted_5 lk_X7_58 rfl h (fun I3 h => ?_)
    refine sh_iload_n (pc := 8) dX7_acted_8 rfl rfl ?_
    exact k_iret dX7_acted_9 rfl h
set_option maxRecDepth 100000 in
set_option maxHeartbeats 4000000 in
theorem eX7_undo  {I : sh_Mem} {Q : Int → sh_Mem → Prop} (h : (sh_Bd (I 119 2) ∧ ((¬ (I 119 2) = 0 → kk mX7_undo 22 [some (.inr 119), some (.inl 0)] [] (sh_u I 119 2 ((I 119 2) - 1)) (qi Q)) ∧ ((I 119 2) = 0 → Q (-5) I)))) : cc mX7_undo [.inr 119] I (qi Q) := by
  refine sh_call cd_X7_undo.2.2.2 (Nat.le_of_ble_eq_true rfl) ?_
  show kk mX7_undo 0 [some (.inr 119), none] [] I (qi Q)
  refine sh_aload_n (pc := 0) dX7_undo_0 rfl rfl ?_
  refine sh_getI (pc := 1) (g := 2) dX7_undo_1 fl_X7_55 rfl is_119 rfl ?_
  obtain ⟨hb_1, h⟩ := h
  refine sh_if_ne (pc := 4) (tgt := 10) dX7_undo_4 (by decide) hb_1  (fun q_2 => ?_) (fun q_2 => ?_)
  · replace h := h.1 q_2
    refine sh_aload_n (pc := 10) dX7_undo_10 rfl rfl ?_
    refine sh_dup (pc := 11) dX7_undo_11 ?_
    refine sh_getI (pc := 12) (g := 2) dX7_undo_12 fl_X7_55 rfl is_119 rfl ?_
    refine sh_iconst (pc := 15) (v := 1) dX7_undo_15 rfl ?_
    refine sh_isub (pc := 16) dX7_undo_16 ?_
    refine k_putI (pc := 17) (g := 2) dX7_undo_17 fl_X7_55 rfl is_119 rfl ?_
    refine sh_iconst (pc := 20) (v := 0) dX7_undo_20 rfl ?_
    refine k_istore_n (pc := 21) [some (.inr 119), some (.inl 0)] dX7_undo_21 rfl rfl (by decide) ?_
    exact sh_O.locals h (sub_some (sub_some sub_nil))
  · replace h := h.2 q_2
    refine sh_bipush (pc := 7) (v := (-5)) dX7_undo_7 (by decide) ?_
    exact k_iret dX7_undo_9 rfl h
set_option maxRecDepth 100000 in
set_option maxHeartbeats 4000000 in
theorem lX7_undo_22 {y1 : Int} {I : sh_Mem} {Q : Int → sh_Mem → Prop} (h : (sh_Bd y1 ∧ ((63 ≤ y1 → Q (I 119 2) I) ∧ (y1 < 63 → ((0 ≤ ((63 * (I 119 2)) + y1) ∧ ((63 * (I 119 2)) + y1) < (252 : Int)) ∧ ((0 ≤ y1 ∧ y1 < (63 : Int)) ∧ kk mX7_undo 22 [some (.inr 119), some (.inl (y1 + 1))] [] (sh_u I 120 y1 (I 121 ((63 * (I 119 2)) + y1))) (qi Q))))))) : kk mX7_undo 22 [some (.inr 119), some (.inl y1)] [] I (qi Q) := by
  refine sh_iload_n (pc := 22) dX7_undo_22 rfl rfl ?_
  refine sh_bipush (pc := 23) (v := 63) dX7_undo_23 (by decide) ?_
  obtain ⟨hb_1, h⟩ := h
  refine sh_icmp_ge (pc := 25) (tgt := 54) dX7_undo_25 (by decide) hb_1 (bd_lit (by decide)) (fun q_2 => ?_) (fun q_2 => ?_)
  · replace h := h.1 q_2
    refine sh_aload_n (pc := 54) dX7_undo_54 rfl rfl ?_
    refine sh_getI (pc := 55) (g := 2) dX7_undo_55 fl_X7_55 rfl is_119 rfl ?_
    exact k_iret dX7_undo_58 rfl h
  · replace h := h.2 q_2
    refine sh_aload_n (pc := 28) dX7_undo_28 rfl rfl ?_
    refine sh_getR (pc := 29) dX7_undo_29 fl_X7_7 rfl is_119 pt_119_0 ?_
    refine sh_iload_n (pc := 32) dX7_undo_32 rfl rfl ?_
    refine sh_aload_n (pc := 33) dX7_undo_33 rfl rfl ?_
    refine sh_getR (pc := 34) dX7_undo_34 fl_X7_13 rfl is_119 pt_119_1 ?_
    refine sh_bipush (pc := 37) (v := 63) dX7_undo_37 (by decide) ?_
    refine sh_aload_n (pc := 39) dX7_undo_39 rfl rfl ?_
    refine sh_getI (pc := 40) (g := 2) dX7_undo_40 fl_X7_55 rfl is_119 rfl ?_
    refine sh_imul (pc := 43) dX7_undo_43 ?_
    refine sh_iload_n (pc := 44) dX7_undo_44 rfl rfl ?_
    refine sh_iadd (pc := 45) dX7_undo_45 ?_
    obtain ⟨hi_3, h⟩ := h
    refine sh_iald (pc := 46) dX7_undo_46 is_121 (by decide) hi_3 ?_
    obtain ⟨hi_4, h⟩ := h
    refine sh_iast (pc := 47) dX7_undo_47 is_120 (by decide) hi_4  ?_
    refine k_iinc (pc := 48) [some (.inr 119), some (.inl (y1 + 1))] dX7_undo_48 rfl rfl (by decide) ?_
    refine sh_goto (pc := 51) (tgt := 22) dX7_undo_51 (by decide) ?_
    exact sh_O.locals h (sub_some (sub_some sub_nil))
set_option maxRecDepth 100000 in
set_option maxHeartbeats 4000000 in
theorem eX7_keep  {I : sh_Mem} {Q : Int → sh_Mem → Prop} (h : kk mX7_keep 2 [some (.inr 119), some (.inl 0)] [] I (qi Q)) : cc mX7_keep [.inr 119] I (qi Q) := by
  refine sh_call cd_X7_keep.2.2.2 (Nat.le_of_ble_eq_true rfl) ?_
  show kk mX7_keep 0 [some (.inr 119), none] [] I (qi Q)
  refine sh_iconst (pc := 0) (v := 0) dX7_keep_0 rfl ?_
  refine k_istore_n (pc := 1) [some (.inr 119), some (.inl 0)] dX7_keep_1 rfl rfl (by decide) ?_
  exact sh_O.locals h (sub_some (sub_some sub_nil))
set_option maxRecDepth 100000 in
set_option maxHeartbeats 4000000 in
theorem lX7_keep_2 {y1 : Int} {I : sh_Mem} {Q : Int → sh_Mem → Prop} (h : (sh_Bd y1 ∧ ((63 ≤ y1 → Q (I 120 20) (sh_u I 119 4 1)) ∧ (y1 < 63 → ((0 ≤ y1 ∧ y1 < (63 : Int)) ∧ kk mX7_keep 2 [some (.inr 119), some (.inl (y1 + 1))] [] (sh_u I 122 y1 (I 120 y1)) (qi Q)))))) : kk mX7_keep 2 [some (.inr 119), some (.inl y1)] [] I (qi Q) := by
  refine sh_iload_n (pc := 2) dX7_keep_2 rfl rfl ?_
  refine sh_bipush (pc := 3) (v := 63) dX7_keep_3 (by decide) ?_
  obtain ⟨hb_1, h⟩ := h
  refine sh_icmp_ge (pc := 5) (tgt := 26) dX7_keep_5 (by decide) hb_1 (bd_lit (by decide)) (fun q_2 => ?_) (fun q_2 => ?_)
  · replace h := h.1 q_2
    refine sh_aload_n (pc := 26) dX7_keep_26 rfl rfl ?_
    refine sh_iconst (pc := 27) (v := 1) dX7_keep_27 rfl ?_
    refine k_putZ (pc := 28) (g := 4) dX7_keep_28 fl_X7_61 rfl is_119 rfl (Or.inr rfl) ?_
    refine sh_aload_n (pc := 31) dX7_keep_31 rfl rfl ?_
    refine sh_getR (pc := 32) dX7_keep_32 fl_X7_7 rfl is_119 pt_119_0 ?_
    refine sh_bipush (pc := 35) (v := 20) dX7_keep_35 (by decide) ?_
    refine k_iald (pc := 37) (I 120 20) dX7_keep_37 is_120 (by decide) (by decide) (by simp [sh_u]) ?_
    exact k_iret dX7_keep_38 rfl h
  · replace h := h.2 q_2
    refine sh_aload_n (pc := 8) dX7_keep_8 rfl rfl ?_
    refine sh_getR (pc := 9) dX7_keep_9 fl_X7_16 rfl is_119 pt_119_3 ?_
    refine sh_iload_n (pc := 12) dX7_keep_12 rfl rfl ?_
    refine sh_aload_n (pc := 13) dX7_keep_13 rfl rfl ?_
    refine sh_getR (pc := 14) dX7_keep_14 fl_X7_7 rfl is_119 pt_119_0 ?_
    refine sh_iload_n (pc := 17) dX7_keep_17 rfl rfl ?_
    obtain ⟨hi_3, h⟩ := h
    refine sh_iald (pc := 18) dX7_keep_18 is_120 (by decide) hi_3 ?_
    refine sh_iast (pc := 19) dX7_keep_19 is_122 (by decide) hi_3  ?_
    refine k_iinc (pc := 20) [some (.inr 119), some (.inl (y1 + 1))] dX7_keep_20 rfl rfl (by decide) ?_
    refine sh_goto (pc := 23) (tgt := 2) dX7_keep_23 (by decide) ?_
    exact sh_O.locals h (sub_some (sub_some sub_nil))
set_option maxRecDepth 100000 in
set_option maxHeartbeats 4000000 in
theorem eX7_restore  {I : sh_Mem} {Q : Int → sh_Mem → Prop} (h : (sh_Bd (I 119 4) ∧ ((¬ (I 119 4) = 0 → (cc mX7_putAside [.inr 119] I (qv fun I3 => (cc mX7_record [.inr 119] I3 (qv fun I5 => kk mX7_restore 20 [some (.inr 119), some (.inl 0)] [] I5 (qi Q)))))) ∧ ((I 119 4) = 0 → Q (-5) I)))) : cc mX7_restore [.inr 119] I (qi Q) := by
  refine sh_call cd_X7_restore.2.2.2 (Nat.le_of_ble_eq_true rfl) ?_
  show kk mX7_restore 0 [some (.inr 119), none] [] I (qi Q)
  refine sh_aload_n (pc := 0) dX7_restore_0 rfl rfl ?_
  refine sh_getI (pc := 1) (g := 4) dX7_restore_1 fl_X7_61 rfl is_119 rfl ?_
  obtain ⟨hb_1, h⟩ := h
  refine sh_if_ne (pc := 4) (tgt := 10) dX7_restore_4 (by decide) hb_1  (fun q_2 => ?_) (fun q_2 => ?_)
  · replace h := h.1 q_2
    refine sh_aload_n (pc := 10) dX7_restore_10 rfl rfl ?_
    refine k_V0v (pc := 11) is_119 dX7_restore_11 lk_X7_65 rfl h (fun I3 h => ?_)
    refine sh_aload_n (pc := 14) dX7_restore_14 rfl rfl ?_
    refine k_V0v (pc := 15) is_119 dX7_restore_15 lk_X7_58 rfl h (fun I5 h => ?_)
    refine sh_iconst (pc := 18) (v := 0) dX7_restore_18 rfl ?_
    refine k_istore_n (pc := 19) [some (.inr 119), some (.inl 0)] dX7_restore_19 rfl rfl (by decide) ?_
    exact sh_O.locals h (sub_some (sub_some sub_nil))
  · replace h := h.2 q_2
    refine sh_bipush (pc := 7) (v := (-5)) dX7_restore_7 (by decide) ?_
    exact k_iret dX7_restore_9 rfl h
set_option maxRecDepth 100000 in
set_option maxHeartbeats 4000000 in
theorem lX7_restore_20 {y1 : Int} {I : sh_Mem} {Q : Int → sh_Mem → Prop} (h : (sh_Bd y1 ∧ ((63 ≤ y1 → Q (I 120 20) I) ∧ (y1 < 63 → ((0 ≤ y1 ∧ y1 < (63 : Int)) ∧ kk mX7_restore 20 [some (.inr 119), some (.inl (y1 + 1))] [] (sh_u I 120 y1 (I 122 y1)) (qi Q)))))) : kk mX7_restore 20 [some (.inr 119), some (.inl y1)] [] I (qi Q) := by
  refine sh_iload_n (pc := 20) dX7_restore_20 rfl rfl ?_
  refine sh_bipush (pc := 21) (v := 63) dX7_restore_21 (by decide) ?_
  obtain ⟨hb_1, h⟩ := h
  refine sh_icmp_ge (pc := 23) (tgt := 44) dX7_restore_23 (by decide) hb_1 (bd_lit (by decide)) (fun q_2 => ?_) (fun q_2 => ?_)
  · replace h := h.1 q_2
    refine sh_aload_n (pc := 44) dX7_restore_44 rfl rfl ?_
    refine sh_getR (pc := 45) dX7_restore_45 fl_X7_7 rfl is_119 pt_119_0 ?_
    refine sh_bipush (pc := 48) (v := 20) dX7_restore_48 (by decide) ?_
    refine sh_iald (pc := 50) dX7_restore_50 is_120 (by decide) (by decide) ?_
    exact k_iret dX7_restore_51 rfl h
  · replace h := h.2 q_2
    refine sh_aload_n (pc := 26) dX7_restore_26 rfl rfl ?_
    refine sh_getR (pc := 27) dX7_restore_27 fl_X7_7 rfl is_119 pt_119_0 ?_
    refine sh_iload_n (pc := 30) dX7_restore_30 rfl rfl ?_
    refine sh_aload_n (pc := 31) dX7_restore_31 rfl rfl ?_
    refine sh_getR (pc := 32) dX7_restore_32 fl_X7_16 rfl is_119 pt_119_3 ?_
    refine sh_iload_n (pc := 35) dX7_restore_35 rfl rfl ?_
    obtain ⟨hi_3, h⟩ := h
    refine sh_iald (pc := 36) dX7_restore_36 is_122 (by decide) hi_3 ?_
    refine sh_iast (pc := 37) dX7_restore_37 is_120 (by decide) hi_3  ?_
    refine k_iinc (pc := 38) [some (.inr 119), some (.inl (y1 + 1))] dX7_restore_38 rfl rfl (by decide) ?_
    refine sh_goto (pc := 41) (tgt := 20) dX7_restore_41 (by decide) ?_
    exact sh_O.locals h (sub_some (sub_some sub_nil))
set_option maxRecDepth 100000 in
set_option maxHeartbeats 4000000 in
theorem eX7_next {x1 : Int} {x2 : Int} {I : sh_Mem} {Q : Int → sh_Mem → Prop} (h : (sh_Bd x2 ∧ ((x2 = 0 → (sh_Bd x1 ∧ ((10 ≤ x1 → Q (x1 - 10) I) ∧ (x1 < 10 → Q (-5) I)))) ∧ ((x2 = 1 → ((0 ≤ x1 ∧ x1 < 2147483648) ∧ (sh_Bd (x1 % 10) ∧ ((¬ (x1 % 10) = 9 → Q (x1 + 1) I) ∧ ((x1 % 10) = 9 → Q (-5) I))))) ∧ ((x2 = 2 → (sh_Bd x1 ∧ ((x1 ≤ 89 → Q (x1 + 10) I) ∧ (89 < x1 → Q (-5) I)))) ∧ ((x2 < 0 ∨ 2 < x2) → ((0 ≤ x1 ∧ x1 < 2147483648) ∧ (sh_Bd (x1 % 10) ∧ ((¬ (x1 % 10) = 0 → Q (x1 - 1) I) ∧ ((x1 % 10) = 0 → Q (-5) I)))))))))) : cc mX7_next [.inl x1, .inl x2] I (qi Q) := by
  refine sh_call cd_X7_next.2.2.2 (Nat.le_of_ble_eq_true rfl) ?_
  show kk mX7_next 0 [some (.inl x1), some (.inl x2)] [] I (qi Q)
  refine sh_iload_n (pc := 0) dX7_next_0 rfl rfl ?_
  obtain ⟨hb_1, h⟩ := h
  by_cases q_4 : x2 = 0
  · refine sh_tableIn (pc := 1) (k := 0) (tgt := 28) dX7_next_1 q_4 (bd_lit (by decide)) (by decide) (by decide) rfl (by decide) ?_
    replace h := h.1 q_4
    refine sh_iload_n (pc := 28) dX7_next_28 rfl rfl ?_
    refine sh_bipush (pc := 29) (v := 10) dX7_next_29 (by decide) ?_
    obtain ⟨hb_2, h⟩ := h
    refine sh_icmp_ge (pc := 31) (tgt := 39) dX7_next_31 (by decide) hb_2 (bd_lit (by decide)) (fun q_3 => ?_) (fun q_3 => ?_)
    · replace h := h.1 q_3
      refine sh_iload_n (pc := 39) dX7_next_39 rfl rfl ?_
      refine sh_bipush (pc := 40) (v := 10) dX7_next_40 (by decide) ?_
      refine sh_isub (pc := 42) dX7_next_42 ?_
      exact k_iret dX7_next_43 rfl h
    · replace h := h.2 q_3
      refine sh_bipush (pc := 34) (v := (-5)) dX7_next_34 (by decide) ?_
      refine sh_goto (pc := 36) (tgt := 43) dX7_next_36 (by decide) ?_
      exact k_iret dX7_next_43 rfl h
  replace h := h.2
  by_cases q_8 : x2 = 1
  · refine sh_tableIn (pc := 1) (k := 1) (tgt := 44) dX7_next_1 q_8 (bd_lit (by decide)) (by decide) (by decide) rfl (by decide) ?_
    replace h := h.1 q_8
    refine sh_iload_n (pc := 44) dX7_next_44 rfl rfl ?_
    refine sh_bipush (pc := 45) (v := 10) dX7_next_45 (by decide) ?_
    obtain ⟨hn_5, h⟩ := h
    refine sh_irem (pc := 47) dX7_next_47 hn_5.1 hn_5.2 (by decide) (by decide) ?_
    refine sh_bipush (pc := 48) (v := 9) dX7_next_48 (by decide) ?_
    obtain ⟨hb_6, h⟩ := h
    refine sh_icmp_ne (pc := 50) (tgt := 58) dX7_next_50 (by decide) hb_6 (bd_lit (by decide)) (fun q_7 => ?_) (fun q_7 => ?_)
    · replace h := h.1 q_7
      refine sh_iload_n (pc := 58) dX7_next_58 rfl rfl ?_
      refine sh_iconst (pc := 59) (v := 1) dX7_next_59 rfl ?_
      refine sh_iadd (pc := 60) dX7_next_60 ?_
      exact k_iret dX7_next_61 rfl h
    · replace h := h.2 q_7
      refine sh_bipush (pc := 53) (v := (-5)) dX7_next_53 (by decide) ?_
      refine sh_goto (pc := 55) (tgt := 61) dX7_next_55 (by decide) ?_
      exact k_iret dX7_next_61 rfl h
  replace h := h.2
  by_cases q_11 : x2 = 2
  · refine sh_tableIn (pc := 1) (k := 2) (tgt := 62) dX7_next_1 q_11 (bd_lit (by decide)) (by decide) (by decide) rfl (by decide) ?_
    replace h := h.1 q_11
    refine sh_iload_n (pc := 62) dX7_next_62 rfl rfl ?_
    refine sh_bipush (pc := 63) (v := 89) dX7_next_63 (by decide) ?_
    obtain ⟨hb_9, h⟩ := h
    refine sh_icmp_le (pc := 65) (tgt := 73) dX7_next_65 (by decide) hb_9 (bd_lit (by decide)) (fun q_10 => ?_) (fun q_10 => ?_)
    · replace h := h.1 q_10
      refine sh_iload_n (pc := 73) dX7_next_73 rfl rfl ?_
      refine sh_bipush (pc := 74) (v := 10) dX7_next_74 (by decide) ?_
      refine sh_iadd (pc := 76) dX7_next_76 ?_
      exact k_iret dX7_next_77 rfl h
    · replace h := h.2 q_10
      refine sh_bipush (pc := 68) (v := (-5)) dX7_next_68 (by decide) ?_
      refine sh_goto (pc := 70) (tgt := 77) dX7_next_70 (by decide) ?_
      exact k_iret dX7_next_77 rfl h
  replace h := h.2
  have q_15 : x2 < 0 ∨ 2 < x2 := by omega
  refine sh_tableOut (pc := 1) (tgt := 78) dX7_next_1 hb_1 q_15 (by decide) ?_
  replace h := h q_15
  refine sh_iload_n (pc := 78) dX7_next_78 rfl rfl ?_
  refine sh_bipush (pc := 79) (v := 10) dX7_next_79 (by decide) ?_
  obtain ⟨hn_12, h⟩ := h
  refine sh_irem (pc := 81) dX7_next_81 hn_12.1 hn_12.2 (by decide) (by decide) ?_
  obtain ⟨hb_13, h⟩ := h
  refine sh_if_ne (pc := 82) (tgt := 90) dX7_next_82 (by decide) hb_13  (fun q_14 => ?_) (fun q_14 => ?_)
  · replace h := h.1 q_14
    refine sh_iload_n (pc := 90) dX7_next_90 rfl rfl ?_
    refine sh_iconst (pc := 91) (v := 1) dX7_next_91 rfl ?_
    refine sh_isub (pc := 92) dX7_next_92 ?_
    exact k_iret dX7_next_93 rfl h
  · replace h := h.2 q_14
    refine sh_bipush (pc := 85) (v := (-5)) dX7_next_85 (by decide) ?_
    refine sh_goto (pc := 87) (tgt := 93) dX7_next_87 (by decide) ?_
    exact k_iret dX7_next_93 rfl h
set_option maxRecDepth 100000 in
set_option maxHeartbeats 4000000 in
theorem eX7_runnerAt {x1 : Int} {I : sh_Mem} {Q : Int → sh_Mem → Prop} (h : kk mX7_runnerAt 5 [some (.inr 119), some (.inl x1), some (.inl (-5)), some (.inl 0)] [] I (qi Q)) : cc mX7_runnerAt [.inr 119, .inl x1] I (qi Q) := by
  refine sh_call cd_X7_runnerAt.2.2.2 (Nat.le_of_ble_eq_true rfl) ?_
  show kk mX7_runnerAt 0 [some (.inr 119), some (.inl x1), none, none] [] I (qi Q)
  refine sh_bipush (pc := 0) (v := (-5)) dX7_runnerAt_0 (by decide) ?_
  refine k_istore_n (pc := 2) [some (.inr 119), some (.inl x1), some (.inl (-5)), none] dX7_runnerAt_2 rfl rfl (by decide) ?_
  refine sh_iconst (pc := 3) (v := 0) dX7_runnerAt_3 rfl ?_
  refine k_istore_n (pc := 4) [some (.inr 119), some (.inl x1), some (.inl (-5)), some (.inl 0)] dX7_runnerAt_4 rfl rfl (by decide) ?_
  exact sh_O.locals h (sub_some (sub_some (sub_some (sub_some sub_nil))))
set_option maxRecDepth 100000 in
set_option maxHeartbeats 4000000 in
theorem lX7_runnerAt_5 {y1 : Int} {y2 : Int} {y3 : Int} {I : sh_Mem} {Q : Int → sh_Mem → Prop} (h : (sh_Bd y3 ∧ (sh_Bd (I 120 20) ∧ (((I 120 20) ≤ y3 → Q y2 I) ∧ (y3 < (I 120 20) → (cc mX7_of [.inr 119, .inl y3, .inl 0] I (qi fun v6 I4 => (sh_Bd v6 ∧ (sh_Bd y1 ∧ ((¬ v6 = y1 → kk mX7_runnerAt 5 [some (.inr 119), some (.inl y1), some (.inl y2), some (.inl (y3 + 1))] [] I4 (qi Q)) ∧ (v6 = y1 → kk mX7_runnerAt 5 [some (.inr 119), some (.inl y1), some (.inl y3), some (.inl (y3 + 1))] [] I4 (qi Q)))))))))))) : kk mX7_runnerAt 5 [some (.inr 119), some (.inl y1), some (.inl y2), some (.inl y3)] [] I (qi Q) := by
  refine sh_iload_n (pc := 5) dX7_runnerAt_5 rfl rfl ?_
  refine sh_aload_n (pc := 6) dX7_runnerAt_6 rfl rfl ?_
  refine sh_getR (pc := 7) dX7_runnerAt_7 fl_X7_7 rfl is_119 pt_119_0 ?_
  refine sh_bipush (pc := 10) (v := 20) dX7_runnerAt_10 (by decide) ?_
  refine sh_iald (pc := 12) dX7_runnerAt_12 is_120 (by decide) (by decide) ?_
  obtain ⟨hb_1, h⟩ := h
  obtain ⟨hb_2, h⟩ := h
  refine sh_icmp_ge (pc := 13) (tgt := 38) dX7_runnerAt_13 (by decide) hb_1 hb_2 (fun q_3 => ?_) (fun q_3 => ?_)
  · replace h := h.1 q_3
    refine sh_iload_n (pc := 38) dX7_runnerAt_38 rfl rfl ?_
    exact k_iret dX7_runnerAt_39 rfl h
  · replace h := h.2 q_3
    refine sh_aload_n (pc := 16) dX7_runnerAt_16 rfl rfl ?_
    refine sh_iload_n (pc := 17) dX7_runnerAt_17 rfl rfl ?_
    refine sh_iconst (pc := 18) (v := 0) dX7_runnerAt_18 rfl ?_
    refine k_V2i (pc := 19) is_119 dX7_runnerAt_19 lk_X7_68 rfl h (fun v6 I4 h => ?_)
    refine sh_iload_n (pc := 22) dX7_runnerAt_22 rfl rfl ?_
    obtain ⟨hb_7, h⟩ := h
    obtain ⟨hb_8, h⟩ := h
    refine sh_icmp_ne (pc := 23) (tgt := 30) dX7_runnerAt_23 (by decide) hb_7 hb_8 (fun q_9 => ?_) (fun q_9 => ?_)
    · replace h := h.1 q_9
      refine sh_iload_n (pc := 30) dX7_runnerAt_30 rfl rfl ?_
      refine k_istore_n (pc := 31) [some (.inr 119), some (.inl y1), some (.inl y2), some (.inl y3)] dX7_runnerAt_31 rfl rfl (by decide) ?_
      refine k_iinc (pc := 32) [some (.inr 119), some (.inl y1), some (.inl y2), some (.inl (y3 + 1))] dX7_runnerAt_32 rfl rfl (by decide) ?_
      refine sh_goto (pc := 35) (tgt := 5) dX7_runnerAt_35 (by decide) ?_
      exact sh_O.locals h (sub_some (sub_some (sub_some (sub_some sub_nil))))
    · replace h := h.2 q_9
      refine sh_iload_n (pc := 26) dX7_runnerAt_26 rfl rfl ?_
      refine sh_goto (pc := 27) (tgt := 31) dX7_runnerAt_27 (by decide) ?_
      refine k_istore_n (pc := 31) [some (.inr 119), some (.inl y1), some (.inl y3), some (.inl y3)] dX7_runnerAt_31 rfl rfl (by decide) ?_
      refine k_iinc (pc := 32) [some (.inr 119), some (.inl y1), some (.inl y3), some (.inl (y3 + 1))] dX7_runnerAt_32 rfl rfl (by decide) ?_
      refine sh_goto (pc := 35) (tgt := 5) dX7_runnerAt_35 (by decide) ?_
      exact sh_O.locals h (sub_some (sub_some (sub_some (sub_some sub_nil))))
set_option maxRecDepth 100000 in
set_option maxHeartbeats 4000000 in
theorem eX7_follow {x1 : Int} {x2 : Int} {I : sh_Mem} {Q : sh_Mem → Prop} (h : (cc mX7_ofLamp [.inr 119, .inl x2, .inl 3] (sh_u (sh_u I 119 7 0) 119 8 (-5)) (qi fun v3 I1 => (sh_Bd v3 ∧ ((¬ v3 = 1 → (cc mX7_of [.inr 119, .inl x1, .inl 0] I1 (qi fun v8 I6 => kk mX7_follow 47 [some (.inr 119), none, some (.inl x2), some (.inl 0), some (.inl v8)] [] I6 (qv Q)))) ∧ (v3 = 1 → (cc mX7_of [.inr 119, .inl x1, .inl 1] I1 (qi fun v11 I9 => (cc mX7_ofLamp [.inr 119, .inl x2, .inl 1] I9 (qi fun v14 I12 => (cc mX7_of [.inr 119, .inl x1, .inl 0] I12 (qi fun v17 I15 => kk mX7_follow 47 [some (.inr 119), none, some (.inl x2), some (.inl (v11 * v14)), some (.inl v17)] [] I15 (qv Q))))))))))))) : cc mX7_follow [.inr 119, .inl x1, .inl x2] I (qv Q) := by
  refine sh_call cd_X7_follow.2.2.2 (Nat.le_of_ble_eq_true rfl) ?_
  show kk mX7_follow 0 [some (.inr 119), some (.inl x1), some (.inl x2), none, none] [] I (qv Q)
  refine sh_aload_n (pc := 0) dX7_follow_0 rfl rfl ?_
  refine sh_iconst (pc := 1) (v := 0) dX7_follow_1 rfl ?_
  refine k_putI (pc := 2) (g := 7) dX7_follow_2 fl_X7_72 rfl is_119 rfl ?_
  refine sh_aload_n (pc := 5) dX7_follow_5 rfl rfl ?_
  refine sh_bipush (pc := 6) (v := (-5)) dX7_follow_6 (by decide) ?_
  refine k_putI (pc := 8) (g := 8) dX7_follow_8 fl_X7_75 rfl is_119 rfl ?_
  refine sh_aload_n (pc := 11) dX7_follow_11 rfl rfl ?_
  refine sh_iload_n (pc := 12) dX7_follow_12 rfl rfl ?_
  refine sh_iconst (pc := 13) (v := 3) dX7_follow_13 rfl ?_
  refine k_V2i (pc := 14) is_119 dX7_follow_14 lk_X7_78 rfl h (fun v3 I1 h => ?_)
  refine sh_iconst (pc := 17) (v := 1) dX7_follow_17 rfl ?_
  obtain ⟨hb_4, h⟩ := h
  refine sh_icmp_ne (pc := 18) (tgt := 37) dX7_follow_18 (by decide) hb_4 (bd_lit (by decide)) (fun q_5 => ?_) (fun q_5 => ?_)
  · replace h := h.1 q_5
    refine sh_iconst (pc := 37) (v := 0) dX7_follow_37 rfl ?_
    refine k_istore_n (pc := 38) [some (.inr 119), some (.inl x1), some (.inl x2), some (.inl 0), none] dX7_follow_38 rfl rfl (by decide) ?_
    refine sh_aload_n (pc := 39) dX7_follow_39 rfl rfl ?_
    refine sh_iload_n (pc := 40) dX7_follow_40 rfl rfl ?_
    refine sh_iconst (pc := 41) (v := 0) dX7_follow_41 rfl ?_
    refine k_V2i (pc := 42) is_119 dX7_follow_42 lk_X7_68 rfl h (fun v8 I6 h => ?_)
    refine k_istore (pc := 45) [some (.inr 119), some (.inl x1), some (.inl x2), some (.inl 0), some (.inl v8)] dX7_follow_45 rfl (by decide) ?_
    exact sh_O.locals h (sub_some (sub_none (sub_some (sub_some (sub_some sub_nil)))))
  · replace h := h.2 q_5
    refine sh_aload_n (pc := 21) dX7_follow_21 rfl rfl ?_
    refine sh_iload_n (pc := 22) dX7_follow_22 rfl rfl ?_
    refine sh_iconst (pc := 23) (v := 1) dX7_follow_23 rfl ?_
    refine k_V2i (pc := 24) is_119 dX7_follow_24 lk_X7_68 rfl h (fun v11 I9 h => ?_)
    refine sh_aload_n (pc := 27) dX7_follow_27 rfl rfl ?_
    refine sh_iload_n (pc := 28) dX7_follow_28 rfl rfl ?_
    refine sh_iconst (pc := 29) (v := 1) dX7_follow_29 rfl ?_
    refine k_V2i (pc := 30) is_119 dX7_follow_30 lk_X7_78 rfl h (fun v14 I12 h => ?_)
    refine sh_imul (pc := 33) dX7_follow_33 ?_
    refine sh_goto (pc := 34) (tgt := 38) dX7_follow_34 (by decide) ?_
    refine k_istore_n (pc := 38) [some (.inr 119), some (.inl x1), some (.inl x2), some (.inl (v11 * v14)), none] dX7_follow_38 rfl rfl (by decide) ?_
    refine sh_aload_n (pc := 39) dX7_follow_39 rfl rfl ?_
    refine sh_iload_n (pc := 40) dX7_follow_40 rfl rfl ?_
    refine sh_iconst (pc := 41) (v := 0) dX7_follow_41 rfl ?_
    refine k_V2i (pc := 42) is_119 dX7_follow_42 lk_X7_68 rfl h (fun v17 I15 h => ?_)
    refine k_istore (pc := 45) [some (.inr 119), some (.inl x1), some (.inl x2), some (.inl (v11 * v14)), some (.inl v17)] dX7_follow_45 rfl (by decide) ?_
    exact sh_O.locals h (sub_some (sub_none (sub_some (sub_some (sub_some sub_nil)))))
set_option maxRecDepth 100000 in
set_option maxHeartbeats 4000000 in
theorem lX7_follow_47 {y2 : Int} {y3 : Int} {y4 : Int} {I : sh_Mem} {Q : sh_Mem → Prop} (h : (sh_Bd (I 119 7) ∧ (sh_Bd y3 ∧ ((y3 ≤ (I 119 7) → Q I) ∧ ((I 119 7) < y3 → (sh_Bd (I 119 8) ∧ ((¬ (I 119 8) = (-5) → Q I) ∧ ((I 119 8) = (-5) → (sh_Bd y4 ∧ ((y4 = (-5) → Q I) ∧ (¬ y4 = (-5) → (cc mX7_ofLamp [.inr 119, .inl y2, .inl 0] I (qi fun v10 I8 => ((0 ≤ (v10 + 2) ∧ (v10 + 2) < 2147483648) ∧ (cc mX7_next [.inl y4, .inl ((v10 + 2) % 4)] I8 (qi fun v14 I12 => (sh_Bd v14 ∧ ((v14 = (-5) → kk mX7_follow 47 [some (.inr 119), none, some (.inl y2), some (.inl y3), some (.inl v14)] [] I12 (qv Q)) ∧ (¬ v14 = (-5) → ((0 ≤ (I12 119 7) ∧ (I12 119 7) < (24 : Int)) ∧ (cc mX7_runnerAt [.inr 119, .inl v14] (sh_u (sh_u I12 124 (I12 119 7) v14) 119 7 ((I12 119 7) + 1)) (qi fun v20 I18 => kk mX7_follow 47 [some (.inr 119), none, some (.inl y2), some (.inl y3), some (.inl v14)] [] (sh_u I18 119 8 v20) (qv Q))))))))))))))))))))))) : kk mX7_follow 47 [some (.inr 119), none, some (.inl y2), some (.inl y3), some (.inl y4)] [] I (qv Q) := by
  refine sh_aload_n (pc := 47) dX7_follow_47 rfl rfl ?_
  refine sh_getI (pc := 48) (g := 7) dX7_follow_48 fl_X7_72 rfl is_119 rfl ?_
  refine sh_iload_n (pc := 51) dX7_follow_51 rfl rfl ?_
  obtain ⟨hb_1, h⟩ := h
  obtain ⟨hb_2, h⟩ := h
  refine sh_icmp_ge (pc := 52) (tgt := 129) dX7_follow_52 (by decide) hb_1 hb_2 (fun q_3 => ?_) (fun q_3 => ?_)
  · replace h := h.1 q_3
    exact k_vret dX7_follow_129 rfl h
  · replace h := h.2 q_3
    refine sh_aload_n (pc := 55) dX7_follow_55 rfl rfl ?_
    refine sh_getI (pc := 56) (g := 8) dX7_follow_56 fl_X7_75 rfl is_119 rfl ?_
    refine sh_bipush (pc := 59) (v := (-5)) dX7_follow_59 (by decide) ?_
    obtain ⟨hb_4, h⟩ := h
    refine sh_icmp_ne (pc := 61) (tgt := 129) dX7_follow_61 (by decide) hb_4 (bd_lit (by decide)) (fun q_5 => ?_) (fun q_5 => ?_)
    · replace h := h.1 q_5
      exact k_vret dX7_follow_129 rfl h
    · replace h := h.2 q_5
      refine sh_iload (pc := 64) dX7_follow_64 rfl ?_
      refine sh_bipush (pc := 66) (v := (-5)) dX7_follow_66 (by decide) ?_
      obtain ⟨hb_6, h⟩ := h
      refine sh_icmp_eq (pc := 68) (tgt := 129) dX7_follow_68 (by decide) hb_6 (bd_lit (by decide)) (fun q_7 => ?_) (fun q_7 => ?_)
      · replace h := h.1 q_7
        exact k_vret dX7_follow_129 rfl h
      · replace h := h.2 q_7
        refine sh_iload (pc := 71) dX7_follow_71 rfl ?_
        refine sh_aload_n (pc := 73) dX7_follow_73 rfl rfl ?_
        refine sh_iload_n (pc := 74) dX7_follow_74 rfl rfl ?_
        refine sh_iconst (pc := 75) (v := 0) dX7_follow_75 rfl ?_
        refine k_V2i (pc := 76) is_119 dX7_follow_76 lk_X7_78 rfl h (fun v10 I8 h => ?_)
        refine sh_iconst (pc := 79) (v := 2) dX7_follow_79 rfl ?_
        refine sh_iadd (pc := 80) dX7_follow_80 ?_
        refine sh_iconst (pc := 81) (v := 4) dX7_follow_81 rfl ?_
        obtain ⟨hn_11, h⟩ := h
        refine sh_irem (pc := 82) dX7_follow_82 hn_11.1 hn_11.2 (by decide) (by decide) ?_
        refine k_S2i (pc := 83) dX7_follow_83 lk_X7_81 rfl h (fun v14 I12 h => ?_)
        refine k_istore (pc := 86) [some (.inr 119), none, some (.inl y2), some (.inl y3), some (.inl v14)] dX7_follow_86 rfl (by decide) ?_
        refine sh_iload (pc := 88) dX7_follow_88 rfl ?_
        refine sh_bipush (pc := 90) (v := (-5)) dX7_follow_90 (by decide) ?_
        obtain ⟨hb_15, h⟩ := h
        refine sh_icmp_eq (pc := 92) (tgt := 47) dX7_follow_92 (by decide) hb_15 (bd_lit (by decide)) (fun q_16 => ?_) (fun q_16 => ?_)
        · replace h := h.1 q_16
          exact sh_O.locals h (sub_some (sub_none (sub_some (sub_some (sub_some sub_nil)))))
        · replace h := h.2 q_16
          refine sh_aload_n (pc := 95) dX7_follow_95 rfl rfl ?_
          refine sh_getR (pc := 96) dX7_follow_96 fl_X7_22 rfl is_119 pt_119_6 ?_
          refine sh_aload_n (pc := 99) dX7_follow_99 rfl rfl ?_
          refine sh_getI (pc := 100) (g := 7) dX7_follow_100 fl_X7_72 rfl is_119 rfl ?_
          refine sh_iload (pc := 103) dX7_follow_103 rfl ?_
          obtain ⟨hi_17, h⟩ := h
          refine sh_iast (pc := 105) dX7_follow_105 is_124 (by decide) hi_17  ?_
          refine sh_aload_n (pc := 106) dX7_follow_106 rfl rfl ?_
          refine sh_dup (pc := 107) dX7_follow_107 ?_
          refine k_getI (pc := 108) (g := 7) (I12 119 7) dX7_follow_108 fl_X7_72 rfl is_119 rfl (by simp [sh_u]) ?_
          refine sh_iconst (pc := 111) (v := 1) dX7_follow_111 rfl ?_
          refine sh_iadd (pc := 112) dX7_follow_112 ?_
          refine k_putI (pc := 113) (g := 7) dX7_follow_113 fl_X7_72 rfl is_119 rfl ?_
          refine sh_aload_n (pc := 116) dX7_follow_116 rfl rfl ?_
          refine sh_aload_n (pc := 117) dX7_follow_117 rfl rfl ?_
          refine sh_iload (pc := 118) dX7_follow_118 rfl ?_
          refine k_V1i (pc := 120) is_119 dX7_follow_120 lk_X7_84 rfl h (fun v20 I18 h => ?_)
          refine k_putI (pc := 123) (g := 8) dX7_follow_123 fl_X7_75 rfl is_119 rfl ?_
          refine sh_goto (pc := 126) (tgt := 47) dX7_follow_126 (by decide) ?_
          exact sh_O.locals h (sub_some (sub_none (sub_some (sub_some (sub_some sub_nil)))))
set_option maxRecDepth 100000 in
set_option maxHeartbeats 4000000 in
theorem eX7_isShaded {x1 : Int} {x2 : Int} {x3 : Int} {I : sh_Mem} {Q : Int → sh_Mem → Prop} (h : (cc mX7_follow [.inr 119, .inl x1, .inl x2] I (qv fun I1 => kk mX7_isShaded 12 [some (.inr 119), none, none, some (.inl x3), some (.inl 0), some (.inl 0)] [] I1 (qi Q)))) : cc mX7_isShaded [.inr 119, .inl x1, .inl x2, .inl x3] I (qi Q) := by
  refine sh_call cd_X7_isShaded.2.2.2 (Nat.le_of_ble_eq_true rfl) ?_
  show kk mX7_isShaded 0 [some (.inr 119), some (.inl x1), some (.inl x2), some (.inl x3), none, none] [] I (qi Q)
  refine sh_aload_n (pc := 0) dX7_isShaded_0 rfl rfl ?_
  refine sh_iload_n (pc := 1) dX7_isShaded_1 rfl rfl ?_
  refine sh_iload_n (pc := 2) dX7_isShaded_2 rfl rfl ?_
  refine k_V2v (pc := 3) is_119 dX7_isShaded_3 lk_X7_88 rfl h (fun I1 h => ?_)
  refine sh_iconst (pc := 6) (v := 0) dX7_isShaded_6 rfl ?_
  refine k_istore (pc := 7) [some (.inr 119), some (.inl x1), some (.inl x2), some (.inl x3), some (.inl 0), none] dX7_isShaded_7 rfl (by decide) ?_
  refine sh_iconst (pc := 9) (v := 0) dX7_isShaded_9 rfl ?_
  refine k_istore (pc := 10) [some (.inr 119), some (.inl x1), some (.inl x2), some (.inl x3), some (.inl 0), some (.inl 0)] dX7_isShaded_10 rfl (by decide) ?_
  exact sh_O.locals h (sub_some (sub_none (sub_none (sub_some (sub_some (sub_some sub_nil))))))
set_option maxRecDepth 100000 in
set_option maxHeartbeats 4000000 in
theorem lX7_isShaded_12 {y3 : Int} {y4 : Int} {y5 : Int} {I : sh_Mem} {Q : Int → sh_Mem → Prop} (h : (sh_Bd y5 ∧ (sh_Bd (I 119 7) ∧ (((I 119 7) ≤ y5 → (sh_01 y4 ∧ Q y4 I)) ∧ (y5 < (I 119 7) → (sh_Bd y4 ∧ ((¬ y4 = 0 → kk mX7_isShaded 12 [some (.inr 119), none, none, some (.inl y3), some (.inl 1), some (.inl (y5 + 1))] [] I (qi Q)) ∧ (y4 = 0 → ((0 ≤ y5 ∧ y5 < (24 : Int)) ∧ (sh_Bd (I 124 y5) ∧ (sh_Bd y3 ∧ ((¬ (I 124 y5) = y3 → kk mX7_isShaded 12 [some (.inr 119), none, none, some (.inl y3), some (.inl 0), some (.inl (y5 + 1))] [] I (qi Q)) ∧ ((I 124 y5) = y3 → kk mX7_isShaded 12 [some (.inr 119), none, none, some (.inl y3), some (.inl 1), some (.inl (y5 + 1))] [] I (qi Q)))))))))))))) : kk mX7_isShaded 12 [some (.inr 119), none, none, some (.inl y3), some (.inl y4), some (.inl y5)] [] I (qi Q) := by
  refine sh_iload (pc := 12) dX7_isShaded_12 rfl ?_
  refine sh_aload_n (pc := 14) dX7_isShaded_14 rfl rfl ?_
  refine sh_getI (pc := 15) (g := 7) dX7_isShaded_15 fl_X7_72 rfl is_119 rfl ?_
  obtain ⟨hb_1, h⟩ := h
  obtain ⟨hb_2, h⟩ := h
  refine sh_icmp_ge (pc := 18) (tgt := 50) dX7_isShaded_18 (by decide) hb_1 hb_2 (fun q_3 => ?_) (fun q_3 => ?_)
  · replace h := h.1 q_3
    refine sh_iload (pc := 50) dX7_isShaded_50 rfl ?_
    obtain ⟨hz_4, h⟩ := h
    exact k_zret dX7_isShaded_52 rfl hz_4 h
  · replace h := h.2 q_3
    refine sh_iload (pc := 21) dX7_isShaded_21 rfl ?_
    obtain ⟨hb_5, h⟩ := h
    refine sh_if_ne (pc := 23) (tgt := 37) dX7_isShaded_23 (by decide) hb_5  (fun q_6 => ?_) (fun q_6 => ?_)
    · replace h := h.1 q_6
      refine sh_iconst (pc := 37) (v := 1) dX7_isShaded_37 rfl ?_
      refine sh_goto (pc := 38) (tgt := 42) dX7_isShaded_38 (by decide) ?_
      refine k_istore (pc := 42) [some (.inr 119), none, none, some (.inl y3), some (.inl 1), some (.inl y5)] dX7_isShaded_42 rfl (by decide) ?_
      refine k_iinc (pc := 44) [some (.inr 119), none, none, some (.inl y3), some (.inl 1), some (.inl (y5 + 1))] dX7_isShaded_44 rfl rfl (by decide) ?_
      refine sh_goto (pc := 47) (tgt := 12) dX7_isShaded_47 (by decide) ?_
      exact sh_O.locals h (sub_some (sub_none (sub_none (sub_some (sub_some (sub_some sub_nil))))))
    · replace h := h.2 q_6
      refine sh_aload_n (pc := 26) dX7_isShaded_26 rfl rfl ?_
      refine sh_getR (pc := 27) dX7_isShaded_27 fl_X7_22 rfl is_119 pt_119_6 ?_
      refine sh_iload (pc := 30) dX7_isShaded_30 rfl ?_
      obtain ⟨hi_7, h⟩ := h
      refine sh_iald (pc := 32) dX7_isShaded_32 is_124 (by decide) hi_7 ?_
      refine sh_iload_n (pc := 33) dX7_isShaded_33 rfl rfl ?_
      obtain ⟨hb_8, h⟩ := h
      obtain ⟨hb_9, h⟩ := h
      refine sh_icmp_ne (pc := 34) (tgt := 41) dX7_isShaded_34 (by decide) hb_8 hb_9 (fun q_10 => ?_) (fun q_10 => ?_)
      · replace h := h.1 q_10
        refine sh_iconst (pc := 41) (v := 0) dX7_isShaded_41 rfl ?_
        refine k_istore (pc := 42) [some (.inr 119), none, none, some (.inl y3), some (.inl 0), some (.inl y5)] dX7_isShaded_42 rfl (by decide) ?_
        refine k_iinc (pc := 44) [some (.inr 119), none, none, some (.inl y3), some (.inl 0), some (.inl (y5 + 1))] dX7_isShaded_44 rfl rfl (by decide) ?_
        refine sh_goto (pc := 47) (tgt := 12) dX7_isShaded_47 (by decide) ?_
        exact sh_O.locals h (sub_some (sub_none (sub_none (sub_some (sub_some (sub_some sub_nil))))))
      · replace h := h.2 q_10
        refine sh_iconst (pc := 37) (v := 1) dX7_isShaded_37 rfl ?_
        refine sh_goto (pc := 38) (tgt := 42) dX7_isShaded_38 (by decide) ?_
        refine k_istore (pc := 42) [some (.inr 119), none, none, some (.inl y3), some (.inl 1), some (.inl y5)] dX7_isShaded_42 rfl (by decide) ?_
        refine k_iinc (pc := 44) [some (.inr 119), none, none, some (.inl y3), some (.inl 1), some (.inl (y5 + 1))] dX7_isShaded_44 rfl rfl (by decide) ?_
        refine sh_goto (pc := 47) (tgt := 12) dX7_isShaded_47 (by decide) ?_
        exact sh_O.locals h (sub_some (sub_none (sub_none (sub_some (sub_some (sub_some sub_nil))))))
set_option maxRecDepth 100000 in
set_option maxHeartbeats 4000000 in
theorem eX7_isInShadowOf {x1 : Int} {x2 : Int} {I : sh_Mem} {Q : Int → sh_Mem → Prop} (h : kk mX7_isInShadowOf 5 [some (.inr 119), some (.inl x1), some (.inl x2), some (.inl 0), some (.inl 0)] [] I (qi Q)) : cc mX7_isInShadowOf [.inr 119, .inl x1, .inl x2] I (qi Q) := by
  refine sh_call cd_X7_isInShadowOf.2.2.2 (Nat.le_of_ble_eq_true rfl) ?_
  show kk mX7_isInShadowOf 0 [some (.inr 119), some (.inl x1), some (.inl x2), none, none] [] I (qi Q)
  refine sh_iconst (pc := 0) (v := 0) dX7_isInShadowOf_0 rfl ?_
  refine k_istore_n (pc := 1) [some (.inr 119), some (.inl x1), some (.inl x2), some (.inl 0), none] dX7_isInShadowOf_1 rfl rfl (by decide) ?_
  refine sh_iconst (pc := 2) (v := 0) dX7_isInShadowOf_2 rfl ?_
  refine k_istore (pc := 3) [some (.inr 119), some (.inl x1), some (.inl x2), some (.inl 0), some (.inl 0)] dX7_isInShadowOf_3 rfl (by decide) ?_
  exact sh_O.locals h (sub_some (sub_some (sub_some (sub_some (sub_some sub_nil)))))
set_option maxRecDepth 100000 in
set_option maxHeartbeats 4000000 in
theorem lX7_isInShadowOf_5 {y1 : Int} {y2 : Int} {y3 : Int} {y4 : Int} {I : sh_Mem} {Q : Int → sh_Mem → Prop} (h : (sh_Bd y4 ∧ ((3 ≤ y4 → (sh_01 y3 ∧ Q y3 I)) ∧ (y4 < 3 → (sh_Bd y3 ∧ ((¬ y3 = 0 → kk mX7_isInShadowOf 5 [some (.inr 119), some (.inl y1), some (.inl y2), some (.inl 1), some (.inl (y4 + 1))] [] I (qi Q)) ∧ (y3 = 0 → (cc mX7_isShaded [.inr 119, .inl y1, .inl y4, .inl y2] I (qi fun v8 I6 => ((v8 = 1 ∧ kk mX7_isInShadowOf 5 [some (.inr 119), some (.inl y1), some (.inl y2), some (.inl 1), some (.inl (y4 + 1))] [] I6 (qi Q)) ∨ (v8 = 0 ∧ kk mX7_isInShadowOf 5 [some (.inr 119), some (.inl y1), some (.inl y2), some (.inl 0), some (.inl (y4 + 1))] [] I6 (qi Q)))))))))))) : kk mX7_isInShadowOf 5 [some (.inr 119), some (.inl y1), some (.inl y2), some (.inl y3), some (.inl y4)] [] I (qi Q) := by
  refine sh_iload (pc := 5) dX7_isInShadowOf_5 rfl ?_
  refine sh_iconst (pc := 7) (v := 3) dX7_isInShadowOf_7 rfl ?_
  obtain ⟨hb_1, h⟩ := h
  refine sh_icmp_ge (pc := 8) (tgt := 38) dX7_isInShadowOf_8 (by decide) hb_1 (bd_lit (by decide)) (fun q_2 => ?_) (fun q_2 => ?_)
  · replace h := h.1 q_2
    refine sh_iload_n (pc := 38) dX7_isInShadowOf_38 rfl rfl ?_
    obtain ⟨hz_3, h⟩ := h
    exact k_zret dX7_isInShadowOf_39 rfl hz_3 h
  · replace h := h.2 q_2
    refine sh_iload_n (pc := 11) dX7_isInShadowOf_11 rfl rfl ?_
    obtain ⟨hb_4, h⟩ := h
    refine sh_if_ne (pc := 12) (tgt := 26) dX7_isInShadowOf_12 (by decide) hb_4  (fun q_5 => ?_) (fun q_5 => ?_)
    · replace h := h.1 q_5
      refine sh_iconst (pc := 26) (v := 1) dX7_isInShadowOf_26 rfl ?_
      refine sh_goto (pc := 27) (tgt := 31) dX7_isInShadowOf_27 (by decide) ?_
      refine k_istore_n (pc := 31) [some (.inr 119), some (.inl y1), some (.inl y2), some (.inl 1), some (.inl y4)] dX7_isInShadowOf_31 rfl rfl (by decide) ?_
      refine k_iinc (pc := 32) [some (.inr 119), some (.inl y1), some (.inl y2), some (.inl 1), some (.inl (y4 + 1))] dX7_isInShadowOf_32 rfl rfl (by decide) ?_
      refine sh_goto (pc := 35) (tgt := 5) dX7_isInShadowOf_35 (by decide) ?_
      exact sh_O.locals h (sub_some (sub_some (sub_some (sub_some (sub_some sub_nil)))))
    · replace h := h.2 q_5
      refine sh_aload_n (pc := 15) dX7_isInShadowOf_15 rfl rfl ?_
      refine sh_iload_n (pc := 16) dX7_isInShadowOf_16 rfl rfl ?_
      refine sh_iload (pc := 17) dX7_isInShadowOf_17 rfl ?_
      refine sh_iload_n (pc := 19) dX7_isInShadowOf_19 rfl rfl ?_
      refine k_V3i (pc := 20) is_119 dX7_isInShadowOf_20 lk_X7_92 rfl h (fun v8 I6 h => ?_)
      rcases h with ⟨rfl, h⟩ | ⟨rfl, h⟩
      · skip
        refine sh_if_eq (pc := 23) (tgt := 30) dX7_isInShadowOf_23 (by decide) (bd_lit (by decide)) (fun qz => ?_) (fun qz => ?_)
        · exact absurd qz (by decide)
        · skip
          refine sh_iconst (pc := 26) (v := 1) dX7_isInShadowOf_26 rfl ?_
          refine sh_goto (pc := 27) (tgt := 31) dX7_isInShadowOf_27 (by decide) ?_
          refine k_istore_n (pc := 31) [some (.inr 119), some (.inl y1), some (.inl y2), some (.inl 1), some (.inl y4)] dX7_isInShadowOf_31 rfl rfl (by decide) ?_
          refine k_iinc (pc := 32) [some (.inr 119), some (.inl y1), some (.inl y2), some (.inl 1), some (.inl (y4 + 1))] dX7_isInShadowOf_32 rfl rfl (by decide) ?_
          refine sh_goto (pc := 35) (tgt := 5) dX7_isInShadowOf_35 (by decide) ?_
          exact sh_O.locals h (sub_some (sub_some (sub_some (sub_some (sub_some sub_nil)))))
      · skip
        refine sh_if_eq (pc := 23) (tgt := 30) dX7_isInShadowOf_23 (by decide) (bd_lit (by decide)) (fun qz => ?_) (fun qz => ?_)
        · skip
          refine sh_iconst (pc := 30) (v := 0) dX7_isInShadowOf_30 rfl ?_
          refine k_istore_n (pc := 31) [some (.inr 119), some (.inl y1), some (.inl y2), some (.inl 0), some (.inl y4)] dX7_isInShadowOf_31 rfl rfl (by decide) ?_
          refine k_iinc (pc := 32) [some (.inr 119), some (.inl y1), some (.inl y2), some (.inl 0), some (.inl (y4 + 1))] dX7_isInShadowOf_32 rfl rfl (by decide) ?_
          refine sh_goto (pc := 35) (tgt := 5) dX7_isInShadowOf_35 (by decide) ?_
          exact sh_O.locals h (sub_some (sub_some (sub_some (sub_some (sub_some sub_nil)))))
        · exact absurd qz (by decide)
set_option maxRecDepth 100000 in
set_option maxHeartbeats 4000000 in
theorem eX7_hasShadow {x1 : Int} {I : sh_Mem} {Q : Int → sh_Mem → Prop} (h : kk mX7_hasShadow 4 [some (.inr 119), some (.inl x1), some (.inl 0), some (.inl 0)] [] I (qi Q)) : cc mX7_hasShadow [.inr 119, .inl x1] I (qi Q) := by
  refine sh_call cd_X7_hasShadow.2.2.2 (Nat.le_of_ble_eq_true rfl) ?_
  show kk mX7_hasShadow 0 [some (.inr 119), some (.inl x1), none, none] [] I (qi Q)
  refine sh_iconst (pc := 0) (v := 0) dX7_hasShadow_0 rfl ?_
  refine k_istore_n (pc := 1) [some (.inr 119), some (.inl x1), some (.inl 0), none] dX7_hasShadow_1 rfl rfl (by decide) ?_
  refine sh_iconst (pc := 2) (v := 0) dX7_hasShadow_2 rfl ?_
  refine k_istore_n (pc := 3) [some (.inr 119), some (.inl x1), some (.inl 0), some (.inl 0)] dX7_hasShadow_3 rfl rfl (by decide) ?_
  exact sh_O.locals h (sub_some (sub_some (sub_some (sub_some sub_nil))))
set_option maxRecDepth 100000 in
set_option maxHeartbeats 4000000 in
theorem lX7_hasShadow_4 {y1 : Int} {y2 : Int} {y3 : Int} {I : sh_Mem} {Q : Int → sh_Mem → Prop} (h : (sh_Bd y3 ∧ ((3 ≤ y3 → (sh_01 y2 ∧ Q y2 I)) ∧ (y3 < 3 → (cc mX7_follow [.inr 119, .inl y1, .inl y3] I (qv fun I4 => (sh_Bd y2 ∧ ((¬ y2 = 0 → kk mX7_hasShadow 4 [some (.inr 119), some (.inl y1), some (.inl 1), some (.inl (y3 + 1))] [] I4 (qi Q)) ∧ (y2 = 0 → (sh_Bd (I4 119 7) ∧ (((I4 119 7) ≤ 0 → kk mX7_hasShadow 4 [some (.inr 119), some (.inl y1), some (.inl 0), some (.inl (y3 + 1))] [] I4 (qi Q)) ∧ (0 < (I4 119 7) → kk mX7_hasShadow 4 [some (.inr 119), some (.inl y1), some (.inl 1), some (.inl (y3 + 1))] [] I4 (qi Q))))))))))))) : kk mX7_hasShadow 4 [some (.inr 119), some (.inl y1), some (.inl y2), some (.inl y3)] [] I (qi Q) := by
  refine sh_iload_n (pc := 4) dX7_hasShadow_4 rfl rfl ?_
  refine sh_iconst (pc := 5) (v := 3) dX7_hasShadow_5 rfl ?_
  obtain ⟨hb_1, h⟩ := h
  refine sh_icmp_ge (pc := 6) (tgt := 38) dX7_hasShadow_6 (by decide) hb_1 (bd_lit (by decide)) (fun q_2 => ?_) (fun q_2 => ?_)
  · replace h := h.1 q_2
    refine sh_iload_n (pc := 38) dX7_hasShadow_38 rfl rfl ?_
    obtain ⟨hz_3, h⟩ := h
    exact k_zret dX7_hasShadow_39 rfl hz_3 h
  · replace h := h.2 q_2
    refine sh_aload_n (pc := 9) dX7_hasShadow_9 rfl rfl ?_
    refine sh_iload_n (pc := 10) dX7_hasShadow_10 rfl rfl ?_
    refine sh_iload_n (pc := 11) dX7_hasShadow_11 rfl rfl ?_
    refine k_V2v (pc := 12) is_119 dX7_hasShadow_12 lk_X7_88 rfl h (fun I4 h => ?_)
    refine sh_iload_n (pc := 15) dX7_hasShadow_15 rfl rfl ?_
    obtain ⟨hb_6, h⟩ := h
    refine sh_if_ne (pc := 16) (tgt := 26) dX7_hasShadow_16 (by decide) hb_6  (fun q_7 => ?_) (fun q_7 => ?_)
    · replace h := h.1 q_7
      refine sh_iconst (pc := 26) (v := 1) dX7_hasShadow_26 rfl ?_
      refine sh_goto (pc := 27) (tgt := 31) dX7_hasShadow_27 (by decide) ?_
      refine k_istore_n (pc := 31) [some (.inr 119), some (.inl y1), some (.inl 1), some (.inl y3)] dX7_hasShadow_31 rfl rfl (by decide) ?_
      refine k_iinc (pc := 32) [some (.inr 119), some (.inl y1), some (.inl 1), some (.inl (y3 + 1))] dX7_hasShadow_32 rfl rfl (by decide) ?_
      refine sh_goto (pc := 35) (tgt := 4) dX7_hasShadow_35 (by decide) ?_
      exact sh_O.locals h (sub_some (sub_some (sub_some (sub_some sub_nil))))
    · replace h := h.2 q_7
      refine sh_aload_n (pc := 19) dX7_hasShadow_19 rfl rfl ?_
      refine sh_getI (pc := 20) (g := 7) dX7_hasShadow_20 fl_X7_72 rfl is_119 rfl ?_
      obtain ⟨hb_8, h⟩ := h
      refine sh_if_le (pc := 23) (tgt := 30) dX7_hasShadow_23 (by decide) hb_8  (fun q_9 => ?_) (fun q_9 => ?_)
      · replace h := h.1 q_9
        refine sh_iconst (pc := 30) (v := 0) dX7_hasShadow_30 rfl ?_
        refine k_istore_n (pc := 31) [some (.inr 119), some (.inl y1), some (.inl 0), some (.inl y3)] dX7_hasShadow_31 rfl rfl (by decide) ?_
        refine k_iinc (pc := 32) [some (.inr 119), some (.inl y1), some (.inl 0), some (.inl (y3 + 1))] dX7_hasShadow_32 rfl rfl (by decide) ?_
        refine sh_goto (pc := 35) (tgt := 4) dX7_hasShadow_35 (by decide) ?_
        exact sh_O.locals h (sub_some (sub_some (sub_some (sub_some sub_nil))))
      · replace h := h.2 q_9
        refine sh_iconst (pc := 26) (v := 1) dX7_hasShadow_26 rfl ?_
        refine sh_goto (pc := 27) (tgt := 31) dX7_hasShadow_27 (by decide) ?_
        refine k_istore_n (pc := 31) [some (.inr 119), some (.inl y1), some (.inl 1), some (.inl y3)] dX7_hasShadow_31 rfl rfl (by decide) ?_
        refine k_iinc (pc := 32) [some (.inr 119), some (.inl y1), some (.inl 1), some (.inl (y3 + 1))] dX7_hasShadow_32 rfl rfl (by decide) ?_
        refine sh_goto (pc := 35) (tgt := 4) dX7_hasShadow_35 (by decide) ?_
        exact sh_O.locals h (sub_some (sub_some (sub_some (sub_some sub_nil))))
set_option maxRecDepth 100000 in
set_option maxHeartbeats 4000000 in
theorem eX7_go {x1 : Int} {I : sh_Mem} {Q : sh_Mem → Prop} (h : (cc mX7_of [.inr 119, .inl x1, .inl 2] I (qi fun v3 I1 => (sh_Bd v3 ∧ ((¬ v3 = 4 → (cc mX7_of [.inr 119, .inl x1, .inl 0] I1 (qi fun v8 I6 => (cc mX7_of [.inr 119, .inl x1, .inl 2] I6 (qi fun v11 I9 => (cc mX7_next [.inl v8, .inl v11] I9 (qi fun v14 I12 => (sh_Bd v14 ∧ ((v14 = (-5) → Q (sh_u I12 120 4 ((I12 120 4) + 1))) ∧ (¬ v14 = (-5) → (cc mX7_runnerAt [.inr 119, .inl v14] I12 (qi fun v19 I17 => (sh_Bd v19 ∧ ((v19 = (-5) → (cc mX7_put [.inr 119, .inl x1, .inl 0, .inl v14] I17 (qv fun I22 => Q (sh_u I22 120 3 ((I22 120 3) + 1))))) ∧ (¬ v19 = (-5) → Q (sh_u I17 120 4 ((I17 120 4) + 1))))))))))))))))) ∧ (v3 = 4 → Q I1)))))) : cc mX7_go [.inr 119, .inl x1] I (qv Q) := by
  refine sh_call cd_X7_go.2.2.2 (Nat.le_of_ble_eq_true rfl) ?_
  show kk mX7_go 0 [some (.inr 119), some (.inl x1), none] [] I (qv Q)
  refine sh_aload_n (pc := 0) dX7_go_0 rfl rfl ?_
  refine sh_iload_n (pc := 1) dX7_go_1 rfl rfl ?_
  refine sh_iconst (pc := 2) (v := 2) dX7_go_2 rfl ?_
  refine k_V2i (pc := 3) is_119 dX7_go_3 lk_X7_68 rfl h (fun v3 I1 h => ?_)
  refine sh_iconst (pc := 6) (v := 4) dX7_go_6 rfl ?_
  obtain ⟨hb_4, h⟩ := h
  refine sh_icmp_ne (pc := 7) (tgt := 11) dX7_go_7 (by decide) hb_4 (bd_lit (by decide)) (fun q_5 => ?_) (fun q_5 => ?_)
  · replace h := h.1 q_5
    refine sh_aload_n (pc := 11) dX7_go_11 rfl rfl ?_
    refine sh_iload_n (pc := 12) dX7_go_12 rfl rfl ?_
    refine sh_iconst (pc := 13) (v := 0) dX7_go_13 rfl ?_
    refine k_V2i (pc := 14) is_119 dX7_go_14 lk_X7_68 rfl h (fun v8 I6 h => ?_)
    refine sh_aload_n (pc := 17) dX7_go_17 rfl rfl ?_
    refine sh_iload_n (pc := 18) dX7_go_18 rfl rfl ?_
    refine sh_iconst (pc := 19) (v := 2) dX7_go_19 rfl ?_
    refine k_V2i (pc := 20) is_119 dX7_go_20 lk_X7_68 rfl h (fun v11 I9 h => ?_)
    refine k_S2i (pc := 23) dX7_go_23 lk_X7_81 rfl h (fun v14 I12 h => ?_)
    refine k_istore_n (pc := 26) [some (.inr 119), some (.inl x1), some (.inl v14)] dX7_go_26 rfl rfl (by decide) ?_
    refine sh_iload_n (pc := 27) dX7_go_27 rfl rfl ?_
    refine sh_bipush (pc := 28) (v := (-5)) dX7_go_28 (by decide) ?_
    obtain ⟨hb_15, h⟩ := h
    refine sh_icmp_eq (pc := 30) (tgt := 43) dX7_go_30 (by decide) hb_15 (bd_lit (by decide)) (fun q_16 => ?_) (fun q_16 => ?_)
    · replace h := h.1 q_16
      refine sh_aload_n (pc := 43) dX7_go_43 rfl rfl ?_
      refine sh_getR (pc := 44) dX7_go_44 fl_X7_7 rfl is_119 pt_119_0 ?_
      refine sh_iconst (pc := 47) (v := 4) dX7_go_47 rfl ?_
      refine sh_dup2 (pc := 48) dX7_go_48 ?_
      refine sh_iald (pc := 49) dX7_go_49 is_120 (by decide) (by decide) ?_
      refine sh_iconst (pc := 50) (v := 1) dX7_go_50 rfl ?_
      refine sh_iadd (pc := 51) dX7_go_51 ?_
      refine sh_iast (pc := 52) dX7_go_52 is_120 (by decide) (by decide)  ?_
      refine sh_goto (pc := 53) (tgt := 73) dX7_go_53 (by decide) ?_
      exact k_vret dX7_go_73 rfl h
    · replace h := h.2 q_16
      refine sh_aload_n (pc := 33) dX7_go_33 rfl rfl ?_
      refine sh_iload_n (pc := 34) dX7_go_34 rfl rfl ?_
      refine k_V1i (pc := 35) is_119 dX7_go_35 lk_X7_84 rfl h (fun v19 I17 h => ?_)
      refine sh_bipush (pc := 38) (v := (-5)) dX7_go_38 (by decide) ?_
      obtain ⟨hb_20, h⟩ := h
      refine sh_icmp_eq (pc := 40) (tgt := 56) dX7_go_40 (by decide) hb_20 (bd_lit (by decide)) (fun q_21 => ?_) (fun q_21 => ?_)
      · replace h := h.1 q_21
        refine sh_aload_n (pc := 56) dX7_go_56 rfl rfl ?_
        refine sh_iload_n (pc := 57) dX7_go_57 rfl rfl ?_
        refine sh_iconst (pc := 58) (v := 0) dX7_go_58 rfl ?_
        refine sh_iload_n (pc := 59) dX7_go_59 rfl rfl ?_
        refine k_V3v (pc := 60) is_119 dX7_go_60 lk_X7_95 rfl h (fun I22 h => ?_)
        refine sh_aload_n (pc := 63) dX7_go_63 rfl rfl ?_
        refine sh_getR (pc := 64) dX7_go_64 fl_X7_7 rfl is_119 pt_119_0 ?_
        refine sh_iconst (pc := 67) (v := 3) dX7_go_67 rfl ?_
        refine sh_dup2 (pc := 68) dX7_go_68 ?_
        refine sh_iald (pc := 69) dX7_go_69 is_120 (by decide) (by decide) ?_
        refine sh_iconst (pc := 70) (v := 1) dX7_go_70 rfl ?_
        refine sh_iadd (pc := 71) dX7_go_71 ?_
        refine sh_iast (pc := 72) dX7_go_72 is_120 (by decide) (by decide)  ?_
        exact k_vret dX7_go_73 rfl h
      · replace h := h.2 q_21
        refine sh_aload_n (pc := 43) dX7_go_43 rfl rfl ?_
        refine sh_getR (pc := 44) dX7_go_44 fl_X7_7 rfl is_119 pt_119_0 ?_
        refine sh_iconst (pc := 47) (v := 4) dX7_go_47 rfl ?_
        refine sh_dup2 (pc := 48) dX7_go_48 ?_
        refine sh_iald (pc := 49) dX7_go_49 is_120 (by decide) (by decide) ?_
        refine sh_iconst (pc := 50) (v := 1) dX7_go_50 rfl ?_
        refine sh_iadd (pc := 51) dX7_go_51 ?_
        refine sh_iast (pc := 52) dX7_go_52 is_120 (by decide) (by decide)  ?_
        refine sh_goto (pc := 53) (tgt := 73) dX7_go_53 (by decide) ?_
        exact k_vret dX7_go_73 rfl h
  · replace h := h.2 q_5
    exact k_vret dX7_go_10 rfl h
set_option maxRecDepth 100000 in
set_option maxHeartbeats 4000000 in
theorem eX7_tagNow  {I : sh_Mem} {Q : Int → sh_Mem → Prop} (h : kk mX7_tagNow 13 [some (.inr 119), some (.inl (-5)), some (.inl ((I 120 20) - 1)), none] [] I (qi Q)) : cc mX7_tagNow [.inr 119] I (qi Q) := by
  refine sh_call cd_X7_tagNow.2.2.2 (Nat.le_of_ble_eq_true rfl) ?_
  show kk mX7_tagNow 0 [some (.inr 119), none, none, none] [] I (qi Q)
  refine sh_bipush (pc := 0) (v := (-5)) dX7_tagNow_0 (by decide) ?_
  refine k_istore_n (pc := 2) [some (.inr 119), some (.inl (-5)), none, none] dX7_tagNow_2 rfl rfl (by decide) ?_
  refine sh_aload_n (pc := 3) dX7_tagNow_3 rfl rfl ?_
  refine sh_getR (pc := 4) dX7_tagNow_4 fl_X7_7 rfl is_119 pt_119_0 ?_
  refine sh_bipush (pc := 7) (v := 20) dX7_tagNow_7 (by decide) ?_
  refine sh_iald (pc := 9) dX7_tagNow_9 is_120 (by decide) (by decide) ?_
  refine sh_iconst (pc := 10) (v := 1) dX7_tagNow_10 rfl ?_
  refine sh_isub (pc := 11) dX7_tagNow_11 ?_
  refine k_istore_n (pc := 12) [some (.inr 119), some (.inl (-5)), some (.inl ((I 120 20) - 1)), none] dX7_tagNow_12 rfl rfl (by decide) ?_
  exact sh_O.locals h (sub_some (sub_some (sub_some (sub_none sub_nil))))
set_option maxRecDepth 100000 in
set_option maxHeartbeats 4000000 in
theorem lX7_tagNow_13 {y1 : Int} {y2 : Int} {I : sh_Mem} {Q : Int → sh_Mem → Prop} (h : (sh_Bd y2 ∧ ((y2 < 0 → Q y1 I) ∧ (0 ≤ y2 → (sh_Bd (I 120 1) ∧ ((y2 = (I 120 1) → kk mX7_tagNow 59 [some (.inr 119), some (.inl y1), some (.inl y2), none] [] I (qi Q)) ∧ (¬ y2 = (I 120 1) → (cc mX7_of [.inr 119, .inl y2, .inl 3] I (qi fun v7 I5 => (sh_Bd v7 ∧ ((¬ v7 = 0 → kk mX7_tagNow 59 [some (.inr 119), some (.inl y1), some (.inl y2), none] [] I5 (qi Q)) ∧ (v7 = 0 → (cc mX7_of [.inr 119, .inl (I5 120 1), .inl 0] I5 (qi fun v12 I10 => (cc mX7_isInShadowOf [.inr 119, .inl y2, .inl v12] I10 (qi fun v15 I13 => ((v15 = 1 ∧ kk mX7_tagNow 13 [some (.inr 119), some (.inl y2), some (.inl (y2 + (-1))), none] [] I13 (qi Q)) ∨ (v15 = 0 ∧ kk mX7_tagNow 59 [some (.inr 119), some (.inl y1), some (.inl y2), none] [] I13 (qi Q))))))))))))))))))) : kk mX7_tagNow 13 [some (.inr 119), some (.inl y1), some (.inl y2), none] [] I (qi Q) := by
  refine sh_iload_n (pc := 13) dX7_tagNow_13 rfl rfl ?_
  obtain ⟨hb_1, h⟩ := h
  refine sh_if_lt (pc := 14) (tgt := 77) dX7_tagNow_14 (by decide) hb_1  (fun q_2 => ?_) (fun q_2 => ?_)
  · replace h := h.1 q_2
    refine sh_iload_n (pc := 77) dX7_tagNow_77 rfl rfl ?_
    exact k_iret dX7_tagNow_78 rfl h
  · replace h := h.2 q_2
    refine sh_iload_n (pc := 17) dX7_tagNow_17 rfl rfl ?_
    refine sh_aload_n (pc := 18) dX7_tagNow_18 rfl rfl ?_
    refine sh_getR (pc := 19) dX7_tagNow_19 fl_X7_7 rfl is_119 pt_119_0 ?_
    refine sh_iconst (pc := 22) (v := 1) dX7_tagNow_22 rfl ?_
    refine sh_iald (pc := 23) dX7_tagNow_23 is_120 (by decide) (by decide) ?_
    obtain ⟨hb_3, h⟩ := h
    refine sh_icmp_eq (pc := 24) (tgt := 59) dX7_tagNow_24 (by decide) hb_1 hb_3 (fun q_4 => ?_) (fun q_4 => ?_)
    · replace h := h.1 q_4
      exact sh_O.locals h (sub_some (sub_some (sub_some (sub_none sub_nil))))
    · replace h := h.2 q_4
      refine sh_aload_n (pc := 27) dX7_tagNow_27 rfl rfl ?_
      refine sh_iload_n (pc := 28) dX7_tagNow_28 rfl rfl ?_
      refine sh_iconst (pc := 29) (v := 3) dX7_tagNow_29 rfl ?_
      refine k_V2i (pc := 30) is_119 dX7_tagNow_30 lk_X7_68 rfl h (fun v7 I5 h => ?_)
      obtain ⟨hb_8, h⟩ := h
      refine sh_if_ne (pc := 33) (tgt := 59) dX7_tagNow_33 (by decide) hb_8  (fun q_9 => ?_) (fun q_9 => ?_)
      · replace h := h.1 q_9
        exact sh_O.locals h (sub_some (sub_some (sub_some (sub_none sub_nil))))
      · replace h := h.2 q_9
        refine sh_aload_n (pc := 36) dX7_tagNow_36 rfl rfl ?_
        refine sh_iload_n (pc := 37) dX7_tagNow_37 rfl rfl ?_
        refine sh_aload_n (pc := 38) dX7_tagNow_38 rfl rfl ?_
        refine sh_aload_n (pc := 39) dX7_tagNow_39 rfl rfl ?_
        refine sh_getR (pc := 40) dX7_tagNow_40 fl_X7_7 rfl is_119 pt_119_0 ?_
        refine sh_iconst (pc := 43) (v := 1) dX7_tagNow_43 rfl ?_
        refine sh_iald (pc := 44) dX7_tagNow_44 is_120 (by decide) (by decide) ?_
        refine sh_iconst (pc := 45) (v := 0) dX7_tagNow_45 rfl ?_
        refine k_V2i (pc := 46) is_119 dX7_tagNow_46 lk_X7_68 rfl h (fun v12 I10 h => ?_)
        refine k_V2i (pc := 49) is_119 dX7_tagNow_49 lk_X7_98 rfl h (fun v15 I13 h => ?_)
        rcases h with ⟨rfl, h⟩ | ⟨rfl, h⟩
        · skip
          refine sh_if_eq (pc := 52) (tgt := 59) dX7_tagNow_52 (by decide) (bd_lit (by decide)) (fun qz => ?_) (fun qz => ?_)
          · exact absurd qz (by decide)
          · skip
            refine sh_iconst (pc := 55) (v := 1) dX7_tagNow_55 rfl ?_
            refine sh_goto (pc := 56) (tgt := 60) dX7_tagNow_56 (by decide) ?_
            refine k_istore_n (pc := 60) [some (.inr 119), some (.inl y1), some (.inl y2), some (.inl 1)] dX7_tagNow_60 rfl rfl (by decide) ?_
            refine sh_iload_n (pc := 61) dX7_tagNow_61 rfl rfl ?_
            refine sh_if_eq (pc := 62) (tgt := 69) dX7_tagNow_62 (by decide) (bd_lit (by decide))  (fun q_16 => ?_) (fun q_16 => ?_)
            · exact absurd q_16 (by decide)
            · skip
              refine sh_iload_n (pc := 65) dX7_tagNow_65 rfl rfl ?_
              refine sh_goto (pc := 66) (tgt := 70) dX7_tagNow_66 (by decide) ?_
              refine k_istore_n (pc := 70) [some (.inr 119), some (.inl y2), some (.inl y2), some (.inl 1)] dX7_tagNow_70 rfl rfl (by decide) ?_
              refine k_iinc (pc := 71) [some (.inr 119), some (.inl y2), some (.inl (y2 + (-1))), some (.inl 1)] dX7_tagNow_71 rfl rfl (by decide) ?_
              refine sh_goto (pc := 74) (tgt := 13) dX7_tagNow_74 (by decide) ?_
              exact sh_O.locals h (sub_some (sub_some (sub_some (sub_none sub_nil))))
        · skip
          refine sh_if_eq (pc := 52) (tgt := 59) dX7_tagNow_52 (by decide) (bd_lit (by decide)) (fun qz => ?_) (fun qz => ?_)
          · skip
            exact sh_O.locals h (sub_some (sub_some (sub_some (sub_none sub_nil))))
          · exact absurd qz (by decide)
set_option maxRecDepth 100000 in
set_option maxHeartbeats 4000000 in
theorem lX7_tagNow_59 {y1 : Int} {y2 : Int} {I : sh_Mem} {Q : Int → sh_Mem → Prop} (h : kk mX7_tagNow 13 [some (.inr 119), some (.inl y1), some (.inl (y2 + (-1))), none] [] I (qi Q)) : kk mX7_tagNow 59 [some (.inr 119), some (.inl y1), some (.inl y2), none] [] I (qi Q) := by
  refine sh_iconst (pc := 59) (v := 0) dX7_tagNow_59 rfl ?_
  refine k_istore_n (pc := 60) [some (.inr 119), some (.inl y1), some (.inl y2), some (.inl 0)] dX7_tagNow_60 rfl rfl (by decide) ?_
  refine sh_iload_n (pc := 61) dX7_tagNow_61 rfl rfl ?_
  refine sh_if_eq (pc := 62) (tgt := 69) dX7_tagNow_62 (by decide) (bd_lit (by decide))  (fun q_1 => ?_) (fun q_1 => ?_)
  · skip
    refine sh_iload_n (pc := 69) dX7_tagNow_69 rfl rfl ?_
    refine k_istore_n (pc := 70) [some (.inr 119), some (.inl y1), some (.inl y2), some (.inl 0)] dX7_tagNow_70 rfl rfl (by decide) ?_
    refine k_iinc (pc := 71) [some (.inr 119), some (.inl y1), some (.inl (y2 + (-1))), some (.inl 0)] dX7_tagNow_71 rfl rfl (by decide) ?_
    refine sh_goto (pc := 74) (tgt := 13) dX7_tagNow_74 (by decide) ?_
    exact sh_O.locals h (sub_some (sub_some (sub_some (sub_none sub_nil))))
  · exact absurd q_1 (by decide)
set_option maxRecDepth 100000 in
set_option maxHeartbeats 4000000 in
theorem eX7_tag {x1 : Int} {I : sh_Mem} {Q : sh_Mem → Prop} (h : (cc mX7_of [.inr 119, .inl x1, .inl 4] I (qi fun v3 I1 => (cc mX7_put [.inr 119, .inl x1, .inl 4, .inl (v3 + 1)] I1 (qv fun I4 => (cc mX7_of [.inr 119, .inl (I 120 1), .inl 5] I4 (qi fun v8 I6 => (cc mX7_put [.inr 119, .inl (I 120 1), .inl 5, .inl (v8 + 1)] I6 (qv fun I9 => (cc mX7_put [.inr 119, .inl (I 120 1), .inl 3, .inl ((I9 120 6) + 1)] I9 (qv fun I11 => Q (sh_u (sh_u I11 120 1 x1) 120 2 ((I11 120 2) + 1))))))))))))) : cc mX7_tag [.inr 119, .inl x1] I (qv Q) := by
  refine sh_call cd_X7_tag.2.2.2 (Nat.le_of_ble_eq_true rfl) ?_
  show kk mX7_tag 0 [some (.inr 119), some (.inl x1), none] [] I (qv Q)
  refine sh_aload_n (pc := 0) dX7_tag_0 rfl rfl ?_
  refine sh_getR (pc := 1) dX7_tag_1 fl_X7_7 rfl is_119 pt_119_0 ?_
  refine sh_iconst (pc := 4) (v := 1) dX7_tag_4 rfl ?_
  refine sh_iald (pc := 5) dX7_tag_5 is_120 (by decide) (by decide) ?_
  refine k_istore_n (pc := 6) [some (.inr 119), some (.inl x1), some (.inl (I 120 1))] dX7_tag_6 rfl rfl (by decide) ?_
  refine sh_aload_n (pc := 7) dX7_tag_7 rfl rfl ?_
  refine sh_iload_n (pc := 8) dX7_tag_8 rfl rfl ?_
  refine sh_iconst (pc := 9) (v := 4) dX7_tag_9 rfl ?_
  refine sh_aload_n (pc := 10) dX7_tag_10 rfl rfl ?_
  refine sh_iload_n (pc := 11) dX7_tag_11 rfl rfl ?_
  refine sh_iconst (pc := 12) (v := 4) dX7_tag_12 rfl ?_
  refine k_V2i (pc := 13) is_119 dX7_tag_13 lk_X7_68 rfl h (fun v3 I1 h => ?_)
  refine sh_iconst (pc := 16) (v := 1) dX7_tag_16 rfl ?_
  refine sh_iadd (pc := 17) dX7_tag_17 ?_
  refine k_V3v (pc := 18) is_119 dX7_tag_18 lk_X7_95 rfl h (fun I4 h => ?_)
  refine sh_aload_n (pc := 21) dX7_tag_21 rfl rfl ?_
  refine sh_iload_n (pc := 22) dX7_tag_22 rfl rfl ?_
  refine sh_iconst (pc := 23) (v := 5) dX7_tag_23 rfl ?_
  refine sh_aload_n (pc := 24) dX7_tag_24 rfl rfl ?_
  refine sh_iload_n (pc := 25) dX7_tag_25 rfl rfl ?_
  refine sh_iconst (pc := 26) (v := 5) dX7_tag_26 rfl ?_
  refine k_V2i (pc := 27) is_119 dX7_tag_27 lk_X7_68 rfl h (fun v8 I6 h => ?_)
  refine sh_iconst (pc := 30) (v := 1) dX7_tag_30 rfl ?_
  refine sh_iadd (pc := 31) dX7_tag_31 ?_
  refine k_V3v (pc := 32) is_119 dX7_tag_32 lk_X7_95 rfl h (fun I9 h => ?_)
  refine sh_aload_n (pc := 35) dX7_tag_35 rfl rfl ?_
  refine sh_iload_n (pc := 36) dX7_tag_36 rfl rfl ?_
  refine sh_iconst (pc := 37) (v := 3) dX7_tag_37 rfl ?_
  refine sh_aload_n (pc := 38) dX7_tag_38 rfl rfl ?_
  refine sh_getR (pc := 39) dX7_tag_39 fl_X7_7 rfl is_119 pt_119_0 ?_
  refine sh_bipush (pc := 42) (v := 6) dX7_tag_42 (by decide) ?_
  refine sh_iald (pc := 44) dX7_tag_44 is_120 (by decide) (by decide) ?_
  refine sh_iconst (pc := 45) (v := 1) dX7_tag_45 rfl ?_
  refine sh_iadd (pc := 46) dX7_tag_46 ?_
  refine k_V3v (pc := 47) is_119 dX7_tag_47 lk_X7_95 rfl h (fun I11 h => ?_)
  refine sh_aload_n (pc := 50) dX7_tag_50 rfl rfl ?_
  refine sh_getR (pc := 51) dX7_tag_51 fl_X7_7 rfl is_119 pt_119_0 ?_
  refine sh_iconst (pc := 54) (v := 1) dX7_tag_54 rfl ?_
  refine sh_iload_n (pc := 55) dX7_tag_55 rfl rfl ?_
  refine sh_iast (pc := 56) dX7_tag_56 is_120 (by decide) (by decide)  ?_
  refine sh_aload_n (pc := 57) dX7_tag_57 rfl rfl ?_
  refine sh_getR (pc := 58) dX7_tag_58 fl_X7_7 rfl is_119 pt_119_0 ?_
  refine sh_iconst (pc := 61) (v := 2) dX7_tag_61 rfl ?_
  refine sh_dup2 (pc := 62) dX7_tag_62 ?_
  refine k_iald (pc := 63) (I11 120 2) dX7_tag_63 is_120 (by decide) (by decide) (by simp [sh_u]) ?_
  refine sh_iconst (pc := 64) (v := 1) dX7_tag_64 rfl ?_
  refine sh_iadd (pc := 65) dX7_tag_65 ?_
  refine sh_iast (pc := 66) dX7_tag_66 is_120 (by decide) (by decide)  ?_
  exact k_vret dX7_tag_67 rfl h
set_option maxRecDepth 100000 in
set_option maxHeartbeats 4000000 in
theorem eX7_turnPlatform  {I : sh_Mem} {Q : sh_Mem → Prop} (h : kk mX7_turnPlatform 2 [some (.inr 119), some (.inl 0), none] [] I (qv Q)) : cc mX7_turnPlatform [.inr 119] I (qv Q) := by
  refine sh_call cd_X7_turnPlatform.2.2.2 (Nat.le_of_ble_eq_true rfl) ?_
  show kk mX7_turnPlatform 0 [some (.inr 119), none, none] [] I (qv Q)
  refine sh_iconst (pc := 0) (v := 0) dX7_turnPlatform_0 rfl ?_
  refine k_istore_n (pc := 1) [some (.inr 119), some (.inl 0), none] dX7_turnPlatform_1 rfl rfl (by decide) ?_
  exact sh_O.locals h (sub_some (sub_some (sub_none sub_nil)))
set_option maxRecDepth 100000 in
set_option maxHeartbeats 4000000 in
theorem lX7_turnPlatform_2 {y1 : Int} {I : sh_Mem} {Q : sh_Mem → Prop} (h : (sh_Bd y1 ∧ (sh_Bd (I 120 20) ∧ (((I 120 20) ≤ y1 → Q (sh_u I 120 5 ((I 120 5) + 1))) ∧ (y1 < (I 120 20) → (cc mX7_of [.inr 119, .inl y1, .inl 0] I (qi fun v6 I4 => ((0 ≤ v6 ∧ v6 < 2147483648) ∧ (cc mX7_put [.inr 119, .inl y1, .inl 0, .inl ((((v6 % 10) * 10) + 9) - (v6 / 10))] I4 (qv fun I8 => (cc mX7_of [.inr 119, .inl y1, .inl 2] I8 (qi fun v12 I10 => (sh_Bd v12 ∧ ((v12 = 4 → kk mX7_turnPlatform 2 [some (.inr 119), some (.inl (y1 + 1)), none] [] I10 (qv Q)) ∧ (¬ v12 = 4 → (cc mX7_of [.inr 119, .inl y1, .inl 2] I10 (qi fun v17 I15 => ((0 ≤ (v17 + 1) ∧ (v17 + 1) < 2147483648) ∧ (cc mX7_put [.inr 119, .inl y1, .inl 2, .inl ((v17 + 1) % 4)] I15 (qv fun I19 => kk mX7_turnPlatform 2 [some (.inr 119), some (.inl (y1 + 1)), none] [] I19 (qv Q))))))))))))))))))))) : kk mX7_turnPlatform 2 [some (.inr 119), some (.inl y1), none] [] I (qv Q) := by
  refine sh_iload_n (pc := 2) dX7_turnPlatform_2 rfl rfl ?_
  refine sh_aload_n (pc := 3) dX7_turnPlatform_3 rfl rfl ?_
  refine sh_getR (pc := 4) dX7_turnPlatform_4 fl_X7_7 rfl is_119 pt_119_0 ?_
  refine sh_bipush (pc := 7) (v := 20) dX7_turnPlatform_7 (by decide) ?_
  refine sh_iald (pc := 9) dX7_turnPlatform_9 is_120 (by decide) (by decide) ?_
  obtain ⟨hb_1, h⟩ := h
  obtain ⟨hb_2, h⟩ := h
  refine sh_icmp_ge (pc := 10) (tgt := 73) dX7_turnPlatform_10 (by decide) hb_1 hb_2 (fun q_3 => ?_) (fun q_3 => ?_)
  · replace h := h.1 q_3
    refine sh_aload_n (pc := 73) dX7_turnPlatform_73 rfl rfl ?_
    refine sh_getR (pc := 74) dX7_turnPlatform_74 fl_X7_7 rfl is_119 pt_119_0 ?_
    refine sh_iconst (pc := 77) (v := 5) dX7_turnPlatform_77 rfl ?_
    refine sh_dup2 (pc := 78) dX7_turnPlatform_78 ?_
    refine sh_iald (pc := 79) dX7_turnPlatform_79 is_120 (by decide) (by decide) ?_
    refine sh_iconst (pc := 80) (v := 1) dX7_turnPlatform_80 rfl ?_
    refine sh_iadd (pc := 81) dX7_turnPlatform_81 ?_
    refine sh_iast (pc := 82) dX7_turnPlatform_82 is_120 (by decide) (by decide)  ?_
    exact k_vret dX7_turnPlatform_83 rfl h
  · replace h := h.2 q_3
    refine sh_aload_n (pc := 13) dX7_turnPlatform_13 rfl rfl ?_
    refine sh_iload_n (pc := 14) dX7_turnPlatform_14 rfl rfl ?_
    refine sh_iconst (pc := 15) (v := 0) dX7_turnPlatform_15 rfl ?_
    refine k_V2i (pc := 16) is_119 dX7_turnPlatform_16 lk_X7_68 rfl h (fun v6 I4 h => ?_)
    refine k_istore_n (pc := 19) [some (.inr 119), some (.inl y1), some (.inl v6)] dX7_turnPlatform_19 rfl rfl (by decide) ?_
    refine sh_aload_n (pc := 20) dX7_turnPlatform_20 rfl rfl ?_
    refine sh_iload_n (pc := 21) dX7_turnPlatform_21 rfl rfl ?_
    refine sh_iconst (pc := 22) (v := 0) dX7_turnPlatform_22 rfl ?_
    refine sh_iload_n (pc := 23) dX7_turnPlatform_23 rfl rfl ?_
    refine sh_bipush (pc := 24) (v := 10) dX7_turnPlatform_24 (by decide) ?_
    obtain ⟨hn_7, h⟩ := h
    refine sh_irem (pc := 26) dX7_turnPlatform_26 hn_7.1 hn_7.2 (by decide) (by decide) ?_
    refine sh_bipush (pc := 27) (v := 10) dX7_turnPlatform_27 (by decide) ?_
    refine sh_imul (pc := 29) dX7_turnPlatform_29 ?_
    refine sh_bipush (pc := 30) (v := 9) dX7_turnPlatform_30 (by decide) ?_
    refine sh_iadd (pc := 32) dX7_turnPlatform_32 ?_
    refine sh_iload_n (pc := 33) dX7_turnPlatform_33 rfl rfl ?_
    refine sh_bipush (pc := 34) (v := 10) dX7_turnPlatform_34 (by decide) ?_
    refine sh_idiv (pc := 36) dX7_turnPlatform_36 hn_7.1 hn_7.2 (by decide) (by decide) ?_
    refine sh_isub (pc := 37) dX7_turnPlatform_37 ?_
    refine k_V3v (pc := 38) is_119 dX7_turnPlatform_38 lk_X7_95 rfl h (fun I8 h => ?_)
    refine sh_aload_n (pc := 41) dX7_turnPlatform_41 rfl rfl ?_
    refine sh_iload_n (pc := 42) dX7_turnPlatform_42 rfl rfl ?_
    refine sh_iconst (pc := 43) (v := 2) dX7_turnPlatform_43 rfl ?_
    refine k_V2i (pc := 44) is_119 dX7_turnPlatform_44 lk_X7_68 rfl h (fun v12 I10 h => ?_)
    refine sh_iconst (pc := 47) (v := 4) dX7_turnPlatform_47 rfl ?_
    obtain ⟨hb_13, h⟩ := h
    refine sh_icmp_eq (pc := 48) (tgt := 67) dX7_turnPlatform_48 (by decide) hb_13 (bd_lit (by decide)) (fun q_14 => ?_) (fun q_14 => ?_)
    · replace h := h.1 q_14
      refine k_iinc (pc := 67) [some (.inr 119), some (.inl (y1 + 1)), some (.inl v6)] dX7_turnPlatform_67 rfl rfl (by decide) ?_
      refine sh_goto (pc := 70) (tgt := 2) dX7_turnPlatform_70 (by decide) ?_
      exact sh_O.locals h (sub_some (sub_some (sub_none sub_nil)))
    · replace h := h.2 q_14
      refine sh_aload_n (pc := 51) dX7_turnPlatform_51 rfl rfl ?_
      refine sh_iload_n (pc := 52) dX7_turnPlatform_52 rfl rfl ?_
      refine sh_iconst (pc := 53) (v := 2) dX7_turnPlatform_53 rfl ?_
      refine sh_aload_n (pc := 54) dX7_turnPlatform_54 rfl rfl ?_
      refine sh_iload_n (pc := 55) dX7_turnPlatform_55 rfl rfl ?_
      refine sh_iconst (pc := 56) (v := 2) dX7_turnPlatform_56 rfl ?_
      refine k_V2i (pc := 57) is_119 dX7_turnPlatform_57 lk_X7_68 rfl h (fun v17 I15 h => ?_)
      refine sh_iconst (pc := 60) (v := 1) dX7_turnPlatform_60 rfl ?_
      refine sh_iadd (pc := 61) dX7_turnPlatform_61 ?_
      refine sh_iconst (pc := 62) (v := 4) dX7_turnPlatform_62 rfl ?_
      obtain ⟨hn_18, h⟩ := h
      refine sh_irem (pc := 63) dX7_turnPlatform_63 hn_18.1 hn_18.2 (by decide) (by decide) ?_
      refine k_V3v (pc := 64) is_119 dX7_turnPlatform_64 lk_X7_95 rfl h (fun I19 h => ?_)
      refine k_iinc (pc := 67) [some (.inr 119), some (.inl (y1 + 1)), some (.inl v6)] dX7_turnPlatform_67 rfl rfl (by decide) ?_
      refine sh_goto (pc := 70) (tgt := 2) dX7_turnPlatform_70 (by decide) ?_
      exact sh_O.locals h (sub_some (sub_some (sub_none sub_nil)))
set_option maxRecDepth 100000 in
set_option maxHeartbeats 4000000 in
theorem eX7_turn  {I : sh_Mem} {Q : sh_Mem → Prop} (h : kk mX7_turn 2 [some (.inr 119), some (.inl 0), none] [] I (qv Q)) : cc mX7_turn [.inr 119] I (qv Q) := by
  refine sh_call cd_X7_turn.2.2.2 (Nat.le_of_ble_eq_true rfl) ?_
  show kk mX7_turn 0 [some (.inr 119), none, none] [] I (qv Q)
  refine sh_iconst (pc := 0) (v := 0) dX7_turn_0 rfl ?_
  refine k_istore_n (pc := 1) [some (.inr 119), some (.inl 0), none] dX7_turn_1 rfl rfl (by decide) ?_
  exact sh_O.locals h (sub_some (sub_some (sub_none sub_nil)))
set_option maxRecDepth 100000 in
set_option maxHeartbeats 4000000 in
theorem lX7_turn_2 {y1 : Int} {I : sh_Mem} {Q : sh_Mem → Prop} (h : (sh_Bd y1 ∧ (sh_Bd (I 120 20) ∧ (((I 120 20) ≤ y1 → (cc mX7_tagNow [.inr 119] I (qi fun v6 I4 => (sh_Bd v6 ∧ ((v6 = (-5) → kk mX7_turn 42 [some (.inr 119), none, some (.inl 0)] [] I4 (qv Q)) ∧ (¬ v6 = (-5) → (cc mX7_tag [.inr 119, .inl v6] I4 (qv fun I9 => kk mX7_turn 42 [some (.inr 119), none, some (.inl 0)] [] I9 (qv Q))))))))) ∧ (y1 < (I 120 20) → (cc mX7_go [.inr 119, .inl y1] I (qv fun I11 => kk mX7_turn 2 [some (.inr 119), some (.inl (y1 + 1)), none] [] I11 (qv Q)))))))) : kk mX7_turn 2 [some (.inr 119), some (.inl y1), none] [] I (qv Q) := by
  refine sh_iload_n (pc := 2) dX7_turn_2 rfl rfl ?_
  refine sh_aload_n (pc := 3) dX7_turn_3 rfl rfl ?_
  refine sh_getR (pc := 4) dX7_turn_4 fl_X7_7 rfl is_119 pt_119_0 ?_
  refine sh_bipush (pc := 7) (v := 20) dX7_turn_7 (by decide) ?_
  refine sh_iald (pc := 9) dX7_turn_9 is_120 (by decide) (by decide) ?_
  obtain ⟨hb_1, h⟩ := h
  obtain ⟨hb_2, h⟩ := h
  refine sh_icmp_ge (pc := 10) (tgt := 24) dX7_turn_10 (by decide) hb_1 hb_2 (fun q_3 => ?_) (fun q_3 => ?_)
  · replace h := h.1 q_3
    refine sh_aload_n (pc := 24) dX7_turn_24 rfl rfl ?_
    refine k_V0i (pc := 25) is_119 dX7_turn_25 lk_X7_106 rfl h (fun v6 I4 h => ?_)
    refine k_istore_n (pc := 28) [some (.inr 119), some (.inl v6), none] dX7_turn_28 rfl rfl (by decide) ?_
    refine sh_iload_n (pc := 29) dX7_turn_29 rfl rfl ?_
    refine sh_bipush (pc := 30) (v := (-5)) dX7_turn_30 (by decide) ?_
    obtain ⟨hb_7, h⟩ := h
    refine sh_icmp_eq (pc := 32) (tgt := 40) dX7_turn_32 (by decide) hb_7 (bd_lit (by decide)) (fun q_8 => ?_) (fun q_8 => ?_)
    · replace h := h.1 q_8
      refine sh_iconst (pc := 40) (v := 0) dX7_turn_40 rfl ?_
      refine k_istore_n (pc := 41) [some (.inr 119), some (.inl v6), some (.inl 0)] dX7_turn_41 rfl rfl (by decide) ?_
      exact sh_O.locals h (sub_some (sub_none (sub_some sub_nil)))
    · replace h := h.2 q_8
      refine sh_aload_n (pc := 35) dX7_turn_35 rfl rfl ?_
      refine sh_iload_n (pc := 36) dX7_turn_36 rfl rfl ?_
      refine k_V1v (pc := 37) is_119 dX7_turn_37 lk_X7_110 rfl h (fun I9 h => ?_)
      refine sh_iconst (pc := 40) (v := 0) dX7_turn_40 rfl ?_
      refine k_istore_n (pc := 41) [some (.inr 119), some (.inl v6), some (.inl 0)] dX7_turn_41 rfl rfl (by decide) ?_
      exact sh_O.locals h (sub_some (sub_none (sub_some sub_nil)))
  · replace h := h.2 q_3
    refine sh_aload_n (pc := 13) dX7_turn_13 rfl rfl ?_
    refine sh_iload_n (pc := 14) dX7_turn_14 rfl rfl ?_
    refine k_V1v (pc := 15) is_119 dX7_turn_15 lk_X7_102 rfl h (fun I11 h => ?_)
    refine k_iinc (pc := 18) [some (.inr 119), some (.inl (y1 + 1)), none] dX7_turn_18 rfl rfl (by decide) ?_
    refine sh_goto (pc := 21) (tgt := 2) dX7_turn_21 (by decide) ?_
    exact sh_O.locals h (sub_some (sub_some (sub_none sub_nil)))
set_option maxRecDepth 100000 in
set_option maxHeartbeats 4000000 in
theorem lX7_turn_42 {y2 : Int} {I : sh_Mem} {Q : sh_Mem → Prop} (h : (sh_Bd y2 ∧ (sh_Bd (I 120 20) ∧ (((I 120 20) ≤ y2 → kk mX7_turn 128 [some (.inr 119), none, some (.inl 0)] [] (sh_u I 120 0 ((I 120 0) + 1)) (qv Q)) ∧ (y2 < (I 120 20) → (cc mX7_of [.inr 119, .inl y2, .inl 3] I (qi fun v6 I4 => (sh_Bd v6 ∧ ((v6 ≤ 0 → (cc mX7_put [.inr 119, .inl y2, .inl 3, .inl 0] I4 (qv fun I9 => (cc mX7_of [.inr 119, .inl y2, .inl 6] I9 (qi fun v13 I11 => (sh_Bd (I11 120 1) ∧ ((¬ y2 = (I11 120 1) → (cc mX7_put [.inr 119, .inl y2, .inl 6, .inl (v13 + 1)] I11 (qv fun I16 => kk mX7_turn 42 [some (.inr 119), none, some (.inl (y2 + 1))] [] I16 (qv Q)))) ∧ (y2 = (I11 120 1) → (cc mX7_put [.inr 119, .inl y2, .inl 6, .inl (v13 + 0)] I11 (qv fun I18 => kk mX7_turn 42 [some (.inr 119), none, some (.inl (y2 + 1))] [] I18 (qv Q))))))))))) ∧ (0 < v6 → (cc mX7_of [.inr 119, .inl y2, .inl 3] I4 (qi fun v22 I20 => (cc mX7_put [.inr 119, .inl y2, .inl 3, .inl (v22 - 1)] I20 (qv fun I23 => (cc mX7_of [.inr 119, .inl y2, .inl 6] I23 (qi fun v27 I25 => (sh_Bd (I25 120 1) ∧ ((¬ y2 = (I25 120 1) → (cc mX7_put [.inr 119, .inl y2, .inl 6, .inl (v27 + 1)] I25 (qv fun I30 => kk mX7_turn 42 [some (.inr 119), none, some (.inl (y2 + 1))] [] I30 (qv Q)))) ∧ (y2 = (I25 120 1) → (cc mX7_put [.inr 119, .inl y2, .inl 6, .inl (v27 + 0)] I25 (qv fun I32 => kk mX7_turn 42 [some (.inr 119), none, some (.inl (y2 + 1))] [] I32 (qv Q)))))))))))))))))))))) : kk mX7_turn 42 [some (.inr 119), none, some (.inl y2)] [] I (qv Q) := by
  refine sh_iload_n (pc := 42) dX7_turn_42 rfl rfl ?_
  refine sh_aload_n (pc := 43) dX7_turn_43 rfl rfl ?_
  refine sh_getR (pc := 44) dX7_turn_44 fl_X7_7 rfl is_119 pt_119_0 ?_
  refine sh_bipush (pc := 47) (v := 20) dX7_turn_47 (by decide) ?_
  refine sh_iald (pc := 49) dX7_turn_49 is_120 (by decide) (by decide) ?_
  obtain ⟨hb_1, h⟩ := h
  obtain ⟨hb_2, h⟩ := h
  refine sh_icmp_ge (pc := 50) (tgt := 116) dX7_turn_50 (by decide) hb_1 hb_2 (fun q_3 => ?_) (fun q_3 => ?_)
  · replace h := h.1 q_3
    refine sh_aload_n (pc := 116) dX7_turn_116 rfl rfl ?_
    refine sh_getR (pc := 117) dX7_turn_117 fl_X7_7 rfl is_119 pt_119_0 ?_
    refine sh_iconst (pc := 120) (v := 0) dX7_turn_120 rfl ?_
    refine sh_dup2 (pc := 121) dX7_turn_121 ?_
    refine sh_iald (pc := 122) dX7_turn_122 is_120 (by decide) (by decide) ?_
    refine sh_iconst (pc := 123) (v := 1) dX7_turn_123 rfl ?_
    refine sh_iadd (pc := 124) dX7_turn_124 ?_
    refine sh_iast (pc := 125) dX7_turn_125 is_120 (by decide) (by decide)  ?_
    refine sh_iconst (pc := 126) (v := 0) dX7_turn_126 rfl ?_
    refine k_istore_n (pc := 127) [some (.inr 119), none, some (.inl 0)] dX7_turn_127 rfl rfl (by decide) ?_
    exact sh_O.locals h (sub_some (sub_none (sub_some sub_nil)))
  · replace h := h.2 q_3
    refine sh_aload_n (pc := 53) dX7_turn_53 rfl rfl ?_
    refine sh_iload_n (pc := 54) dX7_turn_54 rfl rfl ?_
    refine sh_iconst (pc := 55) (v := 3) dX7_turn_55 rfl ?_
    refine sh_aload_n (pc := 56) dX7_turn_56 rfl rfl ?_
    refine sh_iload_n (pc := 57) dX7_turn_57 rfl rfl ?_
    refine sh_iconst (pc := 58) (v := 3) dX7_turn_58 rfl ?_
    refine k_V2i (pc := 59) is_119 dX7_turn_59 lk_X7_68 rfl h (fun v6 I4 h => ?_)
    obtain ⟨hb_7, h⟩ := h
    refine sh_if_le (pc := 62) (tgt := 76) dX7_turn_62 (by decide) hb_7  (fun q_8 => ?_) (fun q_8 => ?_)
    · replace h := h.1 q_8
      refine sh_iconst (pc := 76) (v := 0) dX7_turn_76 rfl ?_
      refine k_V3v (pc := 77) is_119 dX7_turn_77 lk_X7_95 rfl h (fun I9 h => ?_)
      refine sh_aload_n (pc := 80) dX7_turn_80 rfl rfl ?_
      refine sh_iload_n (pc := 81) dX7_turn_81 rfl rfl ?_
      refine sh_bipush (pc := 82) (v := 6) dX7_turn_82 (by decide) ?_
      refine sh_aload_n (pc := 84) dX7_turn_84 rfl rfl ?_
      refine sh_iload_n (pc := 85) dX7_turn_85 rfl rfl ?_
      refine sh_bipush (pc := 86) (v := 6) dX7_turn_86 (by decide) ?_
      refine k_V2i (pc := 88) is_119 dX7_turn_88 lk_X7_68 rfl h (fun v13 I11 h => ?_)
      refine sh_iload_n (pc := 91) dX7_turn_91 rfl rfl ?_
      refine sh_aload_n (pc := 92) dX7_turn_92 rfl rfl ?_
      refine sh_getR (pc := 93) dX7_turn_93 fl_X7_7 rfl is_119 pt_119_0 ?_
      refine sh_iconst (pc := 96) (v := 1) dX7_turn_96 rfl ?_
      refine sh_iald (pc := 97) dX7_turn_97 is_120 (by decide) (by decide) ?_
      obtain ⟨hb_14, h⟩ := h
      refine sh_icmp_ne (pc := 98) (tgt := 105) dX7_turn_98 (by decide) hb_1 hb_14 (fun q_15 => ?_) (fun q_15 => ?_)
      · replace h := h.1 q_15
        refine sh_iconst (pc := 105) (v := 1) dX7_turn_105 rfl ?_
        refine sh_iadd (pc := 106) dX7_turn_106 ?_
        refine k_V3v (pc := 107) is_119 dX7_turn_107 lk_X7_95 rfl h (fun I16 h => ?_)
        refine k_iinc (pc := 110) [some (.inr 119), none, some (.inl (y2 + 1))] dX7_turn_110 rfl rfl (by decide) ?_
        refine sh_goto (pc := 113) (tgt := 42) dX7_turn_113 (by decide) ?_
        exact sh_O.locals h (sub_some (sub_none (sub_some sub_nil)))
      · replace h := h.2 q_15
        refine sh_iconst (pc := 101) (v := 0) dX7_turn_101 rfl ?_
        refine sh_goto (pc := 102) (tgt := 106) dX7_turn_102 (by decide) ?_
        refine sh_iadd (pc := 106) dX7_turn_106 ?_
        refine k_V3v (pc := 107) is_119 dX7_turn_107 lk_X7_95 rfl h (fun I18 h => ?_)
        refine k_iinc (pc := 110) [some (.inr 119), none, some (.inl (y2 + 1))] dX7_turn_110 rfl rfl (by decide) ?_
        refine sh_goto (pc := 113) (tgt := 42) dX7_turn_113 (by decide) ?_
        exact sh_O.locals h (sub_some (sub_none (sub_some sub_nil)))
    · replace h := h.2 q_8
      refine sh_aload_n (pc := 65) dX7_turn_65 rfl rfl ?_
      refine sh_iload_n (pc := 66) dX7_turn_66 rfl rfl ?_
      refine sh_iconst (pc := 67) (v := 3) dX7_turn_67 rfl ?_
      refine k_V2i (pc := 68) is_119 dX7_turn_68 lk_X7_68 rfl h (fun v22 I20 h => ?_)
      refine sh_iconst (pc := 71) (v := 1) dX7_turn_71 rfl ?_
      refine sh_isub (pc := 72) dX7_turn_72 ?_
      refine sh_goto (pc := 73) (tgt := 77) dX7_turn_73 (by decide) ?_
      refine k_V3v (pc := 77) is_119 dX7_turn_77 lk_X7_95 rfl h (fun I23 h => ?_)
      refine sh_aload_n (pc := 80) dX7_turn_80 rfl rfl ?_
      refine sh_iload_n (pc := 81) dX7_turn_81 rfl rfl ?_
      refine sh_bipush (pc := 82) (v := 6) dX7_turn_82 (by decide) ?_
      refine sh_aload_n (pc := 84) dX7_turn_84 rfl rfl ?_
      refine sh_iload_n (pc := 85) dX7_turn_85 rfl rfl ?_
      refine sh_bipush (pc := 86) (v := 6) dX7_turn_86 (by decide) ?_
      refine k_V2i (pc := 88) is_119 dX7_turn_88 lk_X7_68 rfl h (fun v27 I25 h => ?_)
      refine sh_iload_n (pc := 91) dX7_turn_91 rfl rfl ?_
      refine sh_aload_n (pc := 92) dX7_turn_92 rfl rfl ?_
      refine sh_getR (pc := 93) dX7_turn_93 fl_X7_7 rfl is_119 pt_119_0 ?_
      refine sh_iconst (pc := 96) (v := 1) dX7_turn_96 rfl ?_
      refine sh_iald (pc := 97) dX7_turn_97 is_120 (by decide) (by decide) ?_
      obtain ⟨hb_28, h⟩ := h
      refine sh_icmp_ne (pc := 98) (tgt := 105) dX7_turn_98 (by decide) hb_1 hb_28 (fun q_29 => ?_) (fun q_29 => ?_)
      · replace h := h.1 q_29
        refine sh_iconst (pc := 105) (v := 1) dX7_turn_105 rfl ?_
        refine sh_iadd (pc := 106) dX7_turn_106 ?_
        refine k_V3v (pc := 107) is_119 dX7_turn_107 lk_X7_95 rfl h (fun I30 h => ?_)
        refine k_iinc (pc := 110) [some (.inr 119), none, some (.inl (y2 + 1))] dX7_turn_110 rfl rfl (by decide) ?_
        refine sh_goto (pc := 113) (tgt := 42) dX7_turn_113 (by decide) ?_
        exact sh_O.locals h (sub_some (sub_none (sub_some sub_nil)))
      · replace h := h.2 q_29
        refine sh_iconst (pc := 101) (v := 0) dX7_turn_101 rfl ?_
        refine sh_goto (pc := 102) (tgt := 106) dX7_turn_102 (by decide) ?_
        refine sh_iadd (pc := 106) dX7_turn_106 ?_
        refine k_V3v (pc := 107) is_119 dX7_turn_107 lk_X7_95 rfl h (fun I32 h => ?_)
        refine k_iinc (pc := 110) [some (.inr 119), none, some (.inl (y2 + 1))] dX7_turn_110 rfl rfl (by decide) ?_
        refine sh_goto (pc := 113) (tgt := 42) dX7_turn_113 (by decide) ?_
        exact sh_O.locals h (sub_some (sub_none (sub_some sub_nil)))
set_option maxRecDepth 100000 in
set_option maxHeartbeats 4000000 in
theorem lX7_turn_128 {y2 : Int} {I : sh_Mem} {Q : sh_Mem → Prop} (h : (sh_Bd y2 ∧ ((3 ≤ y2 → (sh_Bd (I 120 7) ∧ (((I 120 7) ≤ 0 → Q I) ∧ (0 < (I 120 7) → ((0 ≤ (I 120 0) ∧ (I 120 0) < 2147483648) ∧ ((0 < (I 120 7) ∧ (I 120 7) < 2147483648) ∧ (sh_Bd ((I 120 0) % (I 120 7)) ∧ ((¬ ((I 120 0) % (I 120 7)) = 0 → Q I) ∧ (((I 120 0) % (I 120 7)) = 0 → (cc mX7_turnPlatform [.inr 119] I (qv fun I9 => Q I9))))))))))) ∧ (y2 < 3 → (cc mX7_ofLamp [.inr 119, .inl y2, .inl 2] I (qi fun v13 I11 => (sh_Bd v13 ∧ ((v13 ≤ 0 → kk mX7_turn 128 [some (.inr 119), none, some (.inl (y2 + 1))] [] I11 (qv Q)) ∧ (0 < v13 → (cc mX7_ofLamp [.inr 119, .inl y2, .inl 2] I11 (qi fun v18 I16 => ((0 ≤ (I11 120 0) ∧ (I11 120 0) < 2147483648) ∧ ((0 < v18 ∧ v18 < 2147483648) ∧ (sh_Bd ((I11 120 0) % v18) ∧ ((¬ ((I11 120 0) % v18) = 0 → kk mX7_turn 128 [some (.inr 119), none, some (.inl (y2 + 1))] [] I16 (qv Q)) ∧ (((I11 120 0) % v18) = 0 → (cc mX7_ofLamp [.inr 119, .inl y2, .inl 0] I16 (qi fun v25 I23 => ((0 ≤ (v25 + 1) ∧ (v25 + 1) < 2147483648) ∧ (cc mX7_putLamp [.inr 119, .inl y2, .inl 0, .inl ((v25 + 1) % 4)] I23 (qv fun I27 => kk mX7_turn 128 [some (.inr 119), none, some (.inl (y2 + 1))] [] I27 (qv Q)))))))))))))))))))))) : kk mX7_turn 128 [some (.inr 119), none, some (.inl y2)] [] I (qv Q) := by
  refine sh_iload_n (pc := 128) dX7_turn_128 rfl rfl ?_
  refine sh_iconst (pc := 129) (v := 3) dX7_turn_129 rfl ?_
  obtain ⟨hb_1, h⟩ := h
  refine sh_icmp_ge (pc := 130) (tgt := 180) dX7_turn_130 (by decide) hb_1 (bd_lit (by decide)) (fun q_2 => ?_) (fun q_2 => ?_)
  · replace h := h.1 q_2
    refine sh_aload_n (pc := 180) dX7_turn_180 rfl rfl ?_
    refine sh_getR (pc := 181) dX7_turn_181 fl_X7_7 rfl is_119 pt_119_0 ?_
    refine sh_bipush (pc := 184) (v := 7) dX7_turn_184 (by decide) ?_
    refine sh_iald (pc := 186) dX7_turn_186 is_120 (by decide) (by decide) ?_
    obtain ⟨hb_3, h⟩ := h
    refine sh_if_le (pc := 187) (tgt := 211) dX7_turn_187 (by decide) hb_3  (fun q_4 => ?_) (fun q_4 => ?_)
    · replace h := h.1 q_4
      exact k_vret dX7_turn_211 rfl h
    · replace h := h.2 q_4
      refine sh_aload_n (pc := 190) dX7_turn_190 rfl rfl ?_
      refine sh_getR (pc := 191) dX7_turn_191 fl_X7_7 rfl is_119 pt_119_0 ?_
      refine sh_iconst (pc := 194) (v := 0) dX7_turn_194 rfl ?_
      refine sh_iald (pc := 195) dX7_turn_195 is_120 (by decide) (by decide) ?_
      refine sh_aload_n (pc := 196) dX7_turn_196 rfl rfl ?_
      refine sh_getR (pc := 197) dX7_turn_197 fl_X7_7 rfl is_119 pt_119_0 ?_
      refine sh_bipush (pc := 200) (v := 7) dX7_turn_200 (by decide) ?_
      refine sh_iald (pc := 202) dX7_turn_202 is_120 (by decide) (by decide) ?_
      obtain ⟨hn_5, h⟩ := h
      obtain ⟨hp_6, h⟩ := h
      refine sh_irem (pc := 203) dX7_turn_203 hn_5.1 hn_5.2 hp_6.1 hp_6.2 ?_
      obtain ⟨hb_7, h⟩ := h
      refine sh_if_ne (pc := 204) (tgt := 211) dX7_turn_204 (by decide) hb_7  (fun q_8 => ?_) (fun q_8 => ?_)
      · replace h := h.1 q_8
        exact k_vret dX7_turn_211 rfl h
      · replace h := h.2 q_8
        refine sh_aload_n (pc := 207) dX7_turn_207 rfl rfl ?_
        refine k_V0v (pc := 208) is_119 dX7_turn_208 lk_X7_113 rfl h (fun I9 h => ?_)
        exact k_vret dX7_turn_211 rfl h
  · replace h := h.2 q_2
    refine sh_aload_n (pc := 133) dX7_turn_133 rfl rfl ?_
    refine sh_iload_n (pc := 134) dX7_turn_134 rfl rfl ?_
    refine sh_iconst (pc := 135) (v := 2) dX7_turn_135 rfl ?_
    refine k_V2i (pc := 136) is_119 dX7_turn_136 lk_X7_78 rfl h (fun v13 I11 h => ?_)
    obtain ⟨hb_14, h⟩ := h
    refine sh_if_le (pc := 139) (tgt := 174) dX7_turn_139 (by decide) hb_14  (fun q_15 => ?_) (fun q_15 => ?_)
    · replace h := h.1 q_15
      refine k_iinc (pc := 174) [some (.inr 119), none, some (.inl (y2 + 1))] dX7_turn_174 rfl rfl (by decide) ?_
      refine sh_goto (pc := 177) (tgt := 128) dX7_turn_177 (by decide) ?_
      exact sh_O.locals h (sub_some (sub_none (sub_some sub_nil)))
    · replace h := h.2 q_15
      refine sh_aload_n (pc := 142) dX7_turn_142 rfl rfl ?_
      refine sh_getR (pc := 143) dX7_turn_143 fl_X7_7 rfl is_119 pt_119_0 ?_
      refine sh_iconst (pc := 146) (v := 0) dX7_turn_146 rfl ?_
      refine sh_iald (pc := 147) dX7_turn_147 is_120 (by decide) (by decide) ?_
      refine sh_aload_n (pc := 148) dX7_turn_148 rfl rfl ?_
      refine sh_iload_n (pc := 149) dX7_turn_149 rfl rfl ?_
      refine sh_iconst (pc := 150) (v := 2) dX7_turn_150 rfl ?_
      refine k_V2i (pc := 151) is_119 dX7_turn_151 lk_X7_78 rfl h (fun v18 I16 h => ?_)
      obtain ⟨hn_19, h⟩ := h
      obtain ⟨hp_20, h⟩ := h
      refine sh_irem (pc := 154) dX7_turn_154 hn_19.1 hn_19.2 hp_20.1 hp_20.2 ?_
      obtain ⟨hb_21, h⟩ := h
      refine sh_if_ne (pc := 155) (tgt := 174) dX7_turn_155 (by decide) hb_21  (fun q_22 => ?_) (fun q_22 => ?_)
      · replace h := h.1 q_22
        refine k_iinc (pc := 174) [some (.inr 119), none, some (.inl (y2 + 1))] dX7_turn_174 rfl rfl (by decide) ?_
        refine sh_goto (pc := 177) (tgt := 128) dX7_turn_177 (by decide) ?_
        exact sh_O.locals h (sub_some (sub_none (sub_some sub_nil)))
      · replace h := h.2 q_22
        refine sh_aload_n (pc := 158) dX7_turn_158 rfl rfl ?_
        refine sh_iload_n (pc := 159) dX7_turn_159 rfl rfl ?_
        refine sh_iconst (pc := 160) (v := 0) dX7_turn_160 rfl ?_
        refine sh_aload_n (pc := 161) dX7_turn_161 rfl rfl ?_
        refine sh_iload_n (pc := 162) dX7_turn_162 rfl rfl ?_
        refine sh_iconst (pc := 163) (v := 0) dX7_turn_163 rfl ?_
        refine k_V2i (pc := 164) is_119 dX7_turn_164 lk_X7_78 rfl h (fun v25 I23 h => ?_)
        refine sh_iconst (pc := 167) (v := 1) dX7_turn_167 rfl ?_
        refine sh_iadd (pc := 168) dX7_turn_168 ?_
        refine sh_iconst (pc := 169) (v := 4) dX7_turn_169 rfl ?_
        obtain ⟨hn_26, h⟩ := h
        refine sh_irem (pc := 170) dX7_turn_170 hn_26.1 hn_26.2 (by decide) (by decide) ?_
        refine k_V3v (pc := 171) is_119 dX7_turn_171 lk_X7_47 rfl h (fun I27 h => ?_)
        refine k_iinc (pc := 174) [some (.inr 119), none, some (.inl (y2 + 1))] dX7_turn_174 rfl rfl (by decide) ?_
        refine sh_goto (pc := 177) (tgt := 128) dX7_turn_177 (by decide) ?_
        exact sh_O.locals h (sub_some (sub_none (sub_some sub_nil)))
set_option maxRecDepth 100000 in
set_option maxHeartbeats 4000000 in
theorem eX7_comeNow {x1 : Int} {x2 : Int} {I : sh_Mem} {Q : Int → sh_Mem → Prop} (h : (cc mX7_isCell [.inl x1] I (qi fun v3 I1 => ((v3 = 1 ∧ (cc mX7_in [.inl x2, .inl 1, .inl 5] I1 (qi fun v6 I4 => ((v6 = 1 ∧ (cc mX7_runnerAt [.inr 119, .inl x1] I4 (qi fun v9 I7 => (sh_Bd v9 ∧ ((v9 = (-5) → (sh_Bd (I7 120 20) ∧ ((¬ (I7 120 20) = 6 → kk mX7_comeNow 60 [some (.inr 119), some (.inl x1), some (.inl x2), some (.inl (I7 120 20)), some (.inl 0)] [] I7 (qi Q)) ∧ ((I7 120 20) = 6 → Q (-3) I7)))) ∧ (¬ v9 = (-5) → Q (-4) I7)))))) ∨ (v6 = 0 ∧ Q (-2) I4))))) ∨ (v3 = 0 ∧ Q (-1) I1))))) : cc mX7_comeNow [.inr 119, .inl x1, .inl x2] I (qi Q) := by
  refine sh_call cd_X7_comeNow.2.2.2 (Nat.le_of_ble_eq_true rfl) ?_
  show kk mX7_comeNow 0 [some (.inr 119), some (.inl x1), some (.inl x2), none, none] [] I (qi Q)
  refine sh_iload_n (pc := 0) dX7_comeNow_0 rfl rfl ?_
  refine k_S1i (pc := 1) dX7_comeNow_1 lk_X7_116 rfl h (fun v3 I1 h => ?_)
  rcases h with ⟨rfl, h⟩ | ⟨rfl, h⟩
  · skip
    refine sh_if_ne (pc := 4) (tgt := 9) dX7_comeNow_4 (by decide) (bd_lit (by decide)) (fun qz => ?_) (fun qz => ?_)
    · skip
      refine sh_iload_n (pc := 9) dX7_comeNow_9 rfl rfl ?_
      refine sh_iconst (pc := 10) (v := 1) dX7_comeNow_10 rfl ?_
      refine sh_iconst (pc := 11) (v := 5) dX7_comeNow_11 rfl ?_
      refine k_S3i (pc := 12) dX7_comeNow_12 lk_X7_51 rfl h (fun v6 I4 h => ?_)
      rcases h with ⟨rfl, h⟩ | ⟨rfl, h⟩
      · skip
        refine sh_if_ne (pc := 15) (tgt := 21) dX7_comeNow_15 (by decide) (bd_lit (by decide)) (fun qz => ?_) (fun qz => ?_)
        · skip
          refine sh_aload_n (pc := 21) dX7_comeNow_21 rfl rfl ?_
          refine sh_iload_n (pc := 22) dX7_comeNow_22 rfl rfl ?_
          refine k_V1i (pc := 23) is_119 dX7_comeNow_23 lk_X7_84 rfl h (fun v9 I7 h => ?_)
          refine sh_bipush (pc := 26) (v := (-5)) dX7_comeNow_26 (by decide) ?_
          obtain ⟨hb_10, h⟩ := h
          refine sh_icmp_eq (pc := 28) (tgt := 34) dX7_comeNow_28 (by decide) hb_10 (bd_lit (by decide)) (fun q_11 => ?_) (fun q_11 => ?_)
          · replace h := h.1 q_11
            refine sh_aload_n (pc := 34) dX7_comeNow_34 rfl rfl ?_
            refine sh_getR (pc := 35) dX7_comeNow_35 fl_X7_7 rfl is_119 pt_119_0 ?_
            refine sh_bipush (pc := 38) (v := 20) dX7_comeNow_38 (by decide) ?_
            refine sh_iald (pc := 40) dX7_comeNow_40 is_120 (by decide) (by decide) ?_
            refine sh_bipush (pc := 41) (v := 6) dX7_comeNow_41 (by decide) ?_
            obtain ⟨hb_12, h⟩ := h
            refine sh_icmp_ne (pc := 43) (tgt := 49) dX7_comeNow_43 (by decide) hb_12 (bd_lit (by decide)) (fun q_13 => ?_) (fun q_13 => ?_)
            · replace h := h.1 q_13
              refine sh_aload_n (pc := 49) dX7_comeNow_49 rfl rfl ?_
              refine sh_getR (pc := 50) dX7_comeNow_50 fl_X7_7 rfl is_119 pt_119_0 ?_
              refine sh_bipush (pc := 53) (v := 20) dX7_comeNow_53 (by decide) ?_
              refine sh_iald (pc := 55) dX7_comeNow_55 is_120 (by decide) (by decide) ?_
              refine k_istore_n (pc := 56) [some (.inr 119), some (.inl x1), some (.inl x2), some (.inl (I7 120 20)), none] dX7_comeNow_56 rfl rfl (by decide) ?_
              refine sh_iconst (pc := 57) (v := 0) dX7_comeNow_57 rfl ?_
              refine k_istore (pc := 58) [some (.inr 119), some (.inl x1), some (.inl x2), some (.inl (I7 120 20)), some (.inl 0)] dX7_comeNow_58 rfl (by decide) ?_
              exact sh_O.locals h (sub_some (sub_some (sub_some (sub_some (sub_some sub_nil)))))
            · replace h := h.2 q_13
              refine sh_bipush (pc := 46) (v := (-3)) dX7_comeNow_46 (by decide) ?_
              exact k_iret dX7_comeNow_48 rfl h
          · replace h := h.2 q_11
            refine sh_bipush (pc := 31) (v := (-4)) dX7_comeNow_31 (by decide) ?_
            exact k_iret dX7_comeNow_33 rfl h
        · exact absurd qz (by decide)
      · skip
        refine sh_if_ne (pc := 15) (tgt := 21) dX7_comeNow_15 (by decide) (bd_lit (by decide)) (fun qz => ?_) (fun qz => ?_)
        · exact absurd qz (by decide)
        · skip
          refine sh_bipush (pc := 18) (v := (-2)) dX7_comeNow_18 (by decide) ?_
          exact k_iret dX7_comeNow_20 rfl h
    · exact absurd qz (by decide)
  · skip
    refine sh_if_ne (pc := 4) (tgt := 9) dX7_comeNow_4 (by decide) (bd_lit (by decide)) (fun qz => ?_) (fun qz => ?_)
    · exact absurd qz (by decide)
    · skip
      refine sh_iconst (pc := 7) (v := (-1)) dX7_comeNow_7 rfl ?_
      exact k_iret dX7_comeNow_8 rfl h
set_option maxRecDepth 100000 in
set_option maxHeartbeats 4000000 in
theorem lX7_comeNow_60 {y1 : Int} {y2 : Int} {y3 : Int} {y4 : Int} {I : sh_Mem} {Q : Int → sh_Mem → Prop} (h : (sh_Bd y4 ∧ ((7 ≤ y4 → (cc mX7_put [.inr 119, .inl y3, .inl 0, .inl y1] I (qv fun I3 => (cc mX7_put [.inr 119, .inl y3, .inl 1, .inl y2] I3 (qv fun I5 => (cc mX7_put [.inr 119, .inl y3, .inl 2, .inl 4] I5 (qv fun I7 => (sh_Bd y3 ∧ ((¬ y3 = 0 → Q y3 (sh_u (sh_u I7 120 20 ((I7 120 20) + 1)) 120 1 (I7 120 1))) ∧ (y3 = 0 → Q y3 (sh_u (sh_u I7 120 20 ((I7 120 20) + 1)) 120 1 0))))))))))) ∧ (y4 < 7 → (cc mX7_put [.inr 119, .inl y3, .inl y4, .inl 0] I (qv fun I11 => kk mX7_comeNow 60 [some (.inr 119), some (.inl y1), some (.inl y2), some (.inl y3), some (.inl (y4 + 1))] [] I11 (qi Q))))))) : kk mX7_comeNow 60 [some (.inr 119), some (.inl y1), some (.inl y2), some (.inl y3), some (.inl y4)] [] I (qi Q) := by
  refine sh_iload (pc := 60) dX7_comeNow_60 rfl ?_
  refine sh_bipush (pc := 62) (v := 7) dX7_comeNow_62 (by decide) ?_
  obtain ⟨hb_1, h⟩ := h
  refine sh_icmp_ge (pc := 64) (tgt := 81) dX7_comeNow_64 (by decide) hb_1 (bd_lit (by decide)) (fun q_2 => ?_) (fun q_2 => ?_)
  · replace h := h.1 q_2
    refine sh_aload_n (pc := 81) dX7_comeNow_81 rfl rfl ?_
    refine sh_iload_n (pc := 82) dX7_comeNow_82 rfl rfl ?_
    refine sh_iconst (pc := 83) (v := 0) dX7_comeNow_83 rfl ?_
    refine sh_iload_n (pc := 84) dX7_comeNow_84 rfl rfl ?_
    refine k_V3v (pc := 85) is_119 dX7_comeNow_85 lk_X7_95 rfl h (fun I3 h => ?_)
    refine sh_aload_n (pc := 88) dX7_comeNow_88 rfl rfl ?_
    refine sh_iload_n (pc := 89) dX7_comeNow_89 rfl rfl ?_
    refine sh_iconst (pc := 90) (v := 1) dX7_comeNow_90 rfl ?_
    refine sh_iload_n (pc := 91) dX7_comeNow_91 rfl rfl ?_
    refine k_V3v (pc := 92) is_119 dX7_comeNow_92 lk_X7_95 rfl h (fun I5 h => ?_)
    refine sh_aload_n (pc := 95) dX7_comeNow_95 rfl rfl ?_
    refine sh_iload_n (pc := 96) dX7_comeNow_96 rfl rfl ?_
    refine sh_iconst (pc := 97) (v := 2) dX7_comeNow_97 rfl ?_
    refine sh_iconst (pc := 98) (v := 4) dX7_comeNow_98 rfl ?_
    refine k_V3v (pc := 99) is_119 dX7_comeNow_99 lk_X7_95 rfl h (fun I7 h => ?_)
    refine sh_aload_n (pc := 102) dX7_comeNow_102 rfl rfl ?_
    refine sh_getR (pc := 103) dX7_comeNow_103 fl_X7_7 rfl is_119 pt_119_0 ?_
    refine sh_bipush (pc := 106) (v := 20) dX7_comeNow_106 (by decide) ?_
    refine sh_dup2 (pc := 108) dX7_comeNow_108 ?_
    refine sh_iald (pc := 109) dX7_comeNow_109 is_120 (by decide) (by decide) ?_
    refine sh_iconst (pc := 110) (v := 1) dX7_comeNow_110 rfl ?_
    refine sh_iadd (pc := 111) dX7_comeNow_111 ?_
    refine sh_iast (pc := 112) dX7_comeNow_112 is_120 (by decide) (by decide)  ?_
    refine sh_aload_n (pc := 113) dX7_comeNow_113 rfl rfl ?_
    refine sh_getR (pc := 114) dX7_comeNow_114 fl_X7_7 rfl is_119 pt_119_0 ?_
    refine sh_iconst (pc := 117) (v := 1) dX7_comeNow_117 rfl ?_
    refine sh_iload_n (pc := 118) dX7_comeNow_118 rfl rfl ?_
    obtain ⟨hb_9, h⟩ := h
    refine sh_if_ne (pc := 119) (tgt := 126) dX7_comeNow_119 (by decide) hb_9  (fun q_10 => ?_) (fun q_10 => ?_)
    · replace h := h.1 q_10
      refine sh_aload_n (pc := 126) dX7_comeNow_126 rfl rfl ?_
      refine sh_getR (pc := 127) dX7_comeNow_127 fl_X7_7 rfl is_119 pt_119_0 ?_
      refine sh_iconst (pc := 130) (v := 1) dX7_comeNow_130 rfl ?_
      refine k_iald (pc := 131) (I7 120 1) dX7_comeNow_131 is_120 (by decide) (by decide) (by simp [sh_u]) ?_
      refine sh_iast (pc := 132) dX7_comeNow_132 is_120 (by decide) (by decide)  ?_
      refine sh_iload_n (pc := 133) dX7_comeNow_133 rfl rfl ?_
      exact k_iret dX7_comeNow_134 rfl h
    · replace h := h.2 q_10
      refine sh_iconst (pc := 122) (v := 0) dX7_comeNow_122 rfl ?_
      refine sh_goto (pc := 123) (tgt := 132) dX7_comeNow_123 (by decide) ?_
      refine sh_iast (pc := 132) dX7_comeNow_132 is_120 (by decide) (by decide)  ?_
      refine sh_iload_n (pc := 133) dX7_comeNow_133 rfl rfl ?_
      exact k_iret dX7_comeNow_134 rfl h
  · replace h := h.2 q_2
    refine sh_aload_n (pc := 67) dX7_comeNow_67 rfl rfl ?_
    refine sh_iload_n (pc := 68) dX7_comeNow_68 rfl rfl ?_
    refine sh_iload (pc := 69) dX7_comeNow_69 rfl ?_
    refine sh_iconst (pc := 71) (v := 0) dX7_comeNow_71 rfl ?_
    refine k_V3v (pc := 72) is_119 dX7_comeNow_72 lk_X7_95 rfl h (fun I11 h => ?_)
    refine k_iinc (pc := 75) [some (.inr 119), some (.inl y1), some (.inl y2), some (.inl y3), some (.inl (y4 + 1))] dX7_comeNow_75 rfl rfl (by decide) ?_
    refine sh_goto (pc := 78) (tgt := 60) dX7_comeNow_78 (by decide) ?_
    exact sh_O.locals h (sub_some (sub_some (sub_some (sub_some (sub_some sub_nil)))))
set_option maxRecDepth 100000 in
set_option maxHeartbeats 4000000 in
theorem eX7_headNow {x1 : Int} {x2 : Int} {I : sh_Mem} {Q : Int → sh_Mem → Prop} (h : (cc mX7_isRunner [.inr 119, .inl x1] I (qi fun v3 I1 => ((v3 = 1 ∧ (cc mX7_in [.inl x2, .inl (-1), .inl 3] I1 (qi fun v6 I4 => ((v6 = 1 ∧ (cc mX7_of [.inr 119, .inl x1, .inl 2] I4 (qi fun v9 I7 => (sh_Bd x2 ∧ ((¬ x2 = (-1) → (sh_Bd v9 ∧ ((¬ v9 = x2 → (cc mX7_put [.inr 119, .inl x1, .inl 2, .inl x2] I7 (qv fun I14 => Q v9 I14))) ∧ (v9 = x2 → Q (-5) I7)))) ∧ (x2 = (-1) → (sh_Bd v9 ∧ ((¬ v9 = 4 → (cc mX7_put [.inr 119, .inl x1, .inl 2, .inl 4] I7 (qv fun I18 => Q v9 I18))) ∧ (v9 = 4 → Q (-5) I7))))))))) ∨ (v6 = 0 ∧ Q (-2) I4))))) ∨ (v3 = 0 ∧ Q (-1) I1))))) : cc mX7_headNow [.inr 119, .inl x1, .inl x2] I (qi Q) := by
  refine sh_call cd_X7_headNow.2.2.2 (Nat.le_of_ble_eq_true rfl) ?_
  show kk mX7_headNow 0 [some (.inr 119), some (.inl x1), some (.inl x2), none, none] [] I (qi Q)
  refine sh_aload_n (pc := 0) dX7_headNow_0 rfl rfl ?_
  refine sh_iload_n (pc := 1) dX7_headNow_1 rfl rfl ?_
  refine k_V1i (pc := 2) is_119 dX7_headNow_2 lk_X7_120 rfl h (fun v3 I1 h => ?_)
  rcases h with ⟨rfl, h⟩ | ⟨rfl, h⟩
  · skip
    refine sh_if_ne (pc := 5) (tgt := 10) dX7_headNow_5 (by decide) (bd_lit (by decide)) (fun qz => ?_) (fun qz => ?_)
    · skip
      refine sh_iload_n (pc := 10) dX7_headNow_10 rfl rfl ?_
      refine sh_iconst (pc := 11) (v := (-1)) dX7_headNow_11 rfl ?_
      refine sh_iconst (pc := 12) (v := 3) dX7_headNow_12 rfl ?_
      refine k_S3i (pc := 13) dX7_headNow_13 lk_X7_51 rfl h (fun v6 I4 h => ?_)
      rcases h with ⟨rfl, h⟩ | ⟨rfl, h⟩
      · skip
        refine sh_if_ne (pc := 16) (tgt := 22) dX7_headNow_16 (by decide) (bd_lit (by decide)) (fun qz => ?_) (fun qz => ?_)
        · skip
          refine sh_aload_n (pc := 22) dX7_headNow_22 rfl rfl ?_
          refine sh_iload_n (pc := 23) dX7_headNow_23 rfl rfl ?_
          refine sh_iconst (pc := 24) (v := 2) dX7_headNow_24 rfl ?_
          refine k_V2i (pc := 25) is_119 dX7_headNow_25 lk_X7_68 rfl h (fun v9 I7 h => ?_)
          refine k_istore_n (pc := 28) [some (.inr 119), some (.inl x1), some (.inl x2), some (.inl v9), none] dX7_headNow_28 rfl rfl (by decide) ?_
          refine sh_iload_n (pc := 29) dX7_headNow_29 rfl rfl ?_
          refine sh_iconst (pc := 30) (v := (-1)) dX7_headNow_30 rfl ?_
          obtain ⟨hb_10, h⟩ := h
          refine sh_icmp_ne (pc := 31) (tgt := 38) dX7_headNow_31 (by decide) hb_10 (bd_lit (by decide)) (fun q_11 => ?_) (fun q_11 => ?_)
          · replace h := h.1 q_11
            refine sh_iload_n (pc := 38) dX7_headNow_38 rfl rfl ?_
            refine k_istore (pc := 39) [some (.inr 119), some (.inl x1), some (.inl x2), some (.inl v9), some (.inl x2)] dX7_headNow_39 rfl (by decide) ?_
            refine sh_iload_n (pc := 41) dX7_headNow_41 rfl rfl ?_
            refine sh_iload (pc := 42) dX7_headNow_42 rfl ?_
            obtain ⟨hb_12, h⟩ := h
            refine sh_icmp_ne (pc := 44) (tgt := 50) dX7_headNow_44 (by decide) hb_12 hb_10 (fun q_13 => ?_) (fun q_13 => ?_)
            · replace h := h.1 q_13
              refine sh_aload_n (pc := 50) dX7_headNow_50 rfl rfl ?_
              refine sh_iload_n (pc := 51) dX7_headNow_51 rfl rfl ?_
              refine sh_iconst (pc := 52) (v := 2) dX7_headNow_52 rfl ?_
              refine sh_iload (pc := 53) dX7_headNow_53 rfl ?_
              refine k_V3v (pc := 55) is_119 dX7_headNow_55 lk_X7_95 rfl h (fun I14 h => ?_)
              refine sh_iload_n (pc := 58) dX7_headNow_58 rfl rfl ?_
              exact k_iret dX7_headNow_59 rfl h
            · replace h := h.2 q_13
              refine sh_bipush (pc := 47) (v := (-5)) dX7_headNow_47 (by decide) ?_
              exact k_iret dX7_headNow_49 rfl h
          · replace h := h.2 q_11
            refine sh_iconst (pc := 34) (v := 4) dX7_headNow_34 rfl ?_
            refine sh_goto (pc := 35) (tgt := 39) dX7_headNow_35 (by decide) ?_
            refine k_istore (pc := 39) [some (.inr 119), some (.inl x1), some (.inl x2), some (.inl v9), some (.inl 4)] dX7_headNow_39 rfl (by decide) ?_
            refine sh_iload_n (pc := 41) dX7_headNow_41 rfl rfl ?_
            refine sh_iload (pc := 42) dX7_headNow_42 rfl ?_
            obtain ⟨hb_16, h⟩ := h
            refine sh_icmp_ne (pc := 44) (tgt := 50) dX7_headNow_44 (by decide) hb_16 (bd_lit (by decide)) (fun q_17 => ?_) (fun q_17 => ?_)
            · replace h := h.1 q_17
              refine sh_aload_n (pc := 50) dX7_headNow_50 rfl rfl ?_
              refine sh_iload_n (pc := 51) dX7_headNow_51 rfl rfl ?_
              refine sh_iconst (pc := 52) (v := 2) dX7_headNow_52 rfl ?_
              refine sh_iload (pc := 53) dX7_headNow_53 rfl ?_
              refine k_V3v (pc := 55) is_119 dX7_headNow_55 lk_X7_95 rfl h (fun I18 h => ?_)
              refine sh_iload_n (pc := 58) dX7_headNow_58 rfl rfl ?_
              exact k_iret dX7_headNow_59 rfl h
            · replace h := h.2 q_17
              refine sh_bipush (pc := 47) (v := (-5)) dX7_headNow_47 (by decide) ?_
              exact k_iret dX7_headNow_49 rfl h
        · exact absurd qz (by decide)
      · skip
        refine sh_if_ne (pc := 16) (tgt := 22) dX7_headNow_16 (by decide) (bd_lit (by decide)) (fun qz => ?_) (fun qz => ?_)
        · exact absurd qz (by decide)
        · skip
          refine sh_bipush (pc := 19) (v := (-2)) dX7_headNow_19 (by decide) ?_
          exact k_iret dX7_headNow_21 rfl h
    · exact absurd qz (by decide)
  · skip
    refine sh_if_ne (pc := 5) (tgt := 10) dX7_headNow_5 (by decide) (bd_lit (by decide)) (fun qz => ?_) (fun qz => ?_)
    · exact absurd qz (by decide)
    · skip
      refine sh_iconst (pc := 8) (v := (-1)) dX7_headNow_8 rfl ?_
      exact k_iret dX7_headNow_9 rfl h
set_option maxRecDepth 100000 in
set_option maxHeartbeats 4000000 in
theorem eX7_lampsOn  {I : sh_Mem} {Q : Int → sh_Mem → Prop} (h : (cc mX7_ofLamp [.inr 119, .inl 0, .inl 3] I (qi fun v3 I1 => (cc mX7_ofLamp [.inr 119, .inl 1, .inl 3] I1 (qi fun v6 I4 => (cc mX7_ofLamp [.inr 119, .inl 2, .inl 3] I4 (qi fun v9 I7 => Q ((v3 + v6) + v9) I7))))))) : cc mX7_lampsOn [.inr 119] I (qi Q) := by
  refine sh_call cd_X7_lampsOn.2.2.2 (Nat.le_of_ble_eq_true rfl) ?_
  show kk mX7_lampsOn 0 [some (.inr 119)] [] I (qi Q)
  refine sh_aload_n (pc := 0) dX7_lampsOn_0 rfl rfl ?_
  refine sh_iconst (pc := 1) (v := 0) dX7_lampsOn_1 rfl ?_
  refine sh_iconst (pc := 2) (v := 3) dX7_lampsOn_2 rfl ?_
  refine k_V2i (pc := 3) is_119 dX7_lampsOn_3 lk_X7_78 rfl h (fun v3 I1 h => ?_)
  refine sh_aload_n (pc := 6) dX7_lampsOn_6 rfl rfl ?_
  refine sh_iconst (pc := 7) (v := 1) dX7_lampsOn_7 rfl ?_
  refine sh_iconst (pc := 8) (v := 3) dX7_lampsOn_8 rfl ?_
  refine k_V2i (pc := 9) is_119 dX7_lampsOn_9 lk_X7_78 rfl h (fun v6 I4 h => ?_)
  refine sh_iadd (pc := 12) dX7_lampsOn_12 ?_
  refine sh_aload_n (pc := 13) dX7_lampsOn_13 rfl rfl ?_
  refine sh_iconst (pc := 14) (v := 2) dX7_lampsOn_14 rfl ?_
  refine sh_iconst (pc := 15) (v := 3) dX7_lampsOn_15 rfl ?_
  refine k_V2i (pc := 16) is_119 dX7_lampsOn_16 lk_X7_78 rfl h (fun v9 I7 h => ?_)
  refine sh_iadd (pc := 19) dX7_lampsOn_19 ?_
  exact k_iret dX7_lampsOn_20 rfl h
set_option maxRecDepth 100000 in
set_option maxHeartbeats 4000000 in
theorem eX7_lightNow {x1 : Int} {x2 : Int} {I : sh_Mem} {Q : Int → sh_Mem → Prop} (h : (cc mX7_isLamp [.inl x1] I (qi fun v3 I1 => ((v3 = 1 ∧ (cc mX7_ofLamp [.inr 119, .inl x1, .inl 3] I1 (qi fun v6 I4 => (sh_Bd v6 ∧ (sh_Bd x2 ∧ ((¬ v6 = x2 → (cc mX7_putLamp [.inr 119, .inl x1, .inl 3, .inl x2] I4 (qv fun I10 => (cc mX7_lampsOn [.inr 119] I10 (qi fun v14 I12 => Q v14 I12))))) ∧ (v6 = x2 → Q (-5) I4))))))) ∨ (v3 = 0 ∧ Q (-1) I1))))) : cc mX7_lightNow [.inr 119, .inl x1, .inl x2] I (qi Q) := by
  refine sh_call cd_X7_lightNow.2.2.2 (Nat.le_of_ble_eq_true rfl) ?_
  show kk mX7_lightNow 0 [some (.inr 119), some (.inl x1), some (.inl x2)] [] I (qi Q)
  refine sh_iload_n (pc := 0) dX7_lightNow_0 rfl rfl ?_
  refine k_S1i (pc := 1) dX7_lightNow_1 lk_X7_123 rfl h (fun v3 I1 h => ?_)
  rcases h with ⟨rfl, h⟩ | ⟨rfl, h⟩
  · skip
    refine sh_if_ne (pc := 4) (tgt := 9) dX7_lightNow_4 (by decide) (bd_lit (by decide)) (fun qz => ?_) (fun qz => ?_)
    · skip
      refine sh_aload_n (pc := 9) dX7_lightNow_9 rfl rfl ?_
      refine sh_iload_n (pc := 10) dX7_lightNow_10 rfl rfl ?_
      refine sh_iconst (pc := 11) (v := 3) dX7_lightNow_11 rfl ?_
      refine k_V2i (pc := 12) is_119 dX7_lightNow_12 lk_X7_78 rfl h (fun v6 I4 h => ?_)
      refine sh_iload_n (pc := 15) dX7_lightNow_15 rfl rfl ?_
      obtain ⟨hb_7, h⟩ := h
      obtain ⟨hb_8, h⟩ := h
      refine sh_icmp_ne (pc := 16) (tgt := 22) dX7_lightNow_16 (by decide) hb_7 hb_8 (fun q_9 => ?_) (fun q_9 => ?_)
      · replace h := h.1 q_9
        refine sh_aload_n (pc := 22) dX7_lightNow_22 rfl rfl ?_
        refine sh_iload_n (pc := 23) dX7_lightNow_23 rfl rfl ?_
        refine sh_iconst (pc := 24) (v := 3) dX7_lightNow_24 rfl ?_
        refine sh_iload_n (pc := 25) dX7_lightNow_25 rfl rfl ?_
        refine k_V3v (pc := 26) is_119 dX7_lightNow_26 lk_X7_47 rfl h (fun I10 h => ?_)
        refine sh_aload_n (pc := 29) dX7_lightNow_29 rfl rfl ?_
        refine k_V0i (pc := 30) is_119 dX7_lightNow_30 lk_X7_126 rfl h (fun v14 I12 h => ?_)
        exact k_iret dX7_lightNow_33 rfl h
      · replace h := h.2 q_9
        refine sh_bipush (pc := 19) (v := (-5)) dX7_lightNow_19 (by decide) ?_
        exact k_iret dX7_lightNow_21 rfl h
    · exact absurd qz (by decide)
  · skip
    refine sh_if_ne (pc := 4) (tgt := 9) dX7_lightNow_4 (by decide) (bd_lit (by decide)) (fun qz => ?_) (fun qz => ?_)
    · exact absurd qz (by decide)
    · skip
      refine sh_iconst (pc := 7) (v := (-1)) dX7_lightNow_7 rfl ?_
      exact k_iret dX7_lightNow_8 rfl h
set_option maxRecDepth 100000 in
set_option maxHeartbeats 4000000 in
theorem eX7_setLampNow {x1 : Int} {x2 : Int} {x3 : Int} {I : sh_Mem} {Q : Int → sh_Mem → Prop} (h : (cc mX7_isLamp [.inl x1] I (qi fun v3 I1 => ((v3 = 1 ∧ (sh_Bd x2 ∧ ((¬ x2 = 0 → ((¬ x2 = 1 → ((¬ x2 = 2 → kk mX7_setLampNow 56 [some (.inr 119), some (.inl x1), some (.inl x2), some (.inl x3), none, none] [.inl 0] I1 (qi Q)) ∧ (x2 = 2 → (cc mX7_in [.inl x3, .inl 0, .inl 9] I1 (qi fun v10 I8 => ((v10 = 1 ∧ kk mX7_setLampNow 56 [some (.inr 119), some (.inl x1), some (.inl x2), some (.inl x3), none, none] [.inl 1] I8 (qi Q)) ∨ (v10 = 0 ∧ kk mX7_setLampNow 56 [some (.inr 119), some (.inl x1), some (.inl x2), some (.inl x3), none, none] [.inl 0] I8 (qi Q)))))))) ∧ (x2 = 1 → (cc mX7_in [.inl x3, .inl 1, .inl 4] I1 (qi fun v13 I11 => kk mX7_setLampNow 56 [some (.inr 119), some (.inl x1), some (.inl x2), some (.inl x3), none, none] [.inl v13] I11 (qi Q)))))) ∧ (x2 = 0 → (cc mX7_in [.inl x3, .inl 0, .inl 3] I1 (qi fun v16 I14 => kk mX7_setLampNow 56 [some (.inr 119), some (.inl x1), some (.inl x2), some (.inl x3), none, none] [.inl v16] I14 (qi Q))))))) ∨ (v3 = 0 ∧ Q (-1) I1))))) : cc mX7_setLampNow [.inr 119, .inl x1, .inl x2, .inl x3] I (qi Q) := by
  refine sh_call cd_X7_setLampNow.2.2.2 (Nat.le_of_ble_eq_true rfl) ?_
  show kk mX7_setLampNow 0 [some (.inr 119), some (.inl x1), some (.inl x2), some (.inl x3), none, none] [] I (qi Q)
  refine sh_iload_n (pc := 0) dX7_setLampNow_0 rfl rfl ?_
  refine k_S1i (pc := 1) dX7_setLampNow_1 lk_X7_123 rfl h (fun v3 I1 h => ?_)
  rcases h with ⟨rfl, h⟩ | ⟨rfl, h⟩
  · skip
    refine sh_if_ne (pc := 4) (tgt := 9) dX7_setLampNow_4 (by decide) (bd_lit (by decide)) (fun qz => ?_) (fun qz => ?_)
    · skip
      refine sh_iload_n (pc := 9) dX7_setLampNow_9 rfl rfl ?_
      obtain ⟨hb_4, h⟩ := h
      refine sh_if_ne (pc := 10) (tgt := 22) dX7_setLampNow_10 (by decide) hb_4  (fun q_5 => ?_) (fun q_5 => ?_)
      · replace h := h.1 q_5
        refine sh_iload_n (pc := 22) dX7_setLampNow_22 rfl rfl ?_
        refine sh_iconst (pc := 23) (v := 1) dX7_setLampNow_23 rfl ?_
        refine sh_icmp_ne (pc := 24) (tgt := 36) dX7_setLampNow_24 (by decide) hb_4 (bd_lit (by decide)) (fun q_6 => ?_) (fun q_6 => ?_)
        · replace h := h.1 q_6
          refine sh_iload_n (pc := 36) dX7_setLampNow_36 rfl rfl ?_
          refine sh_iconst (pc := 37) (v := 2) dX7_setLampNow_37 rfl ?_
          refine sh_icmp_ne (pc := 38) (tgt := 55) dX7_setLampNow_38 (by decide) hb_4 (bd_lit (by decide)) (fun q_7 => ?_) (fun q_7 => ?_)
          · replace h := h.1 q_7
            refine sh_iconst (pc := 55) (v := 0) dX7_setLampNow_55 rfl ?_
            exact sh_O.locals h (sub_some (sub_some (sub_some (sub_some (sub_none (sub_none sub_nil))))))
          · replace h := h.2 q_7
            refine sh_iload_n (pc := 41) dX7_setLampNow_41 rfl rfl ?_
            refine sh_iconst (pc := 42) (v := 0) dX7_setLampNow_42 rfl ?_
            refine sh_bipush (pc := 43) (v := 9) dX7_setLampNow_43 (by decide) ?_
            refine k_S3i (pc := 45) dX7_setLampNow_45 lk_X7_51 rfl h (fun v10 I8 h => ?_)
            rcases h with ⟨rfl, h⟩ | ⟨rfl, h⟩
            · skip
              refine sh_if_eq (pc := 48) (tgt := 55) dX7_setLampNow_48 (by decide) (bd_lit (by decide)) (fun qz => ?_) (fun qz => ?_)
              · exact absurd qz (by decide)
              · skip
                refine sh_iconst (pc := 51) (v := 1) dX7_setLampNow_51 rfl ?_
                refine sh_goto (pc := 52) (tgt := 56) dX7_setLampNow_52 (by decide) ?_
                exact sh_O.locals h (sub_some (sub_some (sub_some (sub_some (sub_none (sub_none sub_nil))))))
            · skip
              refine sh_if_eq (pc := 48) (tgt := 55) dX7_setLampNow_48 (by decide) (bd_lit (by decide)) (fun qz => ?_) (fun qz => ?_)
              · skip
                refine sh_iconst (pc := 55) (v := 0) dX7_setLampNow_55 rfl ?_
                exact sh_O.locals h (sub_some (sub_some (sub_some (sub_some (sub_none (sub_none sub_nil))))))
              · exact absurd qz (by decide)
        · replace h := h.2 q_6
          refine sh_iload_n (pc := 27) dX7_setLampNow_27 rfl rfl ?_
          refine sh_iconst (pc := 28) (v := 1) dX7_setLampNow_28 rfl ?_
          refine sh_iconst (pc := 29) (v := 4) dX7_setLampNow_29 rfl ?_
          refine k_S3i (pc := 30) dX7_setLampNow_30 lk_X7_51 rfl h (fun v13 I11 h => ?_)
          refine sh_goto (pc := 33) (tgt := 56) dX7_setLampNow_33 (by decide) ?_
          exact sh_O.locals h (sub_some (sub_some (sub_some (sub_some (sub_none (sub_none sub_nil))))))
      · replace h := h.2 q_5
        refine sh_iload_n (pc := 13) dX7_setLampNow_13 rfl rfl ?_
        refine sh_iconst (pc := 14) (v := 0) dX7_setLampNow_14 rfl ?_
        refine sh_iconst (pc := 15) (v := 3) dX7_setLampNow_15 rfl ?_
        refine k_S3i (pc := 16) dX7_setLampNow_16 lk_X7_51 rfl h (fun v16 I14 h => ?_)
        refine sh_goto (pc := 19) (tgt := 56) dX7_setLampNow_19 (by decide) ?_
        exact sh_O.locals h (sub_some (sub_some (sub_some (sub_some (sub_none (sub_none sub_nil))))))
    · exact absurd qz (by decide)
  · skip
    refine sh_if_ne (pc := 4) (tgt := 9) dX7_setLampNow_4 (by decide) (bd_lit (by decide)) (fun qz => ?_) (fun qz => ?_)
    · exact absurd qz (by decide)
    · skip
      refine sh_iconst (pc := 7) (v := (-1)) dX7_setLampNow_7 rfl ?_
      exact k_iret dX7_setLampNow_8 rfl h
set_option maxRecDepth 100000 in
set_option maxHeartbeats 4000000 in
theorem lX7_setLampNow_56 {y1 : Int} {y2 : Int} {y3 : Int} {z0 : Int} {I : sh_Mem} {Q : Int → sh_Mem → Prop} (h : (sh_Bd z0 ∧ ((¬ z0 = 0 → (cc mX7_ofLamp [.inr 119, .inl y1, .inl y2] I (qi fun v5 I3 => (sh_Bd v5 ∧ (sh_Bd y3 ∧ ((¬ v5 = y3 → (cc mX7_putLamp [.inr 119, .inl y1, .inl y2, .inl y3] I3 (qv fun I9 => Q v5 I9))) ∧ (v5 = y3 → Q (-5) I3))))))) ∧ (z0 = 0 → Q (-2) I)))) : kk mX7_setLampNow 56 [some (.inr 119), some (.inl y1), some (.inl y2), some (.inl y3), none, none] [.inl z0] I (qi Q) := by
  refine k_istore (pc := 56) [some (.inr 119), some (.inl y1), some (.inl y2), some (.inl y3), some (.inl z0), none] dX7_setLampNow_56 rfl (by decide) ?_
  refine sh_iload (pc := 58) dX7_setLampNow_58 rfl ?_
  obtain ⟨hb_1, h⟩ := h
  refine sh_if_ne (pc := 60) (tgt := 66) dX7_setLampNow_60 (by decide) hb_1  (fun q_2 => ?_) (fun q_2 => ?_)
  · replace h := h.1 q_2
    refine sh_aload_n (pc := 66) dX7_setLampNow_66 rfl rfl ?_
    refine sh_iload_n (pc := 67) dX7_setLampNow_67 rfl rfl ?_
    refine sh_iload_n (pc := 68) dX7_setLampNow_68 rfl rfl ?_
    refine k_V2i (pc := 69) is_119 dX7_setLampNow_69 lk_X7_78 rfl h (fun v5 I3 h => ?_)
    refine k_istore (pc := 72) [some (.inr 119), some (.inl y1), some (.inl y2), some (.inl y3), some (.inl z0), some (.inl v5)] dX7_setLampNow_72 rfl (by decide) ?_
    refine sh_iload (pc := 74) dX7_setLampNow_74 rfl ?_
    refine sh_iload_n (pc := 76) dX7_setLampNow_76 rfl rfl ?_
    obtain ⟨hb_6, h⟩ := h
    obtain ⟨hb_7, h⟩ := h
    refine sh_icmp_ne (pc := 77) (tgt := 83) dX7_setLampNow_77 (by decide) hb_6 hb_7 (fun q_8 => ?_) (fun q_8 => ?_)
    · replace h := h.1 q_8
      refine sh_aload_n (pc := 83) dX7_setLampNow_83 rfl rfl ?_
      refine sh_iload_n (pc := 84) dX7_setLampNow_84 rfl rfl ?_
      refine sh_iload_n (pc := 85) dX7_setLampNow_85 rfl rfl ?_
      refine sh_iload_n (pc := 86) dX7_setLampNow_86 rfl rfl ?_
      refine k_V3v (pc := 87) is_119 dX7_setLampNow_87 lk_X7_47 rfl h (fun I9 h => ?_)
      refine sh_iload (pc := 90) dX7_setLampNow_90 rfl ?_
      exact k_iret dX7_setLampNow_92 rfl h
    · replace h := h.2 q_8
      refine sh_bipush (pc := 80) (v := (-5)) dX7_setLampNow_80 (by decide) ?_
      exact k_iret dX7_setLampNow_82 rfl h
  · replace h := h.2 q_2
    refine sh_bipush (pc := 63) (v := (-2)) dX7_setLampNow_63 (by decide) ?_
    exact k_iret dX7_setLampNow_65 rfl h
set_option maxRecDepth 100000 in
set_option maxHeartbeats 4000000 in
theorem eX7_setNow {x1 : Int} {x2 : Int} {I : sh_Mem} {Q : Int → sh_Mem → Prop} (h : (cc mX7_in [.inl x1, .inl 0, .inl 1] I (qi fun v3 I1 => ((v3 = 1 ∧ (cc mX7_in [.inl x2, .inl 0, .inl 9] I1 (qi fun v6 I4 => ((v6 = 1 ∧ ((0 ≤ (6 + x1) ∧ (6 + x1) < (63 : Int)) ∧ (sh_Bd (I4 120 (6 + x1)) ∧ (sh_Bd x2 ∧ ((¬ (I4 120 (6 + x1)) = x2 → Q (I4 120 (6 + x1)) (sh_u I4 120 (6 + x1) x2)) ∧ ((I4 120 (6 + x1)) = x2 → Q (-5) I4)))))) ∨ (v6 = 0 ∧ Q (-2) I4))))) ∨ (v3 = 0 ∧ Q (-1) I1))))) : cc mX7_setNow [.inr 119, .inl x1, .inl x2] I (qi Q) := by
  refine sh_call cd_X7_setNow.2.2.2 (Nat.le_of_ble_eq_true rfl) ?_
  show kk mX7_setNow 0 [some (.inr 119), some (.inl x1), some (.inl x2), none] [] I (qi Q)
  refine sh_iload_n (pc := 0) dX7_setNow_0 rfl rfl ?_
  refine sh_iconst (pc := 1) (v := 0) dX7_setNow_1 rfl ?_
  refine sh_iconst (pc := 2) (v := 1) dX7_setNow_2 rfl ?_
  refine k_S3i (pc := 3) dX7_setNow_3 lk_X7_51 rfl h (fun v3 I1 h => ?_)
  rcases h with ⟨rfl, h⟩ | ⟨rfl, h⟩
  · skip
    refine sh_if_ne (pc := 6) (tgt := 11) dX7_setNow_6 (by decide) (bd_lit (by decide)) (fun qz => ?_) (fun qz => ?_)
    · skip
      refine sh_iload_n (pc := 11) dX7_setNow_11 rfl rfl ?_
      refine sh_iconst (pc := 12) (v := 0) dX7_setNow_12 rfl ?_
      refine sh_bipush (pc := 13) (v := 9) dX7_setNow_13 (by decide) ?_
      refine k_S3i (pc := 15) dX7_setNow_15 lk_X7_51 rfl h (fun v6 I4 h => ?_)
      rcases h with ⟨rfl, h⟩ | ⟨rfl, h⟩
      · skip
        refine sh_if_ne (pc := 18) (tgt := 24) dX7_setNow_18 (by decide) (bd_lit (by decide)) (fun qz => ?_) (fun qz => ?_)
        · skip
          refine sh_aload_n (pc := 24) dX7_setNow_24 rfl rfl ?_
          refine sh_getR (pc := 25) dX7_setNow_25 fl_X7_7 rfl is_119 pt_119_0 ?_
          refine sh_bipush (pc := 28) (v := 6) dX7_setNow_28 (by decide) ?_
          refine sh_iload_n (pc := 30) dX7_setNow_30 rfl rfl ?_
          refine sh_iadd (pc := 31) dX7_setNow_31 ?_
          obtain ⟨hi_7, h⟩ := h
          refine sh_iald (pc := 32) dX7_setNow_32 is_120 (by decide) hi_7 ?_
          refine k_istore_n (pc := 33) [some (.inr 119), some (.inl x1), some (.inl x2), some (.inl (I4 120 (6 + x1)))] dX7_setNow_33 rfl rfl (by decide) ?_
          refine sh_iload_n (pc := 34) dX7_setNow_34 rfl rfl ?_
          refine sh_iload_n (pc := 35) dX7_setNow_35 rfl rfl ?_
          obtain ⟨hb_8, h⟩ := h
          obtain ⟨hb_9, h⟩ := h
          refine sh_icmp_ne (pc := 36) (tgt := 42) dX7_setNow_36 (by decide) hb_8 hb_9 (fun q_10 => ?_) (fun q_10 => ?_)
          · replace h := h.1 q_10
            refine sh_aload_n (pc := 42) dX7_setNow_42 rfl rfl ?_
            refine sh_getR (pc := 43) dX7_setNow_43 fl_X7_7 rfl is_119 pt_119_0 ?_
            refine sh_bipush (pc := 46) (v := 6) dX7_setNow_46 (by decide) ?_
            refine sh_iload_n (pc := 48) dX7_setNow_48 rfl rfl ?_
            refine sh_iadd (pc := 49) dX7_setNow_49 ?_
            refine sh_iload_n (pc := 50) dX7_setNow_50 rfl rfl ?_
            refine sh_iast (pc := 51) dX7_setNow_51 is_120 (by decide) hi_7  ?_
            refine sh_iload_n (pc := 52) dX7_setNow_52 rfl rfl ?_
            exact k_iret dX7_setNow_53 rfl h
          · replace h := h.2 q_10
            refine sh_bipush (pc := 39) (v := (-5)) dX7_setNow_39 (by decide) ?_
            exact k_iret dX7_setNow_41 rfl h
        · exact absurd qz (by decide)
      · skip
        refine sh_if_ne (pc := 18) (tgt := 24) dX7_setNow_18 (by decide) (bd_lit (by decide)) (fun qz => ?_) (fun qz => ?_)
        · exact absurd qz (by decide)
        · skip
          refine sh_bipush (pc := 21) (v := (-2)) dX7_setNow_21 (by decide) ?_
          exact k_iret dX7_setNow_23 rfl h
    · exact absurd qz (by decide)
  · skip
    refine sh_if_ne (pc := 6) (tgt := 11) dX7_setNow_6 (by decide) (bd_lit (by decide)) (fun qz => ?_) (fun qz => ?_)
    · exact absurd qz (by decide)
    · skip
      refine sh_iconst (pc := 9) (v := (-1)) dX7_setNow_9 rfl ?_
      exact k_iret dX7_setNow_10 rfl h
set_option maxRecDepth 100000 in
set_option maxHeartbeats 4000000 in
theorem eX7_passNow {x1 : Int} {I : sh_Mem} {Q : Int → sh_Mem → Prop} (h : (cc mX7_in [.inl x1, .inl 1, .inl 99] I (qi fun v3 I1 => ((v3 = 1 ∧ (sh_Bd ((I1 120 0) + x1) ∧ ((((I1 120 0) + x1) ≤ 99999 → kk mX7_passNow 38 [some (.inr 119), some (.inl x1), some (.inl (I1 120 2)), some (.inl 0)] [] I1 (qi Q)) ∧ (99999 < ((I1 120 0) + x1) → Q (-3) I1)))) ∨ (v3 = 0 ∧ Q (-2) I1))))) : cc mX7_passNow [.inr 119, .inl x1] I (qi Q) := by
  refine sh_call cd_X7_passNow.2.2.2 (Nat.le_of_ble_eq_true rfl) ?_
  show kk mX7_passNow 0 [some (.inr 119), some (.inl x1), none, none] [] I (qi Q)
  refine sh_iload_n (pc := 0) dX7_passNow_0 rfl rfl ?_
  refine sh_iconst (pc := 1) (v := 1) dX7_passNow_1 rfl ?_
  refine sh_bipush (pc := 2) (v := 99) dX7_passNow_2 (by decide) ?_
  refine k_S3i (pc := 4) dX7_passNow_4 lk_X7_51 rfl h (fun v3 I1 h => ?_)
  rcases h with ⟨rfl, h⟩ | ⟨rfl, h⟩
  · skip
    refine sh_if_ne (pc := 7) (tgt := 13) dX7_passNow_7 (by decide) (bd_lit (by decide)) (fun qz => ?_) (fun qz => ?_)
    · skip
      refine sh_aload_n (pc := 13) dX7_passNow_13 rfl rfl ?_
      refine sh_getR (pc := 14) dX7_passNow_14 fl_X7_7 rfl is_119 pt_119_0 ?_
      refine sh_iconst (pc := 17) (v := 0) dX7_passNow_17 rfl ?_
      refine sh_iald (pc := 18) dX7_passNow_18 is_120 (by decide) (by decide) ?_
      refine sh_iload_n (pc := 19) dX7_passNow_19 rfl rfl ?_
      refine sh_iadd (pc := 20) dX7_passNow_20 ?_
      refine sh_ldc (pc := 21) (v := 99999) dX7_passNow_21 wl_X7_129 ?_
      obtain ⟨hb_4, h⟩ := h
      refine sh_icmp_le (pc := 23) (tgt := 29) dX7_passNow_23 (by decide) hb_4 (bd_lit (by decide)) (fun q_5 => ?_) (fun q_5 => ?_)
      · replace h := h.1 q_5
        refine sh_aload_n (pc := 29) dX7_passNow_29 rfl rfl ?_
        refine sh_getR (pc := 30) dX7_passNow_30 fl_X7_7 rfl is_119 pt_119_0 ?_
        refine sh_iconst (pc := 33) (v := 2) dX7_passNow_33 rfl ?_
        refine sh_iald (pc := 34) dX7_passNow_34 is_120 (by decide) (by decide) ?_
        refine k_istore_n (pc := 35) [some (.inr 119), some (.inl x1), some (.inl (I1 120 2)), none] dX7_passNow_35 rfl rfl (by decide) ?_
        refine sh_iconst (pc := 36) (v := 0) dX7_passNow_36 rfl ?_
        refine k_istore_n (pc := 37) [some (.inr 119), some (.inl x1), some (.inl (I1 120 2)), some (.inl 0)] dX7_passNow_37 rfl rfl (by decide) ?_
        exact sh_O.locals h (sub_some (sub_some (sub_some (sub_some sub_nil))))
      · replace h := h.2 q_5
        refine sh_bipush (pc := 26) (v := (-3)) dX7_passNow_26 (by decide) ?_
        exact k_iret dX7_passNow_28 rfl h
    · exact absurd qz (by decide)
  · skip
    refine sh_if_ne (pc := 7) (tgt := 13) dX7_passNow_7 (by decide) (bd_lit (by decide)) (fun qz => ?_) (fun qz => ?_)
    · exact absurd qz (by decide)
    · skip
      refine sh_bipush (pc := 10) (v := (-2)) dX7_passNow_10 (by decide) ?_
      exact k_iret dX7_passNow_12 rfl h
set_option maxRecDepth 100000 in
set_option maxHeartbeats 4000000 in
theorem lX7_passNow_38 {y1 : Int} {y2 : Int} {y3 : Int} {I : sh_Mem} {Q : Int → sh_Mem → Prop} (h : (sh_Bd y3 ∧ (sh_Bd y1 ∧ ((y1 ≤ y3 → Q ((I 120 2) - y2) I) ∧ (y3 < y1 → (cc mX7_turn [.inr 119] I (qv fun I4 => kk mX7_passNow 38 [some (.inr 119), some (.inl y1), some (.inl y2), some (.inl (y3 + 1))] [] I4 (qi Q)))))))) : kk mX7_passNow 38 [some (.inr 119), some (.inl y1), some (.inl y2), some (.inl y3)] [] I (qi Q) := by
  refine sh_iload_n (pc := 38) dX7_passNow_38 rfl rfl ?_
  refine sh_iload_n (pc := 39) dX7_passNow_39 rfl rfl ?_
  obtain ⟨hb_1, h⟩ := h
  obtain ⟨hb_2, h⟩ := h
  refine sh_icmp_ge (pc := 40) (tgt := 53) dX7_passNow_40 (by decide) hb_1 hb_2 (fun q_3 => ?_) (fun q_3 => ?_)
  · replace h := h.1 q_3
    refine sh_aload_n (pc := 53) dX7_passNow_53 rfl rfl ?_
    refine sh_getR (pc := 54) dX7_passNow_54 fl_X7_7 rfl is_119 pt_119_0 ?_
    refine sh_iconst (pc := 57) (v := 2) dX7_passNow_57 rfl ?_
    refine sh_iald (pc := 58) dX7_passNow_58 is_120 (by decide) (by decide) ?_
    refine sh_iload_n (pc := 59) dX7_passNow_59 rfl rfl ?_
    refine sh_isub (pc := 60) dX7_passNow_60 ?_
    exact k_iret dX7_passNow_61 rfl h
  · replace h := h.2 q_3
    refine sh_aload_n (pc := 43) dX7_passNow_43 rfl rfl ?_
    refine k_V0v (pc := 44) is_119 dX7_passNow_44 lk_X7_130 rfl h (fun I4 h => ?_)
    refine k_iinc (pc := 47) [some (.inr 119), some (.inl y1), some (.inl y2), some (.inl (y3 + 1))] dX7_passNow_47 rfl rfl (by decide) ?_
    refine sh_goto (pc := 50) (tgt := 38) dX7_passNow_50 (by decide) ?_
    exact sh_O.locals h (sub_some (sub_some (sub_some (sub_some sub_nil))))
set_option maxRecDepth 100000 in
set_option maxHeartbeats 4000000 in
theorem eX7_come {x1 : Int} {x2 : Int} {I : sh_Mem} {Q : Int → sh_Mem → Prop} (h : (cc mX7_putAside [.inr 119] I (qv fun I1 => (cc mX7_comeNow [.inr 119, .inl x1, .inl x2] I1 (qi fun v5 I3 => (cc mX7_acted [.inr 119, .inl v5] I3 (qi fun v8 I6 => Q v8 I6))))))) : cc mX7_come [.inr 119, .inl x1, .inl x2] I (qi Q) := by
  refine sh_call cd_X7_come.2.2.2 (Nat.le_of_ble_eq_true rfl) ?_
  show kk mX7_come 0 [some (.inr 119), some (.inl x1), some (.inl x2)] [] I (qi Q)
  refine sh_aload_n (pc := 0) dX7_come_0 rfl rfl ?_
  refine k_V0v (pc := 1) is_119 dX7_come_1 lk_X7_65 rfl h (fun I1 h => ?_)
  refine sh_aload_n (pc := 4) dX7_come_4 rfl rfl ?_
  refine sh_aload_n (pc := 5) dX7_come_5 rfl rfl ?_
  refine sh_iload_n (pc := 6) dX7_come_6 rfl rfl ?_
  refine sh_iload_n (pc := 7) dX7_come_7 rfl rfl ?_
  refine k_V2i (pc := 8) is_119 dX7_come_8 lk_X7_133 rfl h (fun v5 I3 h => ?_)
  refine k_V1i (pc := 11) is_119 dX7_come_11 lk_X7_136 rfl h (fun v8 I6 h => ?_)
  exact k_iret dX7_come_14 rfl h
set_option maxRecDepth 100000 in
set_option maxHeartbeats 4000000 in
theorem eX7_head {x1 : Int} {x2 : Int} {I : sh_Mem} {Q : Int → sh_Mem → Prop} (h : (cc mX7_putAside [.inr 119] I (qv fun I1 => (cc mX7_headNow [.inr 119, .inl x1, .inl x2] I1 (qi fun v5 I3 => (cc mX7_acted [.inr 119, .inl v5] I3 (qi fun v8 I6 => Q v8 I6))))))) : cc mX7_head [.inr 119, .inl x1, .inl x2] I (qi Q) := by
  refine sh_call cd_X7_head.2.2.2 (Nat.le_of_ble_eq_true rfl) ?_
  show kk mX7_head 0 [some (.inr 119), some (.inl x1), some (.inl x2)] [] I (qi Q)
  refine sh_aload_n (pc := 0) dX7_head_0 rfl rfl ?_
  refine k_V0v (pc := 1) is_119 dX7_head_1 lk_X7_65 rfl h (fun I1 h => ?_)
  refine sh_aload_n (pc := 4) dX7_head_4 rfl rfl ?_
  refine sh_aload_n (pc := 5) dX7_head_5 rfl rfl ?_
  refine sh_iload_n (pc := 6) dX7_head_6 rfl rfl ?_
  refine sh_iload_n (pc := 7) dX7_head_7 rfl rfl ?_
  refine k_V2i (pc := 8) is_119 dX7_head_8 lk_X7_139 rfl h (fun v5 I3 h => ?_)
  refine k_V1i (pc := 11) is_119 dX7_head_11 lk_X7_136 rfl h (fun v8 I6 h => ?_)
  exact k_iret dX7_head_14 rfl h
set_option maxRecDepth 100000 in
set_option maxHeartbeats 4000000 in
theorem eX7_light {x1 : Int} {x2 : Int} {I : sh_Mem} {Q : Int → sh_Mem → Prop} (h : (cc mX7_putAside [.inr 119] I (qv fun I1 => (sh_Bd x2 ∧ ((x2 = 0 → (cc mX7_lightNow [.inr 119, .inl x1, .inl 0] I1 (qi fun v7 I5 => (cc mX7_acted [.inr 119, .inl v7] I5 (qi fun v10 I8 => Q v10 I8))))) ∧ (¬ x2 = 0 → (cc mX7_lightNow [.inr 119, .inl x1, .inl 1] I1 (qi fun v13 I11 => (cc mX7_acted [.inr 119, .inl v13] I11 (qi fun v16 I14 => Q v16 I14)))))))))) : cc mX7_light [.inr 119, .inl x1, .inl x2] I (qi Q) := by
  refine sh_call cd_X7_light.2.2.2 (Nat.le_of_ble_eq_true rfl) ?_
  show kk mX7_light 0 [some (.inr 119), some (.inl x1), some (.inl x2)] [] I (qi Q)
  refine sh_aload_n (pc := 0) dX7_light_0 rfl rfl ?_
  refine k_V0v (pc := 1) is_119 dX7_light_1 lk_X7_65 rfl h (fun I1 h => ?_)
  refine sh_aload_n (pc := 4) dX7_light_4 rfl rfl ?_
  refine sh_aload_n (pc := 5) dX7_light_5 rfl rfl ?_
  refine sh_iload_n (pc := 6) dX7_light_6 rfl rfl ?_
  refine sh_iload_n (pc := 7) dX7_light_7 rfl rfl ?_
  obtain ⟨hb_3, h⟩ := h
  refine sh_if_eq (pc := 8) (tgt := 15) dX7_light_8 (by decide) hb_3  (fun q_4 => ?_) (fun q_4 => ?_)
  · replace h := h.1 q_4
    refine sh_iconst (pc := 15) (v := 0) dX7_light_15 rfl ?_
    refine k_V2i (pc := 16) is_119 dX7_light_16 lk_X7_142 rfl h (fun v7 I5 h => ?_)
    refine k_V1i (pc := 19) is_119 dX7_light_19 lk_X7_136 rfl h (fun v10 I8 h => ?_)
    exact k_iret dX7_light_22 rfl h
  · replace h := h.2 q_4
    refine sh_iconst (pc := 11) (v := 1) dX7_light_11 rfl ?_
    refine sh_goto (pc := 12) (tgt := 16) dX7_light_12 (by decide) ?_
    refine k_V2i (pc := 16) is_119 dX7_light_16 lk_X7_142 rfl h (fun v13 I11 h => ?_)
    refine k_V1i (pc := 19) is_119 dX7_light_19 lk_X7_136 rfl h (fun v16 I14 h => ?_)
    exact k_iret dX7_light_22 rfl h
set_option maxRecDepth 100000 in
set_option maxHeartbeats 4000000 in
theorem eX7_setLamp {x1 : Int} {x2 : Int} {x3 : Int} {I : sh_Mem} {Q : Int → sh_Mem → Prop} (h : (cc mX7_putAside [.inr 119] I (qv fun I1 => (cc mX7_setLampNow [.inr 119, .inl x1, .inl x2, .inl x3] I1 (qi fun v5 I3 => (cc mX7_acted [.inr 119, .inl v5] I3 (qi fun v8 I6 => Q v8 I6))))))) : cc mX7_setLamp [.inr 119, .inl x1, .inl x2, .inl x3] I (qi Q) := by
  refine sh_call cd_X7_setLamp.2.2.2 (Nat.le_of_ble_eq_true rfl) ?_
  show kk mX7_setLamp 0 [some (.inr 119), some (.inl x1), some (.inl x2), some (.inl x3)] [] I (qi Q)
  refine sh_aload_n (pc := 0) dX7_setLamp_0 rfl rfl ?_
  refine k_V0v (pc := 1) is_119 dX7_setLamp_1 lk_X7_65 rfl h (fun I1 h => ?_)
  refine sh_aload_n (pc := 4) dX7_setLamp_4 rfl rfl ?_
  refine sh_aload_n (pc := 5) dX7_setLamp_5 rfl rfl ?_
  refine sh_iload_n (pc := 6) dX7_setLamp_6 rfl rfl ?_
  refine sh_iload_n (pc := 7) dX7_setLamp_7 rfl rfl ?_
  refine sh_iload_n (pc := 8) dX7_setLamp_8 rfl rfl ?_
  refine k_V3i (pc := 9) is_119 dX7_setLamp_9 lk_X7_145 rfl h (fun v5 I3 h => ?_)
  refine k_V1i (pc := 12) is_119 dX7_setLamp_12 lk_X7_136 rfl h (fun v8 I6 h => ?_)
  exact k_iret dX7_setLamp_15 rfl h
set_option maxRecDepth 100000 in
set_option maxHeartbeats 4000000 in
theorem eX7_set {x1 : Int} {x2 : Int} {I : sh_Mem} {Q : Int → sh_Mem → Prop} (h : (cc mX7_putAside [.inr 119] I (qv fun I1 => (cc mX7_setNow [.inr 119, .inl x1, .inl x2] I1 (qi fun v5 I3 => (cc mX7_acted [.inr 119, .inl v5] I3 (qi fun v8 I6 => Q v8 I6))))))) : cc mX7_set [.inr 119, .inl x1, .inl x2] I (qi Q) := by
  refine sh_call cd_X7_set.2.2.2 (Nat.le_of_ble_eq_true rfl) ?_
  show kk mX7_set 0 [some (.inr 119), some (.inl x1), some (.inl x2)] [] I (qi Q)
  refine sh_aload_n (pc := 0) dX7_set_0 rfl rfl ?_
  refine k_V0v (pc := 1) is_119 dX7_set_1 lk_X7_65 rfl h (fun I1 h => ?_)
  refine sh_aload_n (pc := 4) dX7_set_4 rfl rfl ?_
  refine sh_aload_n (pc := 5) dX7_set_5 rfl rfl ?_
  refine sh_iload_n (pc := 6) dX7_set_6 rfl rfl ?_
  refine sh_iload_n (pc := 7) dX7_set_7 rfl rfl ?_
  refine k_V2i (pc := 8) is_119 dX7_set_8 lk_X7_149 rfl h (fun v5 I3 h => ?_)
  refine k_V1i (pc := 11) is_119 dX7_set_11 lk_X7_136 rfl h (fun v8 I6 h => ?_)
  exact k_iret dX7_set_14 rfl h
set_option maxRecDepth 100000 in
set_option maxHeartbeats 4000000 in
theorem eX7_pass {x1 : Int} {I : sh_Mem} {Q : Int → sh_Mem → Prop} (h : (cc mX7_putAside [.inr 119] I (qv fun I1 => (cc mX7_passNow [.inr 119, .inl x1] I1 (qi fun v5 I3 => (cc mX7_acted [.inr 119, .inl v5] I3 (qi fun v8 I6 => Q v8 I6))))))) : cc mX7_pass [.inr 119, .inl x1] I (qi Q) := by
  refine sh_call cd_X7_pass.2.2.2 (Nat.le_of_ble_eq_true rfl) ?_
  show kk mX7_pass 0 [some (.inr 119), some (.inl x1)] [] I (qi Q)
  refine sh_aload_n (pc := 0) dX7_pass_0 rfl rfl ?_
  refine k_V0v (pc := 1) is_119 dX7_pass_1 lk_X7_65 rfl h (fun I1 h => ?_)
  refine sh_aload_n (pc := 4) dX7_pass_4 rfl rfl ?_
  refine sh_aload_n (pc := 5) dX7_pass_5 rfl rfl ?_
  refine sh_iload_n (pc := 6) dX7_pass_6 rfl rfl ?_
  refine k_V1i (pc := 7) is_119 dX7_pass_7 lk_X7_152 rfl h (fun v5 I3 h => ?_)
  refine k_V1i (pc := 10) is_119 dX7_pass_10 lk_X7_136 rfl h (fun v8 I6 h => ?_)
  exact k_iret dX7_pass_13 rfl h
set_option maxRecDepth 100000 in
set_option maxHeartbeats 4000000 in
theorem eX7_type {x1 : Int} {I : sh_Mem} {Q : Int → sh_Mem → Prop} (h : (sh_Bd (I 119 10) ∧ ((¬ (I 119 10) = 60 → ((0 ≤ (I 119 10) ∧ (I 119 10) < (60 : Int)) ∧ Q ((I 119 10) + 1) (sh_u (sh_u I 125 (I 119 10) x1) 119 10 ((I 119 10) + 1)))) ∧ ((I 119 10) = 60 → Q (-3) I)))) : cc mX7_type [.inr 119, .inl x1] I (qi Q) := by
  refine sh_call cd_X7_type.2.2.2 (Nat.le_of_ble_eq_true rfl) ?_
  show kk mX7_type 0 [some (.inr 119), some (.inl x1)] [] I (qi Q)
  refine sh_aload_n (pc := 0) dX7_type_0 rfl rfl ?_
  refine sh_getI (pc := 1) (g := 10) dX7_type_1 fl_X7_155 rfl is_119 rfl ?_
  refine sh_bipush (pc := 4) (v := 60) dX7_type_4 (by decide) ?_
  obtain ⟨hb_1, h⟩ := h
  refine sh_icmp_ne (pc := 6) (tgt := 12) dX7_type_6 (by decide) hb_1 (bd_lit (by decide)) (fun q_2 => ?_) (fun q_2 => ?_)
  · replace h := h.1 q_2
    refine sh_aload_n (pc := 12) dX7_type_12 rfl rfl ?_
    refine sh_getR (pc := 13) dX7_type_13 fl_X7_25 rfl is_119 pt_119_9 ?_
    refine sh_aload_n (pc := 16) dX7_type_16 rfl rfl ?_
    refine sh_getI (pc := 17) (g := 10) dX7_type_17 fl_X7_155 rfl is_119 rfl ?_
    refine sh_iload_n (pc := 20) dX7_type_20 rfl rfl ?_
    obtain ⟨hi_3, h⟩ := h
    refine sh_iast (pc := 21) dX7_type_21 is_125 (by decide) hi_3  ?_
    refine sh_aload_n (pc := 22) dX7_type_22 rfl rfl ?_
    refine sh_dup (pc := 23) dX7_type_23 ?_
    refine k_getI (pc := 24) (g := 10) (I 119 10) dX7_type_24 fl_X7_155 rfl is_119 rfl (by simp [sh_u]) ?_
    refine sh_iconst (pc := 27) (v := 1) dX7_type_27 rfl ?_
    refine sh_iadd (pc := 28) dX7_type_28 ?_
    refine k_putI (pc := 29) (g := 10) dX7_type_29 fl_X7_155 rfl is_119 rfl ?_
    refine sh_aload_n (pc := 32) dX7_type_32 rfl rfl ?_
    refine k_getI (pc := 33) (g := 10) ((I 119 10) + 1) dX7_type_33 fl_X7_155 rfl is_119 rfl (by simp [sh_u]) ?_
    exact k_iret dX7_type_36 rfl h
  · replace h := h.2 q_2
    refine sh_bipush (pc := 9) (v := (-3)) dX7_type_9 (by decide) ?_
    exact k_iret dX7_type_11 rfl h
set_option maxRecDepth 100000 in
set_option maxHeartbeats 4000000 in
theorem eX7_clearText  {I : sh_Mem} {Q : Int → sh_Mem → Prop} (h : Q (I 119 10) (sh_u I 119 10 0)) : cc mX7_clearText [.inr 119] I (qi Q) := by
  refine sh_call cd_X7_clearText.2.2.2 (Nat.le_of_ble_eq_true rfl) ?_
  show kk mX7_clearText 0 [some (.inr 119), none] [] I (qi Q)
  refine sh_aload_n (pc := 0) dX7_clearText_0 rfl rfl ?_
  refine sh_getI (pc := 1) (g := 10) dX7_clearText_1 fl_X7_155 rfl is_119 rfl ?_
  refine k_istore_n (pc := 4) [some (.inr 119), some (.inl (I 119 10))] dX7_clearText_4 rfl rfl (by decide) ?_
  refine sh_aload_n (pc := 5) dX7_clearText_5 rfl rfl ?_
  refine sh_iconst (pc := 6) (v := 0) dX7_clearText_6 rfl ?_
  refine k_putI (pc := 7) (g := 10) dX7_clearText_7 fl_X7_155 rfl is_119 rfl ?_
  refine sh_iload_n (pc := 10) dX7_clearText_10 rfl rfl ?_
  exact k_iret dX7_clearText_11 rfl h
set_option maxRecDepth 100000 in
set_option maxHeartbeats 4000000 in
theorem eX7_code  {I : sh_Mem} {Q : Int → sh_Mem → Prop} (h : (sh_Bd (I 119 11) ∧ (sh_Bd (I 119 10) ∧ (((I 119 10) ≤ (I 119 11) → Q 0 I) ∧ ((I 119 11) < (I 119 10) → ((0 ≤ (I 119 11) ∧ (I 119 11) < (60 : Int)) ∧ Q (I 125 (I 119 11)) I)))))) : cc mX7_code [.inr 119] I (qi Q) := by
  refine sh_call cd_X7_code.2.2.2 (Nat.le_of_ble_eq_true rfl) ?_
  show kk mX7_code 0 [some (.inr 119)] [] I (qi Q)
  refine sh_aload_n (pc := 0) dX7_code_0 rfl rfl ?_
  refine sh_getI (pc := 1) (g := 11) dX7_code_1 fl_X7_158 rfl is_119 rfl ?_
  refine sh_aload_n (pc := 4) dX7_code_4 rfl rfl ?_
  refine sh_getI (pc := 5) (g := 10) dX7_code_5 fl_X7_155 rfl is_119 rfl ?_
  obtain ⟨hb_1, h⟩ := h
  obtain ⟨hb_2, h⟩ := h
  refine sh_icmp_ge (pc := 8) (tgt := 23) dX7_code_8 (by decide) hb_1 hb_2 (fun q_3 => ?_) (fun q_3 => ?_)
  · replace h := h.1 q_3
    refine sh_iconst (pc := 23) (v := 0) dX7_code_23 rfl ?_
    exact k_iret dX7_code_24 rfl h
  · replace h := h.2 q_3
    refine sh_aload_n (pc := 11) dX7_code_11 rfl rfl ?_
    refine sh_getR (pc := 12) dX7_code_12 fl_X7_25 rfl is_119 pt_119_9 ?_
    refine sh_aload_n (pc := 15) dX7_code_15 rfl rfl ?_
    refine sh_getI (pc := 16) (g := 11) dX7_code_16 fl_X7_158 rfl is_119 rfl ?_
    obtain ⟨hi_4, h⟩ := h
    refine sh_iald (pc := 19) dX7_code_19 is_125 (by decide) hi_4 ?_
    refine sh_goto (pc := 20) (tgt := 24) dX7_code_20 (by decide) ?_
    exact k_iret dX7_code_24 rfl h
set_option maxRecDepth 100000 in
set_option maxHeartbeats 4000000 in
theorem eX7_takes {x1 : Int} {I : sh_Mem} {Q : Int → sh_Mem → Prop} (h : (sh_Bd (I 119 11) ∧ (sh_Bd (I 119 10) ∧ (((I 119 10) ≤ (I 119 11) → kk mX7_takes 29 [some (.inr 119), none, none] [.inl 0] I (qi Q)) ∧ ((I 119 11) < (I 119 10) → ((0 ≤ (I 119 11) ∧ (I 119 11) < (60 : Int)) ∧ (sh_Bd (I 125 (I 119 11)) ∧ (sh_Bd x1 ∧ ((¬ (I 125 (I 119 11)) = x1 → kk mX7_takes 29 [some (.inr 119), none, none] [.inl 0] I (qi Q)) ∧ ((I 125 (I 119 11)) = x1 → kk mX7_takes 29 [some (.inr 119), none, none] [.inl 1] I (qi Q))))))))))) : cc mX7_takes [.inr 119, .inl x1] I (qi Q) := by
  refine sh_call cd_X7_takes.2.2.2 (Nat.le_of_ble_eq_true rfl) ?_
  show kk mX7_takes 0 [some (.inr 119), some (.inl x1), none] [] I (qi Q)
  refine sh_aload_n (pc := 0) dX7_takes_0 rfl rfl ?_
  refine sh_getI (pc := 1) (g := 11) dX7_takes_1 fl_X7_158 rfl is_119 rfl ?_
  refine sh_aload_n (pc := 4) dX7_takes_4 rfl rfl ?_
  refine sh_getI (pc := 5) (g := 10) dX7_takes_5 fl_X7_155 rfl is_119 rfl ?_
  obtain ⟨hb_1, h⟩ := h
  obtain ⟨hb_2, h⟩ := h
  refine sh_icmp_ge (pc := 8) (tgt := 28) dX7_takes_8 (by decide) hb_1 hb_2 (fun q_3 => ?_) (fun q_3 => ?_)
  · replace h := h.1 q_3
    refine sh_iconst (pc := 28) (v := 0) dX7_takes_28 rfl ?_
    exact sh_O.locals h (sub_some (sub_none (sub_none sub_nil)))
  · replace h := h.2 q_3
    refine sh_aload_n (pc := 11) dX7_takes_11 rfl rfl ?_
    refine sh_getR (pc := 12) dX7_takes_12 fl_X7_25 rfl is_119 pt_119_9 ?_
    refine sh_aload_n (pc := 15) dX7_takes_15 rfl rfl ?_
    refine sh_getI (pc := 16) (g := 11) dX7_takes_16 fl_X7_158 rfl is_119 rfl ?_
    obtain ⟨hi_4, h⟩ := h
    refine sh_iald (pc := 19) dX7_takes_19 is_125 (by decide) hi_4 ?_
    refine sh_iload_n (pc := 20) dX7_takes_20 rfl rfl ?_
    obtain ⟨hb_5, h⟩ := h
    obtain ⟨hb_6, h⟩ := h
    refine sh_icmp_ne (pc := 21) (tgt := 28) dX7_takes_21 (by decide) hb_5 hb_6 (fun q_7 => ?_) (fun q_7 => ?_)
    · replace h := h.1 q_7
      refine sh_iconst (pc := 28) (v := 0) dX7_takes_28 rfl ?_
      exact sh_O.locals h (sub_some (sub_none (sub_none sub_nil)))
    · replace h := h.2 q_7
      refine sh_iconst (pc := 24) (v := 1) dX7_takes_24 rfl ?_
      refine sh_goto (pc := 25) (tgt := 29) dX7_takes_25 (by decide) ?_
      exact sh_O.locals h (sub_some (sub_none (sub_none sub_nil)))
set_option maxRecDepth 100000 in
set_option maxHeartbeats 4000000 in
theorem lX7_takes_29 {z0 : Int} {I : sh_Mem} {Q : Int → sh_Mem → Prop} (h : (sh_Bd z0 ∧ ((z0 = 0 → (sh_01 z0 ∧ Q z0 (sh_u I 119 11 ((I 119 11) + 0)))) ∧ (¬ z0 = 0 → (sh_01 z0 ∧ Q z0 (sh_u I 119 11 ((I 119 11) + 1))))))) : kk mX7_takes 29 [some (.inr 119), none, none] [.inl z0] I (qi Q) := by
  refine k_istore_n (pc := 29) [some (.inr 119), none, some (.inl z0)] dX7_takes_29 rfl rfl (by decide) ?_
  refine sh_aload_n (pc := 30) dX7_takes_30 rfl rfl ?_
  refine sh_dup (pc := 31) dX7_takes_31 ?_
  refine sh_getI (pc := 32) (g := 11) dX7_takes_32 fl_X7_158 rfl is_119 rfl ?_
  refine sh_iload_n (pc := 35) dX7_takes_35 rfl rfl ?_
  obtain ⟨hb_1, h⟩ := h
  refine sh_if_eq (pc := 36) (tgt := 43) dX7_takes_36 (by decide) hb_1  (fun q_2 => ?_) (fun q_2 => ?_)
  · replace h := h.1 q_2
    refine sh_iconst (pc := 43) (v := 0) dX7_takes_43 rfl ?_
    refine sh_iadd (pc := 44) dX7_takes_44 ?_
    refine k_putI (pc := 45) (g := 11) dX7_takes_45 fl_X7_158 rfl is_119 rfl ?_
    refine sh_iload_n (pc := 48) dX7_takes_48 rfl rfl ?_
    obtain ⟨hz_3, h⟩ := h
    exact k_zret dX7_takes_49 rfl hz_3 h
  · replace h := h.2 q_2
    refine sh_iconst (pc := 39) (v := 1) dX7_takes_39 rfl ?_
    refine sh_goto (pc := 40) (tgt := 44) dX7_takes_40 (by decide) ?_
    refine sh_iadd (pc := 44) dX7_takes_44 ?_
    refine k_putI (pc := 45) (g := 11) dX7_takes_45 fl_X7_158 rfl is_119 rfl ?_
    refine sh_iload_n (pc := 48) dX7_takes_48 rfl rfl ?_
    obtain ⟨hz_4, h⟩ := h
    exact k_zret dX7_takes_49 rfl hz_4 h
set_option maxRecDepth 100000 in
set_option maxHeartbeats 4000000 in
theorem eX7_isDigit  {I : sh_Mem} {Q : Int → sh_Mem → Prop} (h : (sh_Bd (I 119 11) ∧ (sh_Bd (I 119 10) ∧ (((I 119 10) ≤ (I 119 11) → Q 0 I) ∧ ((I 119 11) < (I 119 10) → ((0 ≤ (I 119 11) ∧ (I 119 11) < (60 : Int)) ∧ (cc mX7_in [.inl (I 125 (I 119 11)), .inl 48, .inl 57] I (qi fun v7 I5 => ((v7 = 1 ∧ Q 1 I5) ∨ (v7 = 0 ∧ Q 0 I5)))))))))) : cc mX7_isDigit [.inr 119] I (qi Q) := by
  refine sh_call cd_X7_isDigit.2.2.2 (Nat.le_of_ble_eq_true rfl) ?_
  show kk mX7_isDigit 0 [some (.inr 119)] [] I (qi Q)
  refine sh_aload_n (pc := 0) dX7_isDigit_0 rfl rfl ?_
  refine sh_getI (pc := 1) (g := 11) dX7_isDigit_1 fl_X7_158 rfl is_119 rfl ?_
  refine sh_aload_n (pc := 4) dX7_isDigit_4 rfl rfl ?_
  refine sh_getI (pc := 5) (g := 10) dX7_isDigit_5 fl_X7_155 rfl is_119 rfl ?_
  obtain ⟨hb_1, h⟩ := h
  obtain ⟨hb_2, h⟩ := h
  refine sh_icmp_ge (pc := 8) (tgt := 34) dX7_isDigit_8 (by decide) hb_1 hb_2 (fun q_3 => ?_) (fun q_3 => ?_)
  · replace h := h.1 q_3
    refine sh_iconst (pc := 34) (v := 0) dX7_isDigit_34 rfl ?_
    exact k_zret dX7_isDigit_35 rfl (Or.inl rfl) h
  · replace h := h.2 q_3
    refine sh_aload_n (pc := 11) dX7_isDigit_11 rfl rfl ?_
    refine sh_getR (pc := 12) dX7_isDigit_12 fl_X7_25 rfl is_119 pt_119_9 ?_
    refine sh_aload_n (pc := 15) dX7_isDigit_15 rfl rfl ?_
    refine sh_getI (pc := 16) (g := 11) dX7_isDigit_16 fl_X7_158 rfl is_119 rfl ?_
    obtain ⟨hi_4, h⟩ := h
    refine sh_iald (pc := 19) dX7_isDigit_19 is_125 (by decide) hi_4 ?_
    refine sh_bipush (pc := 20) (v := 48) dX7_isDigit_20 (by decide) ?_
    refine sh_bipush (pc := 22) (v := 57) dX7_isDigit_22 (by decide) ?_
    refine k_S3i (pc := 24) dX7_isDigit_24 lk_X7_51 rfl h (fun v7 I5 h => ?_)
    rcases h with ⟨rfl, h⟩ | ⟨rfl, h⟩
    · skip
      refine sh_if_eq (pc := 27) (tgt := 34) dX7_isDigit_27 (by decide) (bd_lit (by decide)) (fun qz => ?_) (fun qz => ?_)
      · exact absurd qz (by decide)
      · skip
        refine sh_iconst (pc := 30) (v := 1) dX7_isDigit_30 rfl ?_
        refine sh_goto (pc := 31) (tgt := 35) dX7_isDigit_31 (by decide) ?_
        exact k_zret dX7_isDigit_35 rfl (Or.inr rfl) h
    · skip
      refine sh_if_eq (pc := 27) (tgt := 34) dX7_isDigit_27 (by decide) (bd_lit (by decide)) (fun qz => ?_) (fun qz => ?_)
      · skip
        refine sh_iconst (pc := 34) (v := 0) dX7_isDigit_34 rfl ?_
        exact k_zret dX7_isDigit_35 rfl (Or.inl rfl) h
      · exact absurd qz (by decide)
set_option maxRecDepth 100000 in
set_option maxHeartbeats 4000000 in
theorem eX7_reads {x1 : Int} {x2 : Int} {I : sh_Mem} {Q : Int → sh_Mem → Prop} (h : (cc mX7_isDigit [.inr 119] I (qi fun v3 I1 => ((v3 = 1 ∧ (cc mX7_code [.inr 119] I1 (qi fun v6 I4 => (cc mX7_in [.inl (v6 - 48), .inl x1, .inl x2] I4 (qi fun v9 I7 => ((v9 = 1 ∧ (cc mX7_code [.inr 119] I7 (qi fun v12 I10 => kk mX7_reads 45 [some (.inr 119), none, some (.inl x2)] [] (sh_u (sh_u I10 119 12 (v12 - 48)) 119 11 ((I10 119 11) + 1)) (qi Q)))) ∨ (v9 = 0 ∧ Q 0 I7))))))) ∨ (v3 = 0 ∧ Q 0 I1))))) : cc mX7_reads [.inr 119, .inl x1, .inl x2] I (qi Q) := by
  refine sh_call cd_X7_reads.2.2.2 (Nat.le_of_ble_eq_true rfl) ?_
  show kk mX7_reads 0 [some (.inr 119), some (.inl x1), some (.inl x2)] [] I (qi Q)
  refine sh_aload_n (pc := 0) dX7_reads_0 rfl rfl ?_
  refine k_V0i (pc := 1) is_119 dX7_reads_1 lk_X7_161 rfl h (fun v3 I1 h => ?_)
  rcases h with ⟨rfl, h⟩ | ⟨rfl, h⟩
  · skip
    refine sh_if_eq (pc := 4) (tgt := 22) dX7_reads_4 (by decide) (bd_lit (by decide)) (fun qz => ?_) (fun qz => ?_)
    · exact absurd qz (by decide)
    · skip
      refine sh_aload_n (pc := 7) dX7_reads_7 rfl rfl ?_
      refine k_V0i (pc := 8) is_119 dX7_reads_8 lk_X7_165 rfl h (fun v6 I4 h => ?_)
      refine sh_bipush (pc := 11) (v := 48) dX7_reads_11 (by decide) ?_
      refine sh_isub (pc := 13) dX7_reads_13 ?_
      refine sh_iload_n (pc := 14) dX7_reads_14 rfl rfl ?_
      refine sh_iload_n (pc := 15) dX7_reads_15 rfl rfl ?_
      refine k_S3i (pc := 16) dX7_reads_16 lk_X7_51 rfl h (fun v9 I7 h => ?_)
      rcases h with ⟨rfl, h⟩ | ⟨rfl, h⟩
      · skip
        refine sh_if_ne (pc := 19) (tgt := 24) dX7_reads_19 (by decide) (bd_lit (by decide)) (fun qz => ?_) (fun qz => ?_)
        · skip
          refine sh_aload_n (pc := 24) dX7_reads_24 rfl rfl ?_
          refine sh_aload_n (pc := 25) dX7_reads_25 rfl rfl ?_
          refine k_V0i (pc := 26) is_119 dX7_reads_26 lk_X7_165 rfl h (fun v12 I10 h => ?_)
          refine sh_bipush (pc := 29) (v := 48) dX7_reads_29 (by decide) ?_
          refine sh_isub (pc := 31) dX7_reads_31 ?_
          refine k_putI (pc := 32) (g := 12) dX7_reads_32 fl_X7_168 rfl is_119 rfl ?_
          refine sh_aload_n (pc := 35) dX7_reads_35 rfl rfl ?_
          refine sh_dup (pc := 36) dX7_reads_36 ?_
          refine k_getI (pc := 37) (g := 11) (I10 119 11) dX7_reads_37 fl_X7_158 rfl is_119 rfl (by simp [sh_u]) ?_
          refine sh_iconst (pc := 40) (v := 1) dX7_reads_40 rfl ?_
          refine sh_iadd (pc := 41) dX7_reads_41 ?_
          refine k_putI (pc := 42) (g := 11) dX7_reads_42 fl_X7_158 rfl is_119 rfl ?_
          exact sh_O.locals h (sub_some (sub_none (sub_some sub_nil)))
        · exact absurd qz (by decide)
      · skip
        refine sh_if_ne (pc := 19) (tgt := 24) dX7_reads_19 (by decide) (bd_lit (by decide)) (fun qz => ?_) (fun qz => ?_)
        · exact absurd qz (by decide)
        · skip
          refine sh_iconst (pc := 22) (v := 0) dX7_reads_22 rfl ?_
          exact k_zret dX7_reads_23 rfl (Or.inl rfl) h
  · skip
    refine sh_if_eq (pc := 4) (tgt := 22) dX7_reads_4 (by decide) (bd_lit (by decide)) (fun qz => ?_) (fun qz => ?_)
    · skip
      refine sh_iconst (pc := 22) (v := 0) dX7_reads_22 rfl ?_
      exact k_zret dX7_reads_23 rfl (Or.inl rfl) h
    · exact absurd qz (by decide)
set_option maxRecDepth 100000 in
set_option maxHeartbeats 4000000 in
theorem lX7_reads_45 {y2 : Int} {I : sh_Mem} {Q : Int → sh_Mem → Prop} (h : (sh_Bd (I 119 12) ∧ (((I 119 12) ≤ 0 → Q 1 I) ∧ (0 < (I 119 12) → (cc mX7_isDigit [.inr 119] I (qi fun v5 I3 => ((v5 = 1 ∧ (cc mX7_code [.inr 119] I3 (qi fun v8 I6 => (sh_Bd (((10 * (I3 119 12)) + v8) - 48) ∧ (sh_Bd y2 ∧ ((y2 < (((10 * (I3 119 12)) + v8) - 48) → Q 1 I6) ∧ ((((10 * (I3 119 12)) + v8) - 48) ≤ y2 → (cc mX7_code [.inr 119] I6 (qi fun v14 I12 => kk mX7_reads 45 [some (.inr 119), none, some (.inl y2)] [] (sh_u (sh_u I12 119 12 (((10 * (I6 119 12)) + v14) - 48)) 119 11 ((I12 119 11) + 1)) (qi Q)))))))))) ∨ (v5 = 0 ∧ Q 1 I3)))))))) : kk mX7_reads 45 [some (.inr 119), none, some (.inl y2)] [] I (qi Q) := by
  refine sh_aload_n (pc := 45) dX7_reads_45 rfl rfl ?_
  refine sh_getI (pc := 46) (g := 12) dX7_reads_46 fl_X7_168 rfl is_119 rfl ?_
  obtain ⟨hb_1, h⟩ := h
  refine sh_if_le (pc := 49) (tgt := 110) dX7_reads_49 (by decide) hb_1  (fun q_2 => ?_) (fun q_2 => ?_)
  · replace h := h.1 q_2
    refine sh_iconst (pc := 110) (v := 1) dX7_reads_110 rfl ?_
    exact k_zret dX7_reads_111 rfl (Or.inr rfl) h
  · replace h := h.2 q_2
    refine sh_aload_n (pc := 52) dX7_reads_52 rfl rfl ?_
    refine k_V0i (pc := 53) is_119 dX7_reads_53 lk_X7_161 rfl h (fun v5 I3 h => ?_)
    rcases h with ⟨rfl, h⟩ | ⟨rfl, h⟩
    · skip
      refine sh_if_eq (pc := 56) (tgt := 110) dX7_reads_56 (by decide) (bd_lit (by decide)) (fun qz => ?_) (fun qz => ?_)
      · exact absurd qz (by decide)
      · skip
        refine sh_bipush (pc := 59) (v := 10) dX7_reads_59 (by decide) ?_
        refine sh_aload_n (pc := 61) dX7_reads_61 rfl rfl ?_
        refine sh_getI (pc := 62) (g := 12) dX7_reads_62 fl_X7_168 rfl is_119 rfl ?_
        refine sh_imul (pc := 65) dX7_reads_65 ?_
        refine sh_aload_n (pc := 66) dX7_reads_66 rfl rfl ?_
        refine k_V0i (pc := 67) is_119 dX7_reads_67 lk_X7_165 rfl h (fun v8 I6 h => ?_)
        refine sh_iadd (pc := 70) dX7_reads_70 ?_
        refine sh_bipush (pc := 71) (v := 48) dX7_reads_71 (by decide) ?_
        refine sh_isub (pc := 73) dX7_reads_73 ?_
        refine sh_iload_n (pc := 74) dX7_reads_74 rfl rfl ?_
        obtain ⟨hb_9, h⟩ := h
        obtain ⟨hb_10, h⟩ := h
        refine sh_icmp_gt (pc := 75) (tgt := 110) dX7_reads_75 (by decide) hb_9 hb_10 (fun q_11 => ?_) (fun q_11 => ?_)
        · replace h := h.1 q_11
          refine sh_iconst (pc := 110) (v := 1) dX7_reads_110 rfl ?_
          exact k_zret dX7_reads_111 rfl (Or.inr rfl) h
        · replace h := h.2 q_11
          refine sh_aload_n (pc := 78) dX7_reads_78 rfl rfl ?_
          refine sh_bipush (pc := 79) (v := 10) dX7_reads_79 (by decide) ?_
          refine sh_aload_n (pc := 81) dX7_reads_81 rfl rfl ?_
          refine sh_getI (pc := 82) (g := 12) dX7_reads_82 fl_X7_168 rfl is_119 rfl ?_
          refine sh_imul (pc := 85) dX7_reads_85 ?_
          refine sh_aload_n (pc := 86) dX7_reads_86 rfl rfl ?_
          refine k_V0i (pc := 87) is_119 dX7_reads_87 lk_X7_165 rfl h (fun v14 I12 h => ?_)
          refine sh_iadd (pc := 90) dX7_reads_90 ?_
          refine sh_bipush (pc := 91) (v := 48) dX7_reads_91 (by decide) ?_
          refine sh_isub (pc := 93) dX7_reads_93 ?_
          refine k_putI (pc := 94) (g := 12) dX7_reads_94 fl_X7_168 rfl is_119 rfl ?_
          refine sh_aload_n (pc := 97) dX7_reads_97 rfl rfl ?_
          refine sh_dup (pc := 98) dX7_reads_98 ?_
          refine k_getI (pc := 99) (g := 11) (I12 119 11) dX7_reads_99 fl_X7_158 rfl is_119 rfl (by simp [sh_u]) ?_
          refine sh_iconst (pc := 102) (v := 1) dX7_reads_102 rfl ?_
          refine sh_iadd (pc := 103) dX7_reads_103 ?_
          refine k_putI (pc := 104) (g := 11) dX7_reads_104 fl_X7_158 rfl is_119 rfl ?_
          refine sh_goto (pc := 107) (tgt := 45) dX7_reads_107 (by decide) ?_
          exact sh_O.locals h (sub_some (sub_none (sub_some sub_nil)))
    · skip
      refine sh_if_eq (pc := 56) (tgt := 110) dX7_reads_56 (by decide) (bd_lit (by decide)) (fun qz => ?_) (fun qz => ?_)
      · skip
        refine sh_iconst (pc := 110) (v := 1) dX7_reads_110 rfl ?_
        exact k_zret dX7_reads_111 rfl (Or.inr rfl) h
      · exact absurd qz (by decide)
set_option maxRecDepth 100000 in
set_option maxHeartbeats 4000000 in
theorem eX7_readsDirection  {I : sh_Mem} {Q : Int → sh_Mem → Prop} (h : (cc mX7_code [.inr 119] I (qi fun v3 I1 => (sh_Bd v3 ∧ ((¬ v3 = 110 → ((¬ v3 = 101 → ((¬ v3 = 115 → ((¬ v3 = 119 → kk mX7_readsDirection 54 [some (.inr 119), none] [.inl (-1), .inl (I1 119 13), .inr 128] I1 (qi Q)) ∧ (v3 = 119 → kk mX7_readsDirection 54 [some (.inr 119), none] [.inl 3, .inl (I1 119 13), .inr 128] I1 (qi Q)))) ∧ (v3 = 115 → kk mX7_readsDirection 54 [some (.inr 119), none] [.inl 2, .inl (I1 119 13), .inr 128] I1 (qi Q)))) ∧ (v3 = 101 → kk mX7_readsDirection 54 [some (.inr 119), none] [.inl 1, .inl (I1 119 13), .inr 128] I1 (qi Q)))) ∧ (v3 = 110 → kk mX7_readsDirection 54 [some (.inr 119), none] [.inl 0, .inl (I1 119 13), .inr 128] I1 (qi Q))))))) : cc mX7_readsDirection [.inr 119] I (qi Q) := by
  refine sh_call cd_X7_readsDirection.2.2.2 (Nat.le_of_ble_eq_true rfl) ?_
  show kk mX7_readsDirection 0 [some (.inr 119), none] [] I (qi Q)
  refine sh_aload_n (pc := 0) dX7_readsDirection_0 rfl rfl ?_
  refine k_V0i (pc := 1) is_119 dX7_readsDirection_1 lk_X7_165 rfl h (fun v3 I1 h => ?_)
  refine k_istore_n (pc := 4) [some (.inr 119), some (.inl v3)] dX7_readsDirection_4 rfl rfl (by decide) ?_
  refine sh_aload_n (pc := 5) dX7_readsDirection_5 rfl rfl ?_
  refine sh_getR (pc := 6) dX7_readsDirection_6 fl_X7_34 rfl is_119 pt_119_16 ?_
  refine sh_aload_n (pc := 9) dX7_readsDirection_9 rfl rfl ?_
  refine sh_getI (pc := 10) (g := 13) dX7_readsDirection_10 fl_X7_171 rfl is_119 rfl ?_
  refine sh_iload_n (pc := 13) dX7_readsDirection_13 rfl rfl ?_
  refine sh_bipush (pc := 14) (v := 110) dX7_readsDirection_14 (by decide) ?_
  obtain ⟨hb_4, h⟩ := h
  refine sh_icmp_ne (pc := 16) (tgt := 23) dX7_readsDirection_16 (by decide) hb_4 (bd_lit (by decide)) (fun q_5 => ?_) (fun q_5 => ?_)
  · replace h := h.1 q_5
    refine sh_iload_n (pc := 23) dX7_readsDirection_23 rfl rfl ?_
    refine sh_bipush (pc := 24) (v := 101) dX7_readsDirection_24 (by decide) ?_
    refine sh_icmp_ne (pc := 26) (tgt := 33) dX7_readsDirection_26 (by decide) hb_4 (bd_lit (by decide)) (fun q_6 => ?_) (fun q_6 => ?_)
    · replace h := h.1 q_6
      refine sh_iload_n (pc := 33) dX7_readsDirection_33 rfl rfl ?_
      refine sh_bipush (pc := 34) (v := 115) dX7_readsDirection_34 (by decide) ?_
      refine sh_icmp_ne (pc := 36) (tgt := 43) dX7_readsDirection_36 (by decide) hb_4 (bd_lit (by decide)) (fun q_7 => ?_) (fun q_7 => ?_)
      · replace h := h.1 q_7
        refine sh_iload_n (pc := 43) dX7_readsDirection_43 rfl rfl ?_
        refine sh_bipush (pc := 44) (v := 119) dX7_readsDirection_44 (by decide) ?_
        refine sh_icmp_ne (pc := 46) (tgt := 53) dX7_readsDirection_46 (by decide) hb_4 (bd_lit (by decide)) (fun q_8 => ?_) (fun q_8 => ?_)
        · replace h := h.1 q_8
          refine sh_iconst (pc := 53) (v := (-1)) dX7_readsDirection_53 rfl ?_
          exact sh_O.locals h (sub_some (sub_none sub_nil))
        · replace h := h.2 q_8
          refine sh_iconst (pc := 49) (v := 3) dX7_readsDirection_49 rfl ?_
          refine sh_goto (pc := 50) (tgt := 54) dX7_readsDirection_50 (by decide) ?_
          exact sh_O.locals h (sub_some (sub_none sub_nil))
      · replace h := h.2 q_7
        refine sh_iconst (pc := 39) (v := 2) dX7_readsDirection_39 rfl ?_
        refine sh_goto (pc := 40) (tgt := 54) dX7_readsDirection_40 (by decide) ?_
        exact sh_O.locals h (sub_some (sub_none sub_nil))
    · replace h := h.2 q_6
      refine sh_iconst (pc := 29) (v := 1) dX7_readsDirection_29 rfl ?_
      refine sh_goto (pc := 30) (tgt := 54) dX7_readsDirection_30 (by decide) ?_
      exact sh_O.locals h (sub_some (sub_none sub_nil))
  · replace h := h.2 q_5
    refine sh_iconst (pc := 19) (v := 0) dX7_readsDirection_19 rfl ?_
    refine sh_goto (pc := 20) (tgt := 54) dX7_readsDirection_20 (by decide) ?_
    exact sh_O.locals h (sub_some (sub_none sub_nil))
set_option maxRecDepth 100000 in
set_option maxHeartbeats 4000000 in
theorem lX7_readsDirection_54 {z1 : Int} {z2 : Int} {I : sh_Mem} {Q : Int → sh_Mem → Prop} (h : ((0 ≤ z1 ∧ z1 < (32 : Int)) ∧ (cc mX7_takes [.inr 119, .inl 110] (sh_u I 128 z1 z2) (qi fun v4 I2 => ((v4 = 1 ∧ Q 1 I2) ∨ (v4 = 0 ∧ (cc mX7_takes [.inr 119, .inl 101] I2 (qi fun v7 I5 => ((v7 = 1 ∧ Q 1 I5) ∨ (v7 = 0 ∧ (cc mX7_takes [.inr 119, .inl 115] I5 (qi fun v10 I8 => ((v10 = 1 ∧ Q 1 I8) ∨ (v10 = 0 ∧ (cc mX7_takes [.inr 119, .inl 119] I8 (qi fun v13 I11 => ((v13 = 1 ∧ Q 1 I11) ∨ (v13 = 0 ∧ (cc mX7_takes [.inr 119, .inl 45] I11 (qi fun v16 I14 => ((v16 = 1 ∧ Q 1 I14) ∨ (v16 = 0 ∧ Q 0 I14)))))))))))))))))))))) : kk mX7_readsDirection 54 [some (.inr 119), none] [.inl z2, .inl z1, .inr 128] I (qi Q) := by
  obtain ⟨hi_1, h⟩ := h
  refine sh_iast (pc := 54) dX7_readsDirection_54 is_128 (by decide) hi_1  ?_
  refine sh_aload_n (pc := 55) dX7_readsDirection_55 rfl rfl ?_
  refine sh_bipush (pc := 56) (v := 110) dX7_readsDirection_56 (by decide) ?_
  refine k_V1i (pc := 58) is_119 dX7_readsDirection_58 lk_X7_174 rfl h (fun v4 I2 h => ?_)
  rcases h with ⟨rfl, h⟩ | ⟨rfl, h⟩
  · skip
    refine sh_if_ne (pc := 61) (tgt := 100) dX7_readsDirection_61 (by decide) (bd_lit (by decide)) (fun qz => ?_) (fun qz => ?_)
    · skip
      refine sh_iconst (pc := 100) (v := 1) dX7_readsDirection_100 rfl ?_
      refine sh_goto (pc := 101) (tgt := 105) dX7_readsDirection_101 (by decide) ?_
      exact k_zret dX7_readsDirection_105 rfl (Or.inr rfl) h
    · exact absurd qz (by decide)
  · skip
    refine sh_if_ne (pc := 61) (tgt := 100) dX7_readsDirection_61 (by decide) (bd_lit (by decide)) (fun qz => ?_) (fun qz => ?_)
    · exact absurd qz (by decide)
    · skip
      refine sh_aload_n (pc := 64) dX7_readsDirection_64 rfl rfl ?_
      refine sh_bipush (pc := 65) (v := 101) dX7_readsDirection_65 (by decide) ?_
      refine k_V1i (pc := 67) is_119 dX7_readsDirection_67 lk_X7_174 rfl h (fun v7 I5 h => ?_)
      rcases h with ⟨rfl, h⟩ | ⟨rfl, h⟩
      · skip
        refine sh_if_ne (pc := 70) (tgt := 100) dX7_readsDirection_70 (by decide) (bd_lit (by decide)) (fun qz => ?_) (fun qz => ?_)
        · skip
          refine sh_iconst (pc := 100) (v := 1) dX7_readsDirection_100 rfl ?_
          refine sh_goto (pc := 101) (tgt := 105) dX7_readsDirection_101 (by decide) ?_
          exact k_zret dX7_readsDirection_105 rfl (Or.inr rfl) h
        · exact absurd qz (by decide)
      · skip
        refine sh_if_ne (pc := 70) (tgt := 100) dX7_readsDirection_70 (by decide) (bd_lit (by decide)) (fun qz => ?_) (fun qz => ?_)
        · exact absurd qz (by decide)
        · skip
          refine sh_aload_n (pc := 73) dX7_readsDirection_73 rfl rfl ?_
          refine sh_bipush (pc := 74) (v := 115) dX7_readsDirection_74 (by decide) ?_
          refine k_V1i (pc := 76) is_119 dX7_readsDirection_76 lk_X7_174 rfl h (fun v10 I8 h => ?_)
          rcases h with ⟨rfl, h⟩ | ⟨rfl, h⟩
          · skip
            refine sh_if_ne (pc := 79) (tgt := 100) dX7_readsDirection_79 (by decide) (bd_lit (by decide)) (fun qz => ?_) (fun qz => ?_)
            · skip
              refine sh_iconst (pc := 100) (v := 1) dX7_readsDirection_100 rfl ?_
              refine sh_goto (pc := 101) (tgt := 105) dX7_readsDirection_101 (by decide) ?_
              exact k_zret dX7_readsDirection_105 rfl (Or.inr rfl) h
            · exact absurd qz (by decide)
          · skip
            refine sh_if_ne (pc := 79) (tgt := 100) dX7_readsDirection_79 (by decide) (bd_lit (by decide)) (fun qz => ?_) (fun qz => ?_)
            · exact absurd qz (by decide)
            · skip
              refine sh_aload_n (pc := 82) dX7_readsDirection_82 rfl rfl ?_
              refine sh_bipush (pc := 83) (v := 119) dX7_readsDirection_83 (by decide) ?_
              refine k_V1i (pc := 85) is_119 dX7_readsDirection_85 lk_X7_174 rfl h (fun v13 I11 h => ?_)
              rcases h with ⟨rfl, h⟩ | ⟨rfl, h⟩
              · skip
                refine sh_if_ne (pc := 88) (tgt := 100) dX7_readsDirection_88 (by decide) (bd_lit (by decide)) (fun qz => ?_) (fun qz => ?_)
                · skip
                  refine sh_iconst (pc := 100) (v := 1) dX7_readsDirection_100 rfl ?_
                  refine sh_goto (pc := 101) (tgt := 105) dX7_readsDirection_101 (by decide) ?_
                  exact k_zret dX7_readsDirection_105 rfl (Or.inr rfl) h
                · exact absurd qz (by decide)
              · skip
                refine sh_if_ne (pc := 88) (tgt := 100) dX7_readsDirection_88 (by decide) (bd_lit (by decide)) (fun qz => ?_) (fun qz => ?_)
                · exact absurd qz (by decide)
                · skip
                  refine sh_aload_n (pc := 91) dX7_readsDirection_91 rfl rfl ?_
                  refine sh_bipush (pc := 92) (v := 45) dX7_readsDirection_92 (by decide) ?_
                  refine k_V1i (pc := 94) is_119 dX7_readsDirection_94 lk_X7_174 rfl h (fun v16 I14 h => ?_)
                  rcases h with ⟨rfl, h⟩ | ⟨rfl, h⟩
                  · skip
                    refine sh_if_eq (pc := 97) (tgt := 104) dX7_readsDirection_97 (by decide) (bd_lit (by decide)) (fun qz => ?_) (fun qz => ?_)
                    · exact absurd qz (by decide)
                    · skip
                      refine sh_iconst (pc := 100) (v := 1) dX7_readsDirection_100 rfl ?_
                      refine sh_goto (pc := 101) (tgt := 105) dX7_readsDirection_101 (by decide) ?_
                      exact k_zret dX7_readsDirection_105 rfl (Or.inr rfl) h
                  · skip
                    refine sh_if_eq (pc := 97) (tgt := 104) dX7_readsDirection_97 (by decide) (bd_lit (by decide)) (fun qz => ?_) (fun qz => ?_)
                    · skip
                      refine sh_iconst (pc := 104) (v := 0) dX7_readsDirection_104 rfl ?_
                      exact k_zret dX7_readsDirection_105 rfl (Or.inl rfl) h
                    · exact absurd qz (by decide)
set_option maxRecDepth 100000 in
set_option maxHeartbeats 4000000 in
theorem eX7_readsRest {x1 : Int} {I : sh_Mem} {Q : Int → sh_Mem → Prop} (h : (sh_Bd x1 ∧ ((¬ x1 = 114 → ((¬ x1 = 100 → ((¬ x1 = 108 → (cc mX7_reads [.inr 119, .inl 1, .inl 99] I (qi fun v7 I5 => kk mX7_readsRest 53 [some (.inr 119), some (.inl x1), none] [.inl v7] I5 (qi Q)))) ∧ (x1 = 108 → (cc mX7_reads [.inr 119, .inl 0, .inl 2] I (qi fun v10 I8 => kk mX7_readsRest 53 [some (.inr 119), some (.inl x1), none] [.inl v10] I8 (qi Q)))))) ∧ (x1 = 100 → (cc mX7_reads [.inr 119, .inl 0, .inl 5] I (qi fun v13 I11 => kk mX7_readsRest 53 [some (.inr 119), some (.inl x1), none] [.inl v13] I11 (qi Q)))))) ∧ (x1 = 114 → (cc mX7_reads [.inr 119, .inl 0, .inl 99] I (qi fun v16 I14 => kk mX7_readsRest 53 [some (.inr 119), some (.inl x1), none] [.inl v16] I14 (qi Q))))))) : cc mX7_readsRest [.inr 119, .inl x1] I (qi Q) := by
  refine sh_call cd_X7_readsRest.2.2.2 (Nat.le_of_ble_eq_true rfl) ?_
  show kk mX7_readsRest 0 [some (.inr 119), some (.inl x1), none] [] I (qi Q)
  refine sh_iload_n (pc := 0) dX7_readsRest_0 rfl rfl ?_
  refine sh_bipush (pc := 1) (v := 114) dX7_readsRest_1 (by decide) ?_
  obtain ⟨hb_1, h⟩ := h
  refine sh_icmp_ne (pc := 3) (tgt := 16) dX7_readsRest_3 (by decide) hb_1 (bd_lit (by decide)) (fun q_2 => ?_) (fun q_2 => ?_)
  · replace h := h.1 q_2
    refine sh_iload_n (pc := 16) dX7_readsRest_16 rfl rfl ?_
    refine sh_bipush (pc := 17) (v := 100) dX7_readsRest_17 (by decide) ?_
    refine sh_icmp_ne (pc := 19) (tgt := 31) dX7_readsRest_19 (by decide) hb_1 (bd_lit (by decide)) (fun q_3 => ?_) (fun q_3 => ?_)
    · replace h := h.1 q_3
      refine sh_iload_n (pc := 31) dX7_readsRest_31 rfl rfl ?_
      refine sh_bipush (pc := 32) (v := 108) dX7_readsRest_32 (by decide) ?_
      refine sh_icmp_ne (pc := 34) (tgt := 46) dX7_readsRest_34 (by decide) hb_1 (bd_lit (by decide)) (fun q_4 => ?_) (fun q_4 => ?_)
      · replace h := h.1 q_4
        refine sh_aload_n (pc := 46) dX7_readsRest_46 rfl rfl ?_
        refine sh_iconst (pc := 47) (v := 1) dX7_readsRest_47 rfl ?_
        refine sh_bipush (pc := 48) (v := 99) dX7_readsRest_48 (by decide) ?_
        refine k_V2i (pc := 50) is_119 dX7_readsRest_50 lk_X7_177 rfl h (fun v7 I5 h => ?_)
        exact sh_O.locals h (sub_some (sub_some (sub_none sub_nil)))
      · replace h := h.2 q_4
        refine sh_aload_n (pc := 37) dX7_readsRest_37 rfl rfl ?_
        refine sh_iconst (pc := 38) (v := 0) dX7_readsRest_38 rfl ?_
        refine sh_iconst (pc := 39) (v := 2) dX7_readsRest_39 rfl ?_
        refine k_V2i (pc := 40) is_119 dX7_readsRest_40 lk_X7_177 rfl h (fun v10 I8 h => ?_)
        refine sh_goto (pc := 43) (tgt := 53) dX7_readsRest_43 (by decide) ?_
        exact sh_O.locals h (sub_some (sub_some (sub_none sub_nil)))
    · replace h := h.2 q_3
      refine sh_aload_n (pc := 22) dX7_readsRest_22 rfl rfl ?_
      refine sh_iconst (pc := 23) (v := 0) dX7_readsRest_23 rfl ?_
      refine sh_iconst (pc := 24) (v := 5) dX7_readsRest_24 rfl ?_
      refine k_V2i (pc := 25) is_119 dX7_readsRest_25 lk_X7_177 rfl h (fun v13 I11 h => ?_)
      refine sh_goto (pc := 28) (tgt := 53) dX7_readsRest_28 (by decide) ?_
      exact sh_O.locals h (sub_some (sub_some (sub_none sub_nil)))
  · replace h := h.2 q_2
    refine sh_aload_n (pc := 6) dX7_readsRest_6 rfl rfl ?_
    refine sh_iconst (pc := 7) (v := 0) dX7_readsRest_7 rfl ?_
    refine sh_bipush (pc := 8) (v := 99) dX7_readsRest_8 (by decide) ?_
    refine k_V2i (pc := 10) is_119 dX7_readsRest_10 lk_X7_177 rfl h (fun v16 I14 h => ?_)
    refine sh_goto (pc := 13) (tgt := 53) dX7_readsRest_13 (by decide) ?_
    exact sh_O.locals h (sub_some (sub_some (sub_none sub_nil)))
set_option maxRecDepth 100000 in
set_option maxHeartbeats 4000000 in
theorem lX7_readsRest_53 {y1 : Int} {z0 : Int} {I : sh_Mem} {Q : Int → sh_Mem → Prop} (h : (sh_Bd z0 ∧ ((¬ z0 = 0 → ((0 ≤ (I 119 13) ∧ (I 119 13) < (32 : Int)) ∧ (sh_Bd y1 ∧ ((¬ y1 = 114 → ((¬ y1 = 100 → (cc mX7_code [.inr 119] (sh_u I 127 (I 119 13) (I 119 12)) (qi fun v9 I7 => (sh_Bd v9 ∧ ((¬ v9 = 43 → ((y1 = 46 → Q 1 (sh_u I7 128 (I 119 13) 0)) ∧ (¬ y1 = 46 → (cc mX7_takes [.inr 119, .inl 43] (sh_u I7 128 (I 119 13) 0) (qi fun v15 I13 => ((v15 = 1 ∧ Q 1 I13) ∨ (v15 = 0 ∧ (cc mX7_takes [.inr 119, .inl 45] I13 (qi fun v18 I16 => ((v18 = 1 ∧ Q 1 I16) ∨ (v18 = 0 ∧ Q 0 I16))))))))))) ∧ (v9 = 43 → ((y1 = 46 → Q 1 (sh_u I7 128 (I 119 13) 1)) ∧ (¬ y1 = 46 → (cc mX7_takes [.inr 119, .inl 43] (sh_u I7 128 (I 119 13) 1) (qi fun v22 I20 => ((v22 = 1 ∧ Q 1 I20) ∨ (v22 = 0 ∧ (cc mX7_takes [.inr 119, .inl 45] I20 (qi fun v25 I23 => ((v25 = 1 ∧ Q 1 I23) ∨ (v25 = 0 ∧ Q 0 I23)))))))))))))))) ∧ (y1 = 100 → (cc mX7_readsDirection [.inr 119] (sh_u I 127 (I 119 13) (I 119 12)) (qi fun v28 I26 => (sh_01 v28 ∧ Q v28 I26)))))) ∧ (y1 = 114 → (cc mX7_takes [.inr 119, .inl 104] (sh_u I 127 (I 119 13) (I 119 12)) (qi fun v32 I30 => ((v32 = 1 ∧ (cc mX7_reads [.inr 119, .inl 1, .inl 5] I30 (qi fun v35 I33 => ((v35 = 1 ∧ kk mX7_readsRest 102 [some (.inr 119), none, none] [.inl 1] I33 (qi Q)) ∨ (v35 = 0 ∧ kk mX7_readsRest 102 [some (.inr 119), none, none] [.inl 0] I33 (qi Q)))))) ∨ (v32 = 0 ∧ kk mX7_readsRest 102 [some (.inr 119), none, none] [.inl 0] I30 (qi Q)))))))))) ∧ (z0 = 0 → Q 0 I)))) : kk mX7_readsRest 53 [some (.inr 119), some (.inl y1), none] [.inl z0] I (qi Q) := by
  refine k_istore_n (pc := 53) [some (.inr 119), some (.inl y1), some (.inl z0)] dX7_readsRest_53 rfl rfl (by decide) ?_
  refine sh_iload_n (pc := 54) dX7_readsRest_54 rfl rfl ?_
  obtain ⟨hb_1, h⟩ := h
  refine sh_if_ne (pc := 55) (tgt := 60) dX7_readsRest_55 (by decide) hb_1  (fun q_2 => ?_) (fun q_2 => ?_)
  · replace h := h.1 q_2
    refine sh_aload_n (pc := 60) dX7_readsRest_60 rfl rfl ?_
    refine sh_getR (pc := 61) dX7_readsRest_61 fl_X7_31 rfl is_119 pt_119_15 ?_
    refine sh_aload_n (pc := 64) dX7_readsRest_64 rfl rfl ?_
    refine sh_getI (pc := 65) (g := 13) dX7_readsRest_65 fl_X7_171 rfl is_119 rfl ?_
    refine sh_aload_n (pc := 68) dX7_readsRest_68 rfl rfl ?_
    refine sh_getI (pc := 69) (g := 12) dX7_readsRest_69 fl_X7_168 rfl is_119 rfl ?_
    obtain ⟨hi_3, h⟩ := h
    refine sh_iast (pc := 72) dX7_readsRest_72 is_127 (by decide) hi_3  ?_
    refine sh_iload_n (pc := 73) dX7_readsRest_73 rfl rfl ?_
    refine sh_bipush (pc := 74) (v := 114) dX7_readsRest_74 (by decide) ?_
    obtain ⟨hb_4, h⟩ := h
    refine sh_icmp_ne (pc := 76) (tgt := 118) dX7_readsRest_76 (by decide) hb_4 (bd_lit (by decide)) (fun q_5 => ?_) (fun q_5 => ?_)
    · replace h := h.1 q_5
      refine sh_iload_n (pc := 118) dX7_readsRest_118 rfl rfl ?_
      refine sh_bipush (pc := 119) (v := 100) dX7_readsRest_119 (by decide) ?_
      refine sh_icmp_ne (pc := 121) (tgt := 129) dX7_readsRest_121 (by decide) hb_4 (bd_lit (by decide)) (fun q_6 => ?_) (fun q_6 => ?_)
      · replace h := h.1 q_6
        refine sh_aload_n (pc := 129) dX7_readsRest_129 rfl rfl ?_
        refine sh_getR (pc := 130) dX7_readsRest_130 fl_X7_34 rfl is_119 pt_119_16 ?_
        refine sh_aload_n (pc := 133) dX7_readsRest_133 rfl rfl ?_
        refine k_getI (pc := 134) (g := 13) (I 119 13) dX7_readsRest_134 fl_X7_171 rfl is_119 rfl (by simp [sh_u]) ?_
        refine sh_aload_n (pc := 137) dX7_readsRest_137 rfl rfl ?_
        refine k_V0i (pc := 138) is_119 dX7_readsRest_138 lk_X7_165 rfl h (fun v9 I7 h => ?_)
        refine sh_bipush (pc := 141) (v := 43) dX7_readsRest_141 (by decide) ?_
        obtain ⟨hb_10, h⟩ := h
        refine sh_icmp_ne (pc := 143) (tgt := 150) dX7_readsRest_143 (by decide) hb_10 (bd_lit (by decide)) (fun q_11 => ?_) (fun q_11 => ?_)
        · replace h := h.1 q_11
          refine sh_iconst (pc := 150) (v := 0) dX7_readsRest_150 rfl ?_
          refine sh_iast (pc := 151) dX7_readsRest_151 is_128 (by decide) hi_3  ?_
          refine sh_iload_n (pc := 152) dX7_readsRest_152 rfl rfl ?_
          refine sh_bipush (pc := 153) (v := 46) dX7_readsRest_153 (by decide) ?_
          refine sh_icmp_eq (pc := 155) (tgt := 176) dX7_readsRest_155 (by decide) hb_4 (bd_lit (by decide)) (fun q_12 => ?_) (fun q_12 => ?_)
          · replace h := h.1 q_12
            refine sh_iconst (pc := 176) (v := 1) dX7_readsRest_176 rfl ?_
            refine sh_goto (pc := 177) (tgt := 181) dX7_readsRest_177 (by decide) ?_
            exact k_zret dX7_readsRest_181 rfl (Or.inr rfl) h
          · replace h := h.2 q_12
            refine sh_aload_n (pc := 158) dX7_readsRest_158 rfl rfl ?_
            refine sh_bipush (pc := 159) (v := 43) dX7_readsRest_159 (by decide) ?_
            refine k_V1i (pc := 161) is_119 dX7_readsRest_161 lk_X7_174 rfl h (fun v15 I13 h => ?_)
            rcases h with ⟨rfl, h⟩ | ⟨rfl, h⟩
            · skip
              refine sh_if_ne (pc := 164) (tgt := 176) dX7_readsRest_164 (by decide) (bd_lit (by decide)) (fun qz => ?_) (fun qz => ?_)
              · skip
                refine sh_iconst (pc := 176) (v := 1) dX7_readsRest_176 rfl ?_
                refine sh_goto (pc := 177) (tgt := 181) dX7_readsRest_177 (by decide) ?_
                exact k_zret dX7_readsRest_181 rfl (Or.inr rfl) h
              · exact absurd qz (by decide)
            · skip
              refine sh_if_ne (pc := 164) (tgt := 176) dX7_readsRest_164 (by decide) (bd_lit (by decide)) (fun qz => ?_) (fun qz => ?_)
              · exact absurd qz (by decide)
              · skip
                refine sh_aload_n (pc := 167) dX7_readsRest_167 rfl rfl ?_
                refine sh_bipush (pc := 168) (v := 45) dX7_readsRest_168 (by decide) ?_
                refine k_V1i (pc := 170) is_119 dX7_readsRest_170 lk_X7_174 rfl h (fun v18 I16 h => ?_)
                rcases h with ⟨rfl, h⟩ | ⟨rfl, h⟩
                · skip
                  refine sh_if_eq (pc := 173) (tgt := 180) dX7_readsRest_173 (by decide) (bd_lit (by decide)) (fun qz => ?_) (fun qz => ?_)
                  · exact absurd qz (by decide)
                  · skip
                    refine sh_iconst (pc := 176) (v := 1) dX7_readsRest_176 rfl ?_
                    refine sh_goto (pc := 177) (tgt := 181) dX7_readsRest_177 (by decide) ?_
                    exact k_zret dX7_readsRest_181 rfl (Or.inr rfl) h
                · skip
                  refine sh_if_eq (pc := 173) (tgt := 180) dX7_readsRest_173 (by decide) (bd_lit (by decide)) (fun qz => ?_) (fun qz => ?_)
                  · skip
                    refine sh_iconst (pc := 180) (v := 0) dX7_readsRest_180 rfl ?_
                    exact k_zret dX7_readsRest_181 rfl (Or.inl rfl) h
                  · exact absurd qz (by decide)
        · replace h := h.2 q_11
          refine sh_iconst (pc := 146) (v := 1) dX7_readsRest_146 rfl ?_
          refine sh_goto (pc := 147) (tgt := 151) dX7_readsRest_147 (by decide) ?_
          refine sh_iast (pc := 151) dX7_readsRest_151 is_128 (by decide) hi_3  ?_
          refine sh_iload_n (pc := 152) dX7_readsRest_152 rfl rfl ?_
          refine sh_bipush (pc := 153) (v := 46) dX7_readsRest_153 (by decide) ?_
          refine sh_icmp_eq (pc := 155) (tgt := 176) dX7_readsRest_155 (by decide) hb_4 (bd_lit (by decide)) (fun q_19 => ?_) (fun q_19 => ?_)
          · replace h := h.1 q_19
            refine sh_iconst (pc := 176) (v := 1) dX7_readsRest_176 rfl ?_
            refine sh_goto (pc := 177) (tgt := 181) dX7_readsRest_177 (by decide) ?_
            exact k_zret dX7_readsRest_181 rfl (Or.inr rfl) h
          · replace h := h.2 q_19
            refine sh_aload_n (pc := 158) dX7_readsRest_158 rfl rfl ?_
            refine sh_bipush (pc := 159) (v := 43) dX7_readsRest_159 (by decide) ?_
            refine k_V1i (pc := 161) is_119 dX7_readsRest_161 lk_X7_174 rfl h (fun v22 I20 h => ?_)
            rcases h with ⟨rfl, h⟩ | ⟨rfl, h⟩
            · skip
              refine sh_if_ne (pc := 164) (tgt := 176) dX7_readsRest_164 (by decide) (bd_lit (by decide)) (fun qz => ?_) (fun qz => ?_)
              · skip
                refine sh_iconst (pc := 176) (v := 1) dX7_readsRest_176 rfl ?_
                refine sh_goto (pc := 177) (tgt := 181) dX7_readsRest_177 (by decide) ?_
                exact k_zret dX7_readsRest_181 rfl (Or.inr rfl) h
              · exact absurd qz (by decide)
            · skip
              refine sh_if_ne (pc := 164) (tgt := 176) dX7_readsRest_164 (by decide) (bd_lit (by decide)) (fun qz => ?_) (fun qz => ?_)
              · exact absurd qz (by decide)
              · skip
                refine sh_aload_n (pc := 167) dX7_readsRest_167 rfl rfl ?_
                refine sh_bipush (pc := 168) (v := 45) dX7_readsRest_168 (by decide) ?_
                refine k_V1i (pc := 170) is_119 dX7_readsRest_170 lk_X7_174 rfl h (fun v25 I23 h => ?_)
                rcases h with ⟨rfl, h⟩ | ⟨rfl, h⟩
                · skip
                  refine sh_if_eq (pc := 173) (tgt := 180) dX7_readsRest_173 (by decide) (bd_lit (by decide)) (fun qz => ?_) (fun qz => ?_)
                  · exact absurd qz (by decide)
                  · skip
                    refine sh_iconst (pc := 176) (v := 1) dX7_readsRest_176 rfl ?_
                    refine sh_goto (pc := 177) (tgt := 181) dX7_readsRest_177 (by decide) ?_
                    exact k_zret dX7_readsRest_181 rfl (Or.inr rfl) h
                · skip
                  refine sh_if_eq (pc := 173) (tgt := 180) dX7_readsRest_173 (by decide) (bd_lit (by decide)) (fun qz => ?_) (fun qz => ?_)
                  · skip
                    refine sh_iconst (pc := 180) (v := 0) dX7_readsRest_180 rfl ?_
                    exact k_zret dX7_readsRest_181 rfl (Or.inl rfl) h
                  · exact absurd qz (by decide)
      · replace h := h.2 q_6
        refine sh_aload_n (pc := 124) dX7_readsRest_124 rfl rfl ?_
        refine k_V0i (pc := 125) is_119 dX7_readsRest_125 lk_X7_180 rfl h (fun v28 I26 h => ?_)
        obtain ⟨hz_29, h⟩ := h
        exact k_zret dX7_readsRest_128 rfl hz_29 h
    · replace h := h.2 q_5
      refine sh_aload_n (pc := 79) dX7_readsRest_79 rfl rfl ?_
      refine sh_bipush (pc := 80) (v := 104) dX7_readsRest_80 (by decide) ?_
      refine k_V1i (pc := 82) is_119 dX7_readsRest_82 lk_X7_174 rfl h (fun v32 I30 h => ?_)
      rcases h with ⟨rfl, h⟩ | ⟨rfl, h⟩
      · skip
        refine sh_if_eq (pc := 85) (tgt := 101) dX7_readsRest_85 (by decide) (bd_lit (by decide)) (fun qz => ?_) (fun qz => ?_)
        · exact absurd qz (by decide)
        · skip
          refine sh_aload_n (pc := 88) dX7_readsRest_88 rfl rfl ?_
          refine sh_iconst (pc := 89) (v := 1) dX7_readsRest_89 rfl ?_
          refine sh_iconst (pc := 90) (v := 5) dX7_readsRest_90 rfl ?_
          refine k_V2i (pc := 91) is_119 dX7_readsRest_91 lk_X7_177 rfl h (fun v35 I33 h => ?_)
          rcases h with ⟨rfl, h⟩ | ⟨rfl, h⟩
          · skip
            refine sh_if_eq (pc := 94) (tgt := 101) dX7_readsRest_94 (by decide) (bd_lit (by decide)) (fun qz => ?_) (fun qz => ?_)
            · exact absurd qz (by decide)
            · skip
              refine sh_iconst (pc := 97) (v := 1) dX7_readsRest_97 rfl ?_
              refine sh_goto (pc := 98) (tgt := 102) dX7_readsRest_98 (by decide) ?_
              exact sh_O.locals h (sub_some (sub_none (sub_none sub_nil)))
          · skip
            refine sh_if_eq (pc := 94) (tgt := 101) dX7_readsRest_94 (by decide) (bd_lit (by decide)) (fun qz => ?_) (fun qz => ?_)
            · skip
              refine sh_iconst (pc := 101) (v := 0) dX7_readsRest_101 rfl ?_
              exact sh_O.locals h (sub_some (sub_none (sub_none sub_nil)))
            · exact absurd qz (by decide)
      · skip
        refine sh_if_eq (pc := 85) (tgt := 101) dX7_readsRest_85 (by decide) (bd_lit (by decide)) (fun qz => ?_) (fun qz => ?_)
        · skip
          refine sh_iconst (pc := 101) (v := 0) dX7_readsRest_101 rfl ?_
          exact sh_O.locals h (sub_some (sub_none (sub_none sub_nil)))
        · exact absurd qz (by decide)
  · replace h := h.2 q_2
    refine sh_iconst (pc := 58) (v := 0) dX7_readsRest_58 rfl ?_
    exact k_zret dX7_readsRest_59 rfl (Or.inl rfl) h
set_option maxRecDepth 100000 in
set_option maxHeartbeats 4000000 in
theorem lX7_readsRest_102 {z0 : Int} {I : sh_Mem} {Q : Int → sh_Mem → Prop} (h : ((0 ≤ (I 119 13) ∧ (I 119 13) < (32 : Int)) ∧ (sh_01 z0 ∧ Q z0 (sh_u I 128 (I 119 13) (I 119 12))))) : kk mX7_readsRest 102 [some (.inr 119), none, none] [.inl z0] I (qi Q) := by
  refine k_istore_n (pc := 102) [some (.inr 119), none, some (.inl z0)] dX7_readsRest_102 rfl rfl (by decide) ?_
  refine sh_aload_n (pc := 103) dX7_readsRest_103 rfl rfl ?_
  refine sh_getR (pc := 104) dX7_readsRest_104 fl_X7_34 rfl is_119 pt_119_16 ?_
  refine sh_aload_n (pc := 107) dX7_readsRest_107 rfl rfl ?_
  refine sh_getI (pc := 108) (g := 13) dX7_readsRest_108 fl_X7_171 rfl is_119 rfl ?_
  refine sh_aload_n (pc := 111) dX7_readsRest_111 rfl rfl ?_
  refine sh_getI (pc := 112) (g := 12) dX7_readsRest_112 fl_X7_168 rfl is_119 rfl ?_
  obtain ⟨hi_1, h⟩ := h
  refine sh_iast (pc := 115) dX7_readsRest_115 is_128 (by decide) hi_1  ?_
  refine sh_iload_n (pc := 116) dX7_readsRest_116 rfl rfl ?_
  obtain ⟨hz_2, h⟩ := h
  exact k_zret dX7_readsRest_117 rfl hz_2 h
set_option maxRecDepth 100000 in
set_option maxHeartbeats 4000000 in
theorem eX7_readsThing  {I : sh_Mem} {Q : Int → sh_Mem → Prop} (h : (cc mX7_code [.inr 119] I (qi fun v3 I1 => (cc mX7_takes [.inr 119, .inl 114] I1 (qi fun v6 I4 => ((v6 = 1 ∧ kk mX7_readsThing 41 [some (.inr 119), some (.inl v3), none] [] I4 (qi Q)) ∨ (v6 = 0 ∧ (cc mX7_takes [.inr 119, .inl 100] I4 (qi fun v9 I7 => ((v9 = 1 ∧ kk mX7_readsThing 41 [some (.inr 119), some (.inl v3), none] [] I7 (qi Q)) ∨ (v9 = 0 ∧ (cc mX7_takes [.inr 119, .inl 108] I7 (qi fun v12 I10 => ((v12 = 1 ∧ kk mX7_readsThing 41 [some (.inr 119), some (.inl v3), none] [] I10 (qi Q)) ∨ (v12 = 0 ∧ (cc mX7_takes [.inr 119, .inl 46] I10 (qi fun v15 I13 => ((v15 = 1 ∧ kk mX7_readsThing 41 [some (.inr 119), some (.inl v3), none] [] I13 (qi Q)) ∨ (v15 = 0 ∧ Q 0 I13))))))))))))))))))) : cc mX7_readsThing [.inr 119] I (qi Q) := by
  refine sh_call cd_X7_readsThing.2.2.2 (Nat.le_of_ble_eq_true rfl) ?_
  show kk mX7_readsThing 0 [some (.inr 119), none, none] [] I (qi Q)
  refine sh_aload_n (pc := 0) dX7_readsThing_0 rfl rfl ?_
  refine k_V0i (pc := 1) is_119 dX7_readsThing_1 lk_X7_165 rfl h (fun v3 I1 h => ?_)
  refine k_istore_n (pc := 4) [some (.inr 119), some (.inl v3), none] dX7_readsThing_4 rfl rfl (by decide) ?_
  refine sh_aload_n (pc := 5) dX7_readsThing_5 rfl rfl ?_
  refine sh_bipush (pc := 6) (v := 114) dX7_readsThing_6 (by decide) ?_
  refine k_V1i (pc := 8) is_119 dX7_readsThing_8 lk_X7_174 rfl h (fun v6 I4 h => ?_)
  rcases h with ⟨rfl, h⟩ | ⟨rfl, h⟩
  · skip
    refine sh_if_ne (pc := 11) (tgt := 41) dX7_readsThing_11 (by decide) (bd_lit (by decide)) (fun qz => ?_) (fun qz => ?_)
    · skip
      exact sh_O.locals h (sub_some (sub_some (sub_none sub_nil)))
    · exact absurd qz (by decide)
  · skip
    refine sh_if_ne (pc := 11) (tgt := 41) dX7_readsThing_11 (by decide) (bd_lit (by decide)) (fun qz => ?_) (fun qz => ?_)
    · exact absurd qz (by decide)
    · skip
      refine sh_aload_n (pc := 14) dX7_readsThing_14 rfl rfl ?_
      refine sh_bipush (pc := 15) (v := 100) dX7_readsThing_15 (by decide) ?_
      refine k_V1i (pc := 17) is_119 dX7_readsThing_17 lk_X7_174 rfl h (fun v9 I7 h => ?_)
      rcases h with ⟨rfl, h⟩ | ⟨rfl, h⟩
      · skip
        refine sh_if_ne (pc := 20) (tgt := 41) dX7_readsThing_20 (by decide) (bd_lit (by decide)) (fun qz => ?_) (fun qz => ?_)
        · skip
          exact sh_O.locals h (sub_some (sub_some (sub_none sub_nil)))
        · exact absurd qz (by decide)
      · skip
        refine sh_if_ne (pc := 20) (tgt := 41) dX7_readsThing_20 (by decide) (bd_lit (by decide)) (fun qz => ?_) (fun qz => ?_)
        · exact absurd qz (by decide)
        · skip
          refine sh_aload_n (pc := 23) dX7_readsThing_23 rfl rfl ?_
          refine sh_bipush (pc := 24) (v := 108) dX7_readsThing_24 (by decide) ?_
          refine k_V1i (pc := 26) is_119 dX7_readsThing_26 lk_X7_174 rfl h (fun v12 I10 h => ?_)
          rcases h with ⟨rfl, h⟩ | ⟨rfl, h⟩
          · skip
            refine sh_if_ne (pc := 29) (tgt := 41) dX7_readsThing_29 (by decide) (bd_lit (by decide)) (fun qz => ?_) (fun qz => ?_)
            · skip
              exact sh_O.locals h (sub_some (sub_some (sub_none sub_nil)))
            · exact absurd qz (by decide)
          · skip
            refine sh_if_ne (pc := 29) (tgt := 41) dX7_readsThing_29 (by decide) (bd_lit (by decide)) (fun qz => ?_) (fun qz => ?_)
            · exact absurd qz (by decide)
            · skip
              refine sh_aload_n (pc := 32) dX7_readsThing_32 rfl rfl ?_
              refine sh_bipush (pc := 33) (v := 46) dX7_readsThing_33 (by decide) ?_
              refine k_V1i (pc := 35) is_119 dX7_readsThing_35 lk_X7_174 rfl h (fun v15 I13 h => ?_)
              rcases h with ⟨rfl, h⟩ | ⟨rfl, h⟩
              · skip
                refine sh_if_eq (pc := 38) (tgt := 45) dX7_readsThing_38 (by decide) (bd_lit (by decide)) (fun qz => ?_) (fun qz => ?_)
                · exact absurd qz (by decide)
                · skip
                  exact sh_O.locals h (sub_some (sub_some (sub_none sub_nil)))
              · skip
                refine sh_if_eq (pc := 38) (tgt := 45) dX7_readsThing_38 (by decide) (bd_lit (by decide)) (fun qz => ?_) (fun qz => ?_)
                · skip
                  refine sh_iconst (pc := 45) (v := 0) dX7_readsThing_45 rfl ?_
                  refine k_istore_n (pc := 46) [some (.inr 119), some (.inl v3), some (.inl 0)] dX7_readsThing_46 rfl rfl (by decide) ?_
                  refine sh_iload_n (pc := 47) dX7_readsThing_47 rfl rfl ?_
                  refine sh_if_eq (pc := 48) (tgt := 59) dX7_readsThing_48 (by decide) (bd_lit (by decide))  (fun q_16 => ?_) (fun q_16 => ?_)
                  · skip
                    refine sh_iconst (pc := 59) (v := 0) dX7_readsThing_59 rfl ?_
                    exact k_zret dX7_readsThing_60 rfl (Or.inl rfl) h
                  · exact absurd q_16 (by decide)
                · exact absurd qz (by decide)
set_option maxRecDepth 100000 in
set_option maxHeartbeats 4000000 in
theorem lX7_readsThing_41 {y1 : Int} {I : sh_Mem} {Q : Int → sh_Mem → Prop} (h : (cc mX7_readsRest [.inr 119, .inl y1] I (qi fun v4 I2 => ((v4 = 1 ∧ ((0 ≤ (I2 119 13) ∧ (I2 119 13) < (32 : Int)) ∧ Q 1 (sh_u (sh_u I2 126 (I2 119 13) y1) 119 13 ((I2 119 13) + 1)))) ∨ (v4 = 0 ∧ Q 0 I2))))) : kk mX7_readsThing 41 [some (.inr 119), some (.inl y1), none] [] I (qi Q) := by
  refine sh_iconst (pc := 41) (v := 1) dX7_readsThing_41 rfl ?_
  refine sh_goto (pc := 42) (tgt := 46) dX7_readsThing_42 (by decide) ?_
  refine k_istore_n (pc := 46) [some (.inr 119), some (.inl y1), some (.inl 1)] dX7_readsThing_46 rfl rfl (by decide) ?_
  refine sh_iload_n (pc := 47) dX7_readsThing_47 rfl rfl ?_
  refine sh_if_eq (pc := 48) (tgt := 59) dX7_readsThing_48 (by decide) (bd_lit (by decide))  (fun q_1 => ?_) (fun q_1 => ?_)
  · exact absurd q_1 (by decide)
  · skip
    refine sh_aload_n (pc := 51) dX7_readsThing_51 rfl rfl ?_
    refine sh_iload_n (pc := 52) dX7_readsThing_52 rfl rfl ?_
    refine k_V1i (pc := 53) is_119 dX7_readsThing_53 lk_X7_183 rfl h (fun v4 I2 h => ?_)
    rcases h with ⟨rfl, h⟩ | ⟨rfl, h⟩
    · skip
      refine sh_if_ne (pc := 56) (tgt := 61) dX7_readsThing_56 (by decide) (bd_lit (by decide)) (fun qz => ?_) (fun qz => ?_)
      · skip
        refine sh_aload_n (pc := 61) dX7_readsThing_61 rfl rfl ?_
        refine sh_getR (pc := 62) dX7_readsThing_62 fl_X7_28 rfl is_119 pt_119_14 ?_
        refine sh_aload_n (pc := 65) dX7_readsThing_65 rfl rfl ?_
        refine sh_getI (pc := 66) (g := 13) dX7_readsThing_66 fl_X7_171 rfl is_119 rfl ?_
        refine sh_iload_n (pc := 69) dX7_readsThing_69 rfl rfl ?_
        obtain ⟨hi_5, h⟩ := h
        refine sh_iast (pc := 70) dX7_readsThing_70 is_126 (by decide) hi_5  ?_
        refine sh_aload_n (pc := 71) dX7_readsThing_71 rfl rfl ?_
        refine sh_dup (pc := 72) dX7_readsThing_72 ?_
        refine k_getI (pc := 73) (g := 13) (I2 119 13) dX7_readsThing_73 fl_X7_171 rfl is_119 rfl (by simp [sh_u]) ?_
        refine sh_iconst (pc := 76) (v := 1) dX7_readsThing_76 rfl ?_
        refine sh_iadd (pc := 77) dX7_readsThing_77 ?_
        refine k_putI (pc := 78) (g := 13) dX7_readsThing_78 fl_X7_171 rfl is_119 rfl ?_
        refine sh_iconst (pc := 81) (v := 1) dX7_readsThing_81 rfl ?_
        exact k_zret dX7_readsThing_82 rfl (Or.inr rfl) h
      · exact absurd qz (by decide)
    · skip
      refine sh_if_ne (pc := 56) (tgt := 61) dX7_readsThing_56 (by decide) (bd_lit (by decide)) (fun qz => ?_) (fun qz => ?_)
      · exact absurd qz (by decide)
      · skip
        refine sh_iconst (pc := 59) (v := 0) dX7_readsThing_59 rfl ?_
        exact k_zret dX7_readsThing_60 rfl (Or.inl rfl) h
set_option maxRecDepth 100000 in
set_option maxHeartbeats 4000000 in
theorem eX7_faultNow  {I : sh_Mem} {Q : Int → sh_Mem → Prop} (h : (cc mX7_readsThing [.inr 119] (sh_u (sh_u I 119 11 0) 119 13 0) (qi fun v3 I1 => kk mX7_faultNow 15 [some (.inr 119), some (.inl v3)] [] I1 (qi Q)))) : cc mX7_faultNow [.inr 119] I (qi Q) := by
  refine sh_call cd_X7_faultNow.2.2.2 (Nat.le_of_ble_eq_true rfl) ?_
  show kk mX7_faultNow 0 [some (.inr 119), none] [] I (qi Q)
  refine sh_aload_n (pc := 0) dX7_faultNow_0 rfl rfl ?_
  refine sh_iconst (pc := 1) (v := 0) dX7_faultNow_1 rfl ?_
  refine k_putI (pc := 2) (g := 11) dX7_faultNow_2 fl_X7_158 rfl is_119 rfl ?_
  refine sh_aload_n (pc := 5) dX7_faultNow_5 rfl rfl ?_
  refine sh_iconst (pc := 6) (v := 0) dX7_faultNow_6 rfl ?_
  refine k_putI (pc := 7) (g := 13) dX7_faultNow_7 fl_X7_171 rfl is_119 rfl ?_
  refine sh_aload_n (pc := 10) dX7_faultNow_10 rfl rfl ?_
  refine k_V0i (pc := 11) is_119 dX7_faultNow_11 lk_X7_186 rfl h (fun v3 I1 h => ?_)
  refine k_istore_n (pc := 14) [some (.inr 119), some (.inl v3)] dX7_faultNow_14 rfl rfl (by decide) ?_
  exact sh_O.locals h (sub_some (sub_some sub_nil))
set_option maxRecDepth 100000 in
set_option maxHeartbeats 4000000 in
theorem lX7_faultNow_15 {y1 : Int} {I : sh_Mem} {Q : Int → sh_Mem → Prop} (h : (sh_Bd y1 ∧ ((y1 = 0 → ((y1 = 0 → Q (I 119 11) I) ∧ (¬ y1 = 0 → (sh_Bd (I 119 11) ∧ (sh_Bd (I 119 10) ∧ ((¬ (I 119 11) = (I 119 10) → Q (I 119 11) I) ∧ ((I 119 11) = (I 119 10) → Q (-5) I))))))) ∧ (¬ y1 = 0 → (cc mX7_takes [.inr 119, .inl 59] I (qi fun v9 I7 => ((v9 = 1 ∧ (cc mX7_readsThing [.inr 119] I7 (qi fun v12 I10 => kk mX7_faultNow 15 [some (.inr 119), some (.inl v12)] [] I10 (qi Q)))) ∨ (v9 = 0 ∧ ((y1 = 0 → Q (I7 119 11) I7) ∧ (¬ y1 = 0 → (sh_Bd (I7 119 11) ∧ (sh_Bd (I7 119 10) ∧ ((¬ (I7 119 11) = (I7 119 10) → Q (I7 119 11) I7) ∧ ((I7 119 11) = (I7 119 10) → Q (-5) I7)))))))))))))) : kk mX7_faultNow 15 [some (.inr 119), some (.inl y1)] [] I (qi Q) := by
  refine sh_iload_n (pc := 15) dX7_faultNow_15 rfl rfl ?_
  obtain ⟨hb_1, h⟩ := h
  refine sh_if_eq (pc := 16) (tgt := 36) dX7_faultNow_16 (by decide) hb_1  (fun q_2 => ?_) (fun q_2 => ?_)
  · replace h := h.1 q_2
    refine sh_iload_n (pc := 36) dX7_faultNow_36 rfl rfl ?_
    refine sh_if_eq (pc := 37) (tgt := 56) dX7_faultNow_37 (by decide) hb_1  (fun q_3 => ?_) (fun q_3 => ?_)
    · replace h := h.1 q_3
      refine sh_aload_n (pc := 56) dX7_faultNow_56 rfl rfl ?_
      refine sh_getI (pc := 57) (g := 11) dX7_faultNow_57 fl_X7_158 rfl is_119 rfl ?_
      exact k_iret dX7_faultNow_60 rfl h
    · replace h := h.2 q_3
      refine sh_aload_n (pc := 40) dX7_faultNow_40 rfl rfl ?_
      refine sh_getI (pc := 41) (g := 11) dX7_faultNow_41 fl_X7_158 rfl is_119 rfl ?_
      refine sh_aload_n (pc := 44) dX7_faultNow_44 rfl rfl ?_
      refine sh_getI (pc := 45) (g := 10) dX7_faultNow_45 fl_X7_155 rfl is_119 rfl ?_
      obtain ⟨hb_4, h⟩ := h
      obtain ⟨hb_5, h⟩ := h
      refine sh_icmp_ne (pc := 48) (tgt := 56) dX7_faultNow_48 (by decide) hb_4 hb_5 (fun q_6 => ?_) (fun q_6 => ?_)
      · replace h := h.1 q_6
        refine sh_aload_n (pc := 56) dX7_faultNow_56 rfl rfl ?_
        refine sh_getI (pc := 57) (g := 11) dX7_faultNow_57 fl_X7_158 rfl is_119 rfl ?_
        exact k_iret dX7_faultNow_60 rfl h
      · replace h := h.2 q_6
        refine sh_bipush (pc := 51) (v := (-5)) dX7_faultNow_51 (by decide) ?_
        refine sh_goto (pc := 53) (tgt := 60) dX7_faultNow_53 (by decide) ?_
        exact k_iret dX7_faultNow_60 rfl h
  · replace h := h.2 q_2
    refine sh_aload_n (pc := 19) dX7_faultNow_19 rfl rfl ?_
    refine sh_bipush (pc := 20) (v := 59) dX7_faultNow_20 (by decide) ?_
    refine k_V1i (pc := 22) is_119 dX7_faultNow_22 lk_X7_174 rfl h (fun v9 I7 h => ?_)
    rcases h with ⟨rfl, h⟩ | ⟨rfl, h⟩
    · skip
      refine sh_if_eq (pc := 25) (tgt := 36) dX7_faultNow_25 (by decide) (bd_lit (by decide)) (fun qz => ?_) (fun qz => ?_)
      · exact absurd qz (by decide)
      · skip
        refine sh_aload_n (pc := 28) dX7_faultNow_28 rfl rfl ?_
        refine k_V0i (pc := 29) is_119 dX7_faultNow_29 lk_X7_186 rfl h (fun v12 I10 h => ?_)
        refine k_istore_n (pc := 32) [some (.inr 119), some (.inl v12)] dX7_faultNow_32 rfl rfl (by decide) ?_
        refine sh_goto (pc := 33) (tgt := 15) dX7_faultNow_33 (by decide) ?_
        exact sh_O.locals h (sub_some (sub_some sub_nil))
    · skip
      refine sh_if_eq (pc := 25) (tgt := 36) dX7_faultNow_25 (by decide) (bd_lit (by decide)) (fun qz => ?_) (fun qz => ?_)
      · skip
        refine sh_iload_n (pc := 36) dX7_faultNow_36 rfl rfl ?_
        refine sh_if_eq (pc := 37) (tgt := 56) dX7_faultNow_37 (by decide) hb_1  (fun q_13 => ?_) (fun q_13 => ?_)
        · replace h := h.1 q_13
          refine sh_aload_n (pc := 56) dX7_faultNow_56 rfl rfl ?_
          refine sh_getI (pc := 57) (g := 11) dX7_faultNow_57 fl_X7_158 rfl is_119 rfl ?_
          exact k_iret dX7_faultNow_60 rfl h
        · replace h := h.2 q_13
          refine sh_aload_n (pc := 40) dX7_faultNow_40 rfl rfl ?_
          refine sh_getI (pc := 41) (g := 11) dX7_faultNow_41 fl_X7_158 rfl is_119 rfl ?_
          refine sh_aload_n (pc := 44) dX7_faultNow_44 rfl rfl ?_
          refine sh_getI (pc := 45) (g := 10) dX7_faultNow_45 fl_X7_155 rfl is_119 rfl ?_
          obtain ⟨hb_14, h⟩ := h
          obtain ⟨hb_15, h⟩ := h
          refine sh_icmp_ne (pc := 48) (tgt := 56) dX7_faultNow_48 (by decide) hb_14 hb_15 (fun q_16 => ?_) (fun q_16 => ?_)
          · replace h := h.1 q_16
            refine sh_aload_n (pc := 56) dX7_faultNow_56 rfl rfl ?_
            refine sh_getI (pc := 57) (g := 11) dX7_faultNow_57 fl_X7_158 rfl is_119 rfl ?_
            exact k_iret dX7_faultNow_60 rfl h
          · replace h := h.2 q_16
            refine sh_bipush (pc := 51) (v := (-5)) dX7_faultNow_51 (by decide) ?_
            refine sh_goto (pc := 53) (tgt := 60) dX7_faultNow_53 (by decide) ?_
            exact k_iret dX7_faultNow_60 rfl h
      · exact absurd qz (by decide)
set_option maxRecDepth 100000 in
set_option maxHeartbeats 4000000 in
theorem eX7_doThing {x1 : Int} {I : sh_Mem} {Q : Int → sh_Mem → Prop} (h : ((0 ≤ x1 ∧ x1 < (32 : Int)) ∧ (sh_Bd (I 126 x1) ∧ (((I 126 x1) = 100 → (cc mX7_headNow [.inr 119, .inl (I 127 x1), .inl (I 128 x1)] I (qi fun v5 I3 => Q v5 I3))) ∧ (((I 126 x1) = 108 → (cc mX7_lightNow [.inr 119, .inl (I 127 x1), .inl (I 128 x1)] I (qi fun v9 I7 => Q v9 I7))) ∧ (((I 126 x1) = 114 → (cc mX7_comeNow [.inr 119, .inl (I 127 x1), .inl (I 128 x1)] I (qi fun v13 I11 => Q v13 I11))) ∧ ((¬ (I 126 x1) = 100 ∧ ¬ (I 126 x1) = 108 ∧ ¬ (I 126 x1) = 114) → (cc mX7_passNow [.inr 119, .inl (I 127 x1)] I (qi fun v17 I15 => Q v17 I15))))))))) : cc mX7_doThing [.inr 119, .inl x1] I (qi Q) := by
  refine sh_call cd_X7_doThing.2.2.2 (Nat.le_of_ble_eq_true rfl) ?_
  show kk mX7_doThing 0 [some (.inr 119), some (.inl x1)] [] I (qi Q)
  refine sh_aload_n (pc := 0) dX7_doThing_0 rfl rfl ?_
  refine sh_getR (pc := 1) dX7_doThing_1 fl_X7_28 rfl is_119 pt_119_14 ?_
  refine sh_iload_n (pc := 4) dX7_doThing_4 rfl rfl ?_
  obtain ⟨hi_1, h⟩ := h
  refine sh_iald (pc := 5) dX7_doThing_5 is_126 (by decide) hi_1 ?_
  obtain ⟨hb_2, h⟩ := h
  by_cases q_6 : (I 126 x1) = 100
  · refine sh_lookup (pc := 6) (off := 51) (tgt := 57) dX7_doThing_6 (by decide) hb_2 (by rw [q_6]; decide) (by decide) ?_
    replace h := h.1 q_6
    refine sh_aload_n (pc := 57) dX7_doThing_57 rfl rfl ?_
    refine sh_aload_n (pc := 58) dX7_doThing_58 rfl rfl ?_
    refine sh_getR (pc := 59) dX7_doThing_59 fl_X7_31 rfl is_119 pt_119_15 ?_
    refine sh_iload_n (pc := 62) dX7_doThing_62 rfl rfl ?_
    refine sh_iald (pc := 63) dX7_doThing_63 is_127 (by decide) hi_1 ?_
    refine sh_aload_n (pc := 64) dX7_doThing_64 rfl rfl ?_
    refine sh_getR (pc := 65) dX7_doThing_65 fl_X7_34 rfl is_119 pt_119_16 ?_
    refine sh_iload_n (pc := 68) dX7_doThing_68 rfl rfl ?_
    refine sh_iald (pc := 69) dX7_doThing_69 is_128 (by decide) hi_1 ?_
    refine k_V2i (pc := 70) is_119 dX7_doThing_70 lk_X7_139 rfl h (fun v5 I3 h => ?_)
    exact k_iret dX7_doThing_73 rfl h
  replace h := h.2
  by_cases q_10 : (I 126 x1) = 108
  · refine sh_lookup (pc := 6) (off := 68) (tgt := 74) dX7_doThing_6 (by decide) hb_2 (by rw [q_10]; decide) (by decide) ?_
    replace h := h.1 q_10
    refine sh_aload_n (pc := 74) dX7_doThing_74 rfl rfl ?_
    refine sh_aload_n (pc := 75) dX7_doThing_75 rfl rfl ?_
    refine sh_getR (pc := 76) dX7_doThing_76 fl_X7_31 rfl is_119 pt_119_15 ?_
    refine sh_iload_n (pc := 79) dX7_doThing_79 rfl rfl ?_
    refine sh_iald (pc := 80) dX7_doThing_80 is_127 (by decide) hi_1 ?_
    refine sh_aload_n (pc := 81) dX7_doThing_81 rfl rfl ?_
    refine sh_getR (pc := 82) dX7_doThing_82 fl_X7_34 rfl is_119 pt_119_16 ?_
    refine sh_iload_n (pc := 85) dX7_doThing_85 rfl rfl ?_
    refine sh_iald (pc := 86) dX7_doThing_86 is_128 (by decide) hi_1 ?_
    refine k_V2i (pc := 87) is_119 dX7_doThing_87 lk_X7_142 rfl h (fun v9 I7 h => ?_)
    exact k_iret dX7_doThing_90 rfl h
  replace h := h.2
  by_cases q_14 : (I 126 x1) = 114
  · refine sh_lookup (pc := 6) (off := 34) (tgt := 40) dX7_doThing_6 (by decide) hb_2 (by rw [q_14]; decide) (by decide) ?_
    replace h := h.1 q_14
    refine sh_aload_n (pc := 40) dX7_doThing_40 rfl rfl ?_
    refine sh_aload_n (pc := 41) dX7_doThing_41 rfl rfl ?_
    refine sh_getR (pc := 42) dX7_doThing_42 fl_X7_31 rfl is_119 pt_119_15 ?_
    refine sh_iload_n (pc := 45) dX7_doThing_45 rfl rfl ?_
    refine sh_iald (pc := 46) dX7_doThing_46 is_127 (by decide) hi_1 ?_
    refine sh_aload_n (pc := 47) dX7_doThing_47 rfl rfl ?_
    refine sh_getR (pc := 48) dX7_doThing_48 fl_X7_34 rfl is_119 pt_119_16 ?_
    refine sh_iload_n (pc := 51) dX7_doThing_51 rfl rfl ?_
    refine sh_iald (pc := 52) dX7_doThing_52 is_128 (by decide) hi_1 ?_
    refine k_V2i (pc := 53) is_119 dX7_doThing_53 lk_X7_133 rfl h (fun v13 I11 h => ?_)
    exact k_iret dX7_doThing_56 rfl h
  replace h := h.2
  refine sh_lookup (pc := 6) (off := 85) (tgt := 91) dX7_doThing_6 (by decide) hb_2 (by simp [Op.lookupswitch.offset_cons, Op.lookupswitch.offset_nil, (Ne.symm q_6), (Ne.symm q_10), (Ne.symm q_14)]) (by decide) ?_
  replace h := h ⟨q_6, q_10, q_14⟩
  refine sh_aload_n (pc := 91) dX7_doThing_91 rfl rfl ?_
  refine sh_aload_n (pc := 92) dX7_doThing_92 rfl rfl ?_
  refine sh_getR (pc := 93) dX7_doThing_93 fl_X7_31 rfl is_119 pt_119_15 ?_
  refine sh_iload_n (pc := 96) dX7_doThing_96 rfl rfl ?_
  refine sh_iald (pc := 97) dX7_doThing_97 is_127 (by decide) hi_1 ?_
  refine k_V1i (pc := 98) is_119 dX7_doThing_98 lk_X7_152 rfl h (fun v17 I15 h => ?_)
  exact k_iret dX7_doThing_101 rfl h
set_option maxRecDepth 100000 in
set_option maxHeartbeats 4000000 in
theorem eX7_perform  {I : sh_Mem} {Q : Int → sh_Mem → Prop} (h : (cc mX7_faultNow [.inr 119] I (qi fun v3 I1 => (sh_Bd v3 ∧ ((v3 = (-5) → (cc mX7_putAside [.inr 119] I1 (qv fun I6 => kk mX7_perform 22 [some (.inr 119), none, some (.inl 0), none] [] I6 (qi Q)))) ∧ (¬ v3 = (-5) → Q ((-100) - v3) I1)))))) : cc mX7_perform [.inr 119] I (qi Q) := by
  refine sh_call cd_X7_perform.2.2.2 (Nat.le_of_ble_eq_true rfl) ?_
  show kk mX7_perform 0 [some (.inr 119), none, none, none] [] I (qi Q)
  refine sh_aload_n (pc := 0) dX7_perform_0 rfl rfl ?_
  refine k_V0i (pc := 1) is_119 dX7_perform_1 lk_X7_189 rfl h (fun v3 I1 h => ?_)
  refine k_istore_n (pc := 4) [some (.inr 119), some (.inl v3), none, none] dX7_perform_4 rfl rfl (by decide) ?_
  refine sh_iload_n (pc := 5) dX7_perform_5 rfl rfl ?_
  refine sh_bipush (pc := 6) (v := (-5)) dX7_perform_6 (by decide) ?_
  obtain ⟨hb_4, h⟩ := h
  refine sh_icmp_eq (pc := 8) (tgt := 16) dX7_perform_8 (by decide) hb_4 (bd_lit (by decide)) (fun q_5 => ?_) (fun q_5 => ?_)
  · replace h := h.1 q_5
    refine sh_aload_n (pc := 16) dX7_perform_16 rfl rfl ?_
    refine k_V0v (pc := 17) is_119 dX7_perform_17 lk_X7_65 rfl h (fun I6 h => ?_)
    refine sh_iconst (pc := 20) (v := 0) dX7_perform_20 rfl ?_
    refine k_istore_n (pc := 21) [some (.inr 119), some (.inl v3), some (.inl 0), none] dX7_perform_21 rfl rfl (by decide) ?_
    exact sh_O.locals h (sub_some (sub_none (sub_some (sub_none sub_nil))))
  · replace h := h.2 q_5
    refine sh_bipush (pc := 11) (v := (-100)) dX7_perform_11 (by decide) ?_
    refine sh_iload_n (pc := 13) dX7_perform_13 rfl rfl ?_
    refine sh_isub (pc := 14) dX7_perform_14 ?_
    exact k_iret dX7_perform_15 rfl h
set_option maxRecDepth 100000 in
set_option maxHeartbeats 4000000 in
theorem lX7_perform_22 {y2 : Int} {I : sh_Mem} {Q : Int → sh_Mem → Prop} (h : (sh_Bd y2 ∧ (sh_Bd (I 119 13) ∧ (((I 119 13) ≤ y2 → (cc mX7_record [.inr 119] I (qv fun I4 => Q (I4 119 13) I4))) ∧ (y2 < (I 119 13) → (cc mX7_doThing [.inr 119, .inl y2] I (qi fun v8 I6 => (sh_Bd v8 ∧ ((0 ≤ v8 → kk mX7_perform 22 [some (.inr 119), none, some (.inl (y2 + 1)), none] [] I6 (qi Q)) ∧ (v8 < 0 → ((v8 = (-5) → kk mX7_perform 22 [some (.inr 119), none, some (.inl (y2 + 1)), none] [] I6 (qi Q)) ∧ (¬ v8 = (-5) → (cc mX7_putBack [.inr 119] I6 (qv fun I12 => Q (-4) (sh_u (sh_u I12 119 17 y2) 119 18 v8))))))))))))))) : kk mX7_perform 22 [some (.inr 119), none, some (.inl y2), none] [] I (qi Q) := by
  refine sh_iload_n (pc := 22) dX7_perform_22 rfl rfl ?_
  refine sh_aload_n (pc := 23) dX7_perform_23 rfl rfl ?_
  refine sh_getI (pc := 24) (g := 13) dX7_perform_24 fl_X7_171 rfl is_119 rfl ?_
  obtain ⟨hb_1, h⟩ := h
  obtain ⟨hb_2, h⟩ := h
  refine sh_icmp_ge (pc := 27) (tgt := 69) dX7_perform_27 (by decide) hb_1 hb_2 (fun q_3 => ?_) (fun q_3 => ?_)
  · replace h := h.1 q_3
    refine sh_aload_n (pc := 69) dX7_perform_69 rfl rfl ?_
    refine k_V0v (pc := 70) is_119 dX7_perform_70 lk_X7_58 rfl h (fun I4 h => ?_)
    refine sh_aload_n (pc := 73) dX7_perform_73 rfl rfl ?_
    refine sh_getI (pc := 74) (g := 13) dX7_perform_74 fl_X7_171 rfl is_119 rfl ?_
    exact k_iret dX7_perform_77 rfl h
  · replace h := h.2 q_3
    refine sh_aload_n (pc := 30) dX7_perform_30 rfl rfl ?_
    refine sh_iload_n (pc := 31) dX7_perform_31 rfl rfl ?_
    refine k_V1i (pc := 32) is_119 dX7_perform_32 lk_X7_192 rfl h (fun v8 I6 h => ?_)
    refine k_istore_n (pc := 35) [some (.inr 119), none, some (.inl y2), some (.inl v8)] dX7_perform_35 rfl rfl (by decide) ?_
    refine sh_iload_n (pc := 36) dX7_perform_36 rfl rfl ?_
    obtain ⟨hb_9, h⟩ := h
    refine sh_if_ge (pc := 37) (tgt := 63) dX7_perform_37 (by decide) hb_9  (fun q_10 => ?_) (fun q_10 => ?_)
    · replace h := h.1 q_10
      refine k_iinc (pc := 63) [some (.inr 119), none, some (.inl (y2 + 1)), some (.inl v8)] dX7_perform_63 rfl rfl (by decide) ?_
      refine sh_goto (pc := 66) (tgt := 22) dX7_perform_66 (by decide) ?_
      exact sh_O.locals h (sub_some (sub_none (sub_some (sub_none sub_nil))))
    · replace h := h.2 q_10
      refine sh_iload_n (pc := 40) dX7_perform_40 rfl rfl ?_
      refine sh_bipush (pc := 41) (v := (-5)) dX7_perform_41 (by decide) ?_
      refine sh_icmp_eq (pc := 43) (tgt := 63) dX7_perform_43 (by decide) hb_9 (bd_lit (by decide)) (fun q_11 => ?_) (fun q_11 => ?_)
      · replace h := h.1 q_11
        refine k_iinc (pc := 63) [some (.inr 119), none, some (.inl (y2 + 1)), some (.inl v8)] dX7_perform_63 rfl rfl (by decide) ?_
        refine sh_goto (pc := 66) (tgt := 22) dX7_perform_66 (by decide) ?_
        exact sh_O.locals h (sub_some (sub_none (sub_some (sub_none sub_nil))))
      · replace h := h.2 q_11
        refine sh_aload_n (pc := 46) dX7_perform_46 rfl rfl ?_
        refine k_V0v (pc := 47) is_119 dX7_perform_47 lk_X7_195 rfl h (fun I12 h => ?_)
        refine sh_aload_n (pc := 50) dX7_perform_50 rfl rfl ?_
        refine sh_iload_n (pc := 51) dX7_perform_51 rfl rfl ?_
        refine k_putI (pc := 52) (g := 17) dX7_perform_52 fl_X7_37 rfl is_119 rfl ?_
        refine sh_aload_n (pc := 55) dX7_perform_55 rfl rfl ?_
        refine sh_iload_n (pc := 56) dX7_perform_56 rfl rfl ?_
        refine k_putI (pc := 57) (g := 18) dX7_perform_57 fl_X7_41 rfl is_119 rfl ?_
        refine sh_bipush (pc := 60) (v := (-4)) dX7_perform_60 (by decide) ?_
        exact k_iret dX7_perform_62 rfl h
set_option maxRecDepth 100000 in
set_option maxHeartbeats 4000000 in
theorem eX7_stopped {x1 : Int} {I : sh_Mem} {Q : Int → sh_Mem → Prop} (h : (sh_Bd x1 ∧ ((¬ x1 = 0 → ((¬ x1 = 1 → Q (-2) I) ∧ (x1 = 1 → Q (I 119 18) I))) ∧ (x1 = 0 → Q (I 119 17) I)))) : cc mX7_stopped [.inr 119, .inl x1] I (qi Q) := by
  refine sh_call cd_X7_stopped.2.2.2 (Nat.le_of_ble_eq_true rfl) ?_
  show kk mX7_stopped 0 [some (.inr 119), some (.inl x1)] [] I (qi Q)
  refine sh_iload_n (pc := 0) dX7_stopped_0 rfl rfl ?_
  obtain ⟨hb_1, h⟩ := h
  refine sh_if_ne (pc := 1) (tgt := 11) dX7_stopped_1 (by decide) hb_1  (fun q_2 => ?_) (fun q_2 => ?_)
  · replace h := h.1 q_2
    refine sh_iload_n (pc := 11) dX7_stopped_11 rfl rfl ?_
    refine sh_iconst (pc := 12) (v := 1) dX7_stopped_12 rfl ?_
    refine sh_icmp_ne (pc := 13) (tgt := 23) dX7_stopped_13 (by decide) hb_1 (bd_lit (by decide)) (fun q_3 => ?_) (fun q_3 => ?_)
    · replace h := h.1 q_3
      refine sh_bipush (pc := 23) (v := (-2)) dX7_stopped_23 (by decide) ?_
      exact k_iret dX7_stopped_25 rfl h
    · replace h := h.2 q_3
      refine sh_aload_n (pc := 16) dX7_stopped_16 rfl rfl ?_
      refine sh_getI (pc := 17) (g := 18) dX7_stopped_17 fl_X7_41 rfl is_119 rfl ?_
      refine sh_goto (pc := 20) (tgt := 25) dX7_stopped_20 (by decide) ?_
      exact k_iret dX7_stopped_25 rfl h
  · replace h := h.2 q_2
    refine sh_aload_n (pc := 4) dX7_stopped_4 rfl rfl ?_
    refine sh_getI (pc := 5) (g := 17) dX7_stopped_5 fl_X7_37 rfl is_119 rfl ?_
    refine sh_goto (pc := 8) (tgt := 25) dX7_stopped_8 (by decide) ?_
    exact k_iret dX7_stopped_25 rfl h
set_option maxRecDepth 100000 in
set_option maxHeartbeats 4000000 in
theorem eX7_shadowsOn {x1 : Int} {x2 : Int} {x3 : Int} {I : sh_Mem} {Q : Int → sh_Mem → Prop} (h : kk mX7_shadowsOn 6 [some (.inr 119), some (.inl x1), some (.inl x2), some (.inl x3), some (.inl 0), some (.inl 0), none] [] I (qi Q)) : cc mX7_shadowsOn [.inr 119, .inl x1, .inl x2, .inl x3] I (qi Q) := by
  refine sh_call cd_X7_shadowsOn.2.2.2 (Nat.le_of_ble_eq_true rfl) ?_
  show kk mX7_shadowsOn 0 [some (.inr 119), some (.inl x1), some (.inl x2), some (.inl x3), none, none, none] [] I (qi Q)
  refine sh_iconst (pc := 0) (v := 0) dX7_shadowsOn_0 rfl ?_
  refine k_istore (pc := 1) [some (.inr 119), some (.inl x1), some (.inl x2), some (.inl x3), some (.inl 0), none, none] dX7_shadowsOn_1 rfl (by decide) ?_
  refine sh_iconst (pc := 3) (v := 0) dX7_shadowsOn_3 rfl ?_
  refine k_istore (pc := 4) [some (.inr 119), some (.inl x1), some (.inl x2), some (.inl x3), some (.inl 0), some (.inl 0), none] dX7_shadowsOn_4 rfl (by decide) ?_
  exact sh_O.locals h (sub_some (sub_some (sub_some (sub_some (sub_some (sub_some (sub_none sub_nil)))))))
set_option maxRecDepth 100000 in
set_option maxHeartbeats 4000000 in
theorem lX7_shadowsOn_6 {y1 : Int} {y2 : Int} {y3 : Int} {y4 : Int} {y5 : Int} {I : sh_Mem} {Q : Int → sh_Mem → Prop} (h : (sh_Bd y5 ∧ (sh_Bd ((I 120 20) * 3) ∧ ((((I 120 20) * 3) ≤ y5 → Q y4 I) ∧ (y5 < ((I 120 20) * 3) → (sh_Bd y2 ∧ ((y2 = (-5) → (sh_Bd y3 ∧ ((y3 = (-5) → kk mX7_shadowsOn 48 [some (.inr 119), some (.inl y1), some (.inl y2), some (.inl y3), some (.inl y4), some (.inl y5), none] [] I (qi Q)) ∧ (¬ y3 = (-5) → ((0 ≤ y5 ∧ y5 < 2147483648) ∧ (sh_Bd (y5 % 3) ∧ ((¬ y3 = (y5 % 3) → kk mX7_shadowsOn 52 [some (.inr 119), some (.inl y1), some (.inl y2), some (.inl y3), some (.inl y4), some (.inl y5), none] [] I (qi Q)) ∧ (y3 = (y5 % 3) → kk mX7_shadowsOn 48 [some (.inr 119), some (.inl y1), some (.inl y2), some (.inl y3), some (.inl y4), some (.inl y5), none] [] I (qi Q))))))))) ∧ (¬ y2 = (-5) → ((0 ≤ y5 ∧ y5 < 2147483648) ∧ (sh_Bd (y5 / 3) ∧ ((¬ y2 = (y5 / 3) → kk mX7_shadowsOn 52 [some (.inr 119), some (.inl y1), some (.inl y2), some (.inl y3), some (.inl y4), some (.inl y5), none] [] I (qi Q)) ∧ (y2 = (y5 / 3) → (sh_Bd y3 ∧ ((y3 = (-5) → kk mX7_shadowsOn 48 [some (.inr 119), some (.inl y1), some (.inl y2), some (.inl y3), some (.inl y4), some (.inl y5), none] [] I (qi Q)) ∧ (¬ y3 = (-5) → (sh_Bd (y5 % 3) ∧ ((¬ y3 = (y5 % 3) → kk mX7_shadowsOn 52 [some (.inr 119), some (.inl y1), some (.inl y2), some (.inl y3), some (.inl y4), some (.inl y5), none] [] I (qi Q)) ∧ (y3 = (y5 % 3) → kk mX7_shadowsOn 48 [some (.inr 119), some (.inl y1), some (.inl y2), some (.inl y3), some (.inl y4), some (.inl y5), none] [] I (qi Q))))))))))))))))))) : kk mX7_shadowsOn 6 [some (.inr 119), some (.inl y1), some (.inl y2), some (.inl y3), some (.inl y4), some (.inl y5), none] [] I (qi Q) := by
  refine sh_iload (pc := 6) dX7_shadowsOn_6 rfl ?_
  refine sh_aload_n (pc := 8) dX7_shadowsOn_8 rfl rfl ?_
  refine sh_getR (pc := 9) dX7_shadowsOn_9 fl_X7_7 rfl is_119 pt_119_0 ?_
  refine sh_bipush (pc := 12) (v := 20) dX7_shadowsOn_12 (by decide) ?_
  refine sh_iald (pc := 14) dX7_shadowsOn_14 is_120 (by decide) (by decide) ?_
  refine sh_iconst (pc := 15) (v := 3) dX7_shadowsOn_15 rfl ?_
  refine sh_imul (pc := 16) dX7_shadowsOn_16 ?_
  obtain ⟨hb_1, h⟩ := h
  obtain ⟨hb_2, h⟩ := h
  refine sh_icmp_ge (pc := 17) (tgt := 92) dX7_shadowsOn_17 (by decide) hb_1 hb_2 (fun q_3 => ?_) (fun q_3 => ?_)
  · replace h := h.1 q_3
    refine sh_iload (pc := 92) dX7_shadowsOn_92 rfl ?_
    exact k_iret dX7_shadowsOn_94 rfl h
  · replace h := h.2 q_3
    refine sh_iload_n (pc := 20) dX7_shadowsOn_20 rfl rfl ?_
    refine sh_bipush (pc := 21) (v := (-5)) dX7_shadowsOn_21 (by decide) ?_
    obtain ⟨hb_4, h⟩ := h
    refine sh_icmp_eq (pc := 23) (tgt := 34) dX7_shadowsOn_23 (by decide) hb_4 (bd_lit (by decide)) (fun q_5 => ?_) (fun q_5 => ?_)
    · replace h := h.1 q_5
      refine sh_iload_n (pc := 34) dX7_shadowsOn_34 rfl rfl ?_
      refine sh_bipush (pc := 35) (v := (-5)) dX7_shadowsOn_35 (by decide) ?_
      obtain ⟨hb_6, h⟩ := h
      refine sh_icmp_eq (pc := 37) (tgt := 48) dX7_shadowsOn_37 (by decide) hb_6 (bd_lit (by decide)) (fun q_7 => ?_) (fun q_7 => ?_)
      · replace h := h.1 q_7
        exact sh_O.locals h (sub_some (sub_some (sub_some (sub_some (sub_some (sub_some (sub_none sub_nil)))))))
      · replace h := h.2 q_7
        refine sh_iload_n (pc := 40) dX7_shadowsOn_40 rfl rfl ?_
        refine sh_iload (pc := 41) dX7_shadowsOn_41 rfl ?_
        refine sh_iconst (pc := 43) (v := 3) dX7_shadowsOn_43 rfl ?_
        obtain ⟨hn_8, h⟩ := h
        refine sh_irem (pc := 44) dX7_shadowsOn_44 hn_8.1 hn_8.2 (by decide) (by decide) ?_
        obtain ⟨hb_9, h⟩ := h
        refine sh_icmp_ne (pc := 45) (tgt := 52) dX7_shadowsOn_45 (by decide) hb_6 hb_9 (fun q_10 => ?_) (fun q_10 => ?_)
        · replace h := h.1 q_10
          exact sh_O.locals h (sub_some (sub_some (sub_some (sub_some (sub_some (sub_some (sub_none sub_nil)))))))
        · replace h := h.2 q_10
          exact sh_O.locals h (sub_some (sub_some (sub_some (sub_some (sub_some (sub_some (sub_none sub_nil)))))))
    · replace h := h.2 q_5
      refine sh_iload_n (pc := 26) dX7_shadowsOn_26 rfl rfl ?_
      refine sh_iload (pc := 27) dX7_shadowsOn_27 rfl ?_
      refine sh_iconst (pc := 29) (v := 3) dX7_shadowsOn_29 rfl ?_
      obtain ⟨hn_11, h⟩ := h
      refine sh_idiv (pc := 30) dX7_shadowsOn_30 hn_11.1 hn_11.2 (by decide) (by decide) ?_
      obtain ⟨hb_12, h⟩ := h
      refine sh_icmp_ne (pc := 31) (tgt := 52) dX7_shadowsOn_31 (by decide) hb_4 hb_12 (fun q_13 => ?_) (fun q_13 => ?_)
      · replace h := h.1 q_13
        exact sh_O.locals h (sub_some (sub_some (sub_some (sub_some (sub_some (sub_some (sub_none sub_nil)))))))
      · replace h := h.2 q_13
        refine sh_iload_n (pc := 34) dX7_shadowsOn_34 rfl rfl ?_
        refine sh_bipush (pc := 35) (v := (-5)) dX7_shadowsOn_35 (by decide) ?_
        obtain ⟨hb_14, h⟩ := h
        refine sh_icmp_eq (pc := 37) (tgt := 48) dX7_shadowsOn_37 (by decide) hb_14 (bd_lit (by decide)) (fun q_15 => ?_) (fun q_15 => ?_)
        · replace h := h.1 q_15
          exact sh_O.locals h (sub_some (sub_some (sub_some (sub_some (sub_some (sub_some (sub_none sub_nil)))))))
        · replace h := h.2 q_15
          refine sh_iload_n (pc := 40) dX7_shadowsOn_40 rfl rfl ?_
          refine sh_iload (pc := 41) dX7_shadowsOn_41 rfl ?_
          refine sh_iconst (pc := 43) (v := 3) dX7_shadowsOn_43 rfl ?_
          refine sh_irem (pc := 44) dX7_shadowsOn_44 hn_11.1 hn_11.2 (by decide) (by decide) ?_
          obtain ⟨hb_16, h⟩ := h
          refine sh_icmp_ne (pc := 45) (tgt := 52) dX7_shadowsOn_45 (by decide) hb_14 hb_16 (fun q_17 => ?_) (fun q_17 => ?_)
          · replace h := h.1 q_17
            exact sh_O.locals h (sub_some (sub_some (sub_some (sub_some (sub_some (sub_some (sub_none sub_nil)))))))
          · replace h := h.2 q_17
            exact sh_O.locals h (sub_some (sub_some (sub_some (sub_some (sub_some (sub_some (sub_none sub_nil)))))))
set_option maxRecDepth 100000 in
set_option maxHeartbeats 4000000 in
theorem lX7_shadowsOn_48 {y1 : Int} {y2 : Int} {y3 : Int} {y4 : Int} {y5 : Int} {I : sh_Mem} {Q : Int → sh_Mem → Prop} (h : ((0 ≤ y5 ∧ y5 < 2147483648) ∧ (cc mX7_isShaded [.inr 119, .inl (y5 / 3), .inl (y5 % 3), .inl y1] I (qi fun v5 I3 => ((v5 = 1 ∧ kk mX7_shadowsOn 6 [some (.inr 119), some (.inl y1), some (.inl y2), some (.inl y3), some (.inl (y4 + 1)), some (.inl (y5 + 1)), none] [] I3 (qi Q)) ∨ (v5 = 0 ∧ kk mX7_shadowsOn 82 [some (.inr 119), some (.inl y1), some (.inl y2), some (.inl y3), none, some (.inl y5), none] [.inl y4] I3 (qi Q))))))) : kk mX7_shadowsOn 48 [some (.inr 119), some (.inl y1), some (.inl y2), some (.inl y3), some (.inl y4), some (.inl y5), none] [] I (qi Q) := by
  refine sh_iconst (pc := 48) (v := 1) dX7_shadowsOn_48 rfl ?_
  refine sh_goto (pc := 49) (tgt := 53) dX7_shadowsOn_49 (by decide) ?_
  refine k_istore (pc := 53) [some (.inr 119), some (.inl y1), some (.inl y2), some (.inl y3), some (.inl y4), some (.inl y5), some (.inl 1)] dX7_shadowsOn_53 rfl (by decide) ?_
  refine sh_iload (pc := 55) dX7_shadowsOn_55 rfl ?_
  refine sh_iload (pc := 57) dX7_shadowsOn_57 rfl ?_
  refine sh_if_eq (pc := 59) (tgt := 82) dX7_shadowsOn_59 (by decide) (bd_lit (by decide))  (fun q_1 => ?_) (fun q_1 => ?_)
  · exact absurd q_1 (by decide)
  · skip
    refine sh_aload_n (pc := 62) dX7_shadowsOn_62 rfl rfl ?_
    refine sh_iload (pc := 63) dX7_shadowsOn_63 rfl ?_
    refine sh_iconst (pc := 65) (v := 3) dX7_shadowsOn_65 rfl ?_
    obtain ⟨hn_2, h⟩ := h
    refine sh_idiv (pc := 66) dX7_shadowsOn_66 hn_2.1 hn_2.2 (by decide) (by decide) ?_
    refine sh_iload (pc := 67) dX7_shadowsOn_67 rfl ?_
    refine sh_iconst (pc := 69) (v := 3) dX7_shadowsOn_69 rfl ?_
    refine sh_irem (pc := 70) dX7_shadowsOn_70 hn_2.1 hn_2.2 (by decide) (by decide) ?_
    refine sh_iload_n (pc := 71) dX7_shadowsOn_71 rfl rfl ?_
    refine k_V3i (pc := 72) is_119 dX7_shadowsOn_72 lk_X7_92 rfl h (fun v5 I3 h => ?_)
    rcases h with ⟨rfl, h⟩ | ⟨rfl, h⟩
    · skip
      refine sh_if_eq (pc := 75) (tgt := 82) dX7_shadowsOn_75 (by decide) (bd_lit (by decide)) (fun qz => ?_) (fun qz => ?_)
      · exact absurd qz (by decide)
      · skip
        refine sh_iconst (pc := 78) (v := 1) dX7_shadowsOn_78 rfl ?_
        refine sh_goto (pc := 79) (tgt := 83) dX7_shadowsOn_79 (by decide) ?_
        refine sh_iadd (pc := 83) dX7_shadowsOn_83 ?_
        refine k_istore (pc := 84) [some (.inr 119), some (.inl y1), some (.inl y2), some (.inl y3), some (.inl (y4 + 1)), some (.inl y5), some (.inl 1)] dX7_shadowsOn_84 rfl (by decide) ?_
        refine k_iinc (pc := 86) [some (.inr 119), some (.inl y1), some (.inl y2), some (.inl y3), some (.inl (y4 + 1)), some (.inl (y5 + 1)), some (.inl 1)] dX7_shadowsOn_86 rfl rfl (by decide) ?_
        refine sh_goto (pc := 89) (tgt := 6) dX7_shadowsOn_89 (by decide) ?_
        exact sh_O.locals h (sub_some (sub_some (sub_some (sub_some (sub_some (sub_some (sub_none sub_nil)))))))
    · skip
      refine sh_if_eq (pc := 75) (tgt := 82) dX7_shadowsOn_75 (by decide) (bd_lit (by decide)) (fun qz => ?_) (fun qz => ?_)
      · skip
        exact sh_O.locals h (sub_some (sub_some (sub_some (sub_some (sub_none (sub_some (sub_none sub_nil)))))))
      · exact absurd qz (by decide)
set_option maxRecDepth 100000 in
set_option maxHeartbeats 4000000 in
theorem lX7_shadowsOn_52 {y1 : Int} {y2 : Int} {y3 : Int} {y4 : Int} {y5 : Int} {I : sh_Mem} {Q : Int → sh_Mem → Prop} (h : kk mX7_shadowsOn 82 [some (.inr 119), some (.inl y1), some (.inl y2), some (.inl y3), none, some (.inl y5), none] [.inl y4] I (qi Q)) : kk mX7_shadowsOn 52 [some (.inr 119), some (.inl y1), some (.inl y2), some (.inl y3), some (.inl y4), some (.inl y5), none] [] I (qi Q) := by
  refine sh_iconst (pc := 52) (v := 0) dX7_shadowsOn_52 rfl ?_
  refine k_istore (pc := 53) [some (.inr 119), some (.inl y1), some (.inl y2), some (.inl y3), some (.inl y4), some (.inl y5), some (.inl 0)] dX7_shadowsOn_53 rfl (by decide) ?_
  refine sh_iload (pc := 55) dX7_shadowsOn_55 rfl ?_
  refine sh_iload (pc := 57) dX7_shadowsOn_57 rfl ?_
  refine sh_if_eq (pc := 59) (tgt := 82) dX7_shadowsOn_59 (by decide) (bd_lit (by decide))  (fun q_1 => ?_) (fun q_1 => ?_)
  · skip
    exact sh_O.locals h (sub_some (sub_some (sub_some (sub_some (sub_none (sub_some (sub_none sub_nil)))))))
  · exact absurd q_1 (by decide)
set_option maxRecDepth 100000 in
set_option maxHeartbeats 4000000 in
theorem lX7_shadowsOn_82 {y1 : Int} {y2 : Int} {y3 : Int} {y5 : Int} {z0 : Int} {I : sh_Mem} {Q : Int → sh_Mem → Prop} (h : kk mX7_shadowsOn 6 [some (.inr 119), some (.inl y1), some (.inl y2), some (.inl y3), some (.inl (z0 + 0)), some (.inl (y5 + 1)), none] [] I (qi Q)) : kk mX7_shadowsOn 82 [some (.inr 119), some (.inl y1), some (.inl y2), some (.inl y3), none, some (.inl y5), none] [.inl z0] I (qi Q) := by
  refine sh_iconst (pc := 82) (v := 0) dX7_shadowsOn_82 rfl ?_
  refine sh_iadd (pc := 83) dX7_shadowsOn_83 ?_
  refine k_istore (pc := 84) [some (.inr 119), some (.inl y1), some (.inl y2), some (.inl y3), some (.inl (z0 + 0)), some (.inl y5), none] dX7_shadowsOn_84 rfl (by decide) ?_
  refine k_iinc (pc := 86) [some (.inr 119), some (.inl y1), some (.inl y2), some (.inl y3), some (.inl (z0 + 0)), some (.inl (y5 + 1)), none] dX7_shadowsOn_86 rfl rfl (by decide) ?_
  refine sh_goto (pc := 89) (tgt := 6) dX7_shadowsOn_89 (by decide) ?_
  exact sh_O.locals h (sub_some (sub_some (sub_some (sub_some (sub_some (sub_some (sub_none sub_nil)))))))
set_option maxRecDepth 100000 in
set_option maxHeartbeats 4000000 in
theorem eX7_dark {x1 : Int} {x2 : Int} {I : sh_Mem} {Q : Int → sh_Mem → Prop} (h : kk mX7_dark 5 [some (.inr 119), some (.inl x1), some (.inl x2), some (.inl 0), some (.inl 0)] [] I (qi Q)) : cc mX7_dark [.inr 119, .inl x1, .inl x2] I (qi Q) := by
  refine sh_call cd_X7_dark.2.2.2 (Nat.le_of_ble_eq_true rfl) ?_
  show kk mX7_dark 0 [some (.inr 119), some (.inl x1), some (.inl x2), none, none] [] I (qi Q)
  refine sh_iconst (pc := 0) (v := 0) dX7_dark_0 rfl ?_
  refine k_istore_n (pc := 1) [some (.inr 119), some (.inl x1), some (.inl x2), some (.inl 0), none] dX7_dark_1 rfl rfl (by decide) ?_
  refine sh_iconst (pc := 2) (v := 0) dX7_dark_2 rfl ?_
  refine k_istore (pc := 3) [some (.inr 119), some (.inl x1), some (.inl x2), some (.inl 0), some (.inl 0)] dX7_dark_3 rfl (by decide) ?_
  exact sh_O.locals h (sub_some (sub_some (sub_some (sub_some (sub_some sub_nil)))))
set_option maxRecDepth 100000 in
set_option maxHeartbeats 4000000 in
theorem lX7_dark_5 {y1 : Int} {y2 : Int} {y3 : Int} {y4 : Int} {I : sh_Mem} {Q : Int → sh_Mem → Prop} (h : (sh_Bd y4 ∧ ((100 ≤ y4 → Q y3 I) ∧ (y4 < 100 → (cc mX7_shadowsOn [.inr 119, .inl y4, .inl y1, .inl y2] I (qi fun v5 I3 => (sh_Bd v5 ∧ ((v5 ≤ 0 → kk mX7_dark 5 [some (.inr 119), some (.inl y1), some (.inl y2), some (.inl (y3 + 0)), some (.inl (y4 + 1))] [] I3 (qi Q)) ∧ (0 < v5 → kk mX7_dark 5 [some (.inr 119), some (.inl y1), some (.inl y2), some (.inl (y3 + 1)), some (.inl (y4 + 1))] [] I3 (qi Q)))))))))) : kk mX7_dark 5 [some (.inr 119), some (.inl y1), some (.inl y2), some (.inl y3), some (.inl y4)] [] I (qi Q) := by
  refine sh_iload (pc := 5) dX7_dark_5 rfl ?_
  refine sh_bipush (pc := 7) (v := 100) dX7_dark_7 (by decide) ?_
  obtain ⟨hb_1, h⟩ := h
  refine sh_icmp_ge (pc := 9) (tgt := 37) dX7_dark_9 (by decide) hb_1 (bd_lit (by decide)) (fun q_2 => ?_) (fun q_2 => ?_)
  · replace h := h.1 q_2
    refine sh_iload_n (pc := 37) dX7_dark_37 rfl rfl ?_
    exact k_iret dX7_dark_38 rfl h
  · replace h := h.2 q_2
    refine sh_iload_n (pc := 12) dX7_dark_12 rfl rfl ?_
    refine sh_aload_n (pc := 13) dX7_dark_13 rfl rfl ?_
    refine sh_iload (pc := 14) dX7_dark_14 rfl ?_
    refine sh_iload_n (pc := 16) dX7_dark_16 rfl rfl ?_
    refine sh_iload_n (pc := 17) dX7_dark_17 rfl rfl ?_
    refine k_V3i (pc := 18) is_119 dX7_dark_18 lk_X7_198 rfl h (fun v5 I3 h => ?_)
    obtain ⟨hb_6, h⟩ := h
    refine sh_if_le (pc := 21) (tgt := 28) dX7_dark_21 (by decide) hb_6  (fun q_7 => ?_) (fun q_7 => ?_)
    · replace h := h.1 q_7
      refine sh_iconst (pc := 28) (v := 0) dX7_dark_28 rfl ?_
      refine sh_iadd (pc := 29) dX7_dark_29 ?_
      refine k_istore_n (pc := 30) [some (.inr 119), some (.inl y1), some (.inl y2), some (.inl (y3 + 0)), some (.inl y4)] dX7_dark_30 rfl rfl (by decide) ?_
      refine k_iinc (pc := 31) [some (.inr 119), some (.inl y1), some (.inl y2), some (.inl (y3 + 0)), some (.inl (y4 + 1))] dX7_dark_31 rfl rfl (by decide) ?_
      refine sh_goto (pc := 34) (tgt := 5) dX7_dark_34 (by decide) ?_
      exact sh_O.locals h (sub_some (sub_some (sub_some (sub_some (sub_some sub_nil)))))
    · replace h := h.2 q_7
      refine sh_iconst (pc := 24) (v := 1) dX7_dark_24 rfl ?_
      refine sh_goto (pc := 25) (tgt := 29) dX7_dark_25 (by decide) ?_
      refine sh_iadd (pc := 29) dX7_dark_29 ?_
      refine k_istore_n (pc := 30) [some (.inr 119), some (.inl y1), some (.inl y2), some (.inl (y3 + 1)), some (.inl y4)] dX7_dark_30 rfl rfl (by decide) ?_
      refine k_iinc (pc := 31) [some (.inr 119), some (.inl y1), some (.inl y2), some (.inl (y3 + 1)), some (.inl (y4 + 1))] dX7_dark_31 rfl rfl (by decide) ?_
      refine sh_goto (pc := 34) (tgt := 5) dX7_dark_34 (by decide) ?_
      exact sh_O.locals h (sub_some (sub_some (sub_some (sub_some (sub_some sub_nil)))))
set_option maxRecDepth 100000 in
set_option maxHeartbeats 4000000 in
theorem eX7_runner {x1 : Int} {x2 : Int} {I : sh_Mem} {Q : Int → sh_Mem → Prop} (h : (cc mX7_isRunner [.inr 119, .inl x1] I (qi fun v3 I1 => ((v3 = 1 ∧ (sh_Bd x2 ∧ ((¬ x2 = 7 → (cc mX7_in [.inl x2, .inl 0, .inl 6] I1 (qi fun v8 I6 => ((v8 = 1 ∧ (cc mX7_of [.inr 119, .inl x1, .inl x2] I6 (qi fun v11 I9 => Q v11 I9))) ∨ (v8 = 0 ∧ Q (-2) I6))))) ∧ (x2 = 7 → (cc mX7_dark [.inr 119, .inl x1, .inl (-5)] I1 (qi fun v14 I12 => Q v14 I12)))))) ∨ (v3 = 0 ∧ Q (-1) I1))))) : cc mX7_runner [.inr 119, .inl x1, .inl x2] I (qi Q) := by
  refine sh_call cd_X7_runner.2.2.2 (Nat.le_of_ble_eq_true rfl) ?_
  show kk mX7_runner 0 [some (.inr 119), some (.inl x1), some (.inl x2)] [] I (qi Q)
  refine sh_aload_n (pc := 0) dX7_runner_0 rfl rfl ?_
  refine sh_iload_n (pc := 1) dX7_runner_1 rfl rfl ?_
  refine k_V1i (pc := 2) is_119 dX7_runner_2 lk_X7_120 rfl h (fun v3 I1 h => ?_)
  rcases h with ⟨rfl, h⟩ | ⟨rfl, h⟩
  · skip
    refine sh_if_ne (pc := 5) (tgt := 10) dX7_runner_5 (by decide) (bd_lit (by decide)) (fun qz => ?_) (fun qz => ?_)
    · skip
      refine sh_iload_n (pc := 10) dX7_runner_10 rfl rfl ?_
      refine sh_bipush (pc := 11) (v := 7) dX7_runner_11 (by decide) ?_
      obtain ⟨hb_4, h⟩ := h
      refine sh_icmp_ne (pc := 13) (tgt := 26) dX7_runner_13 (by decide) hb_4 (bd_lit (by decide)) (fun q_5 => ?_) (fun q_5 => ?_)
      · replace h := h.1 q_5
        refine sh_iload_n (pc := 26) dX7_runner_26 rfl rfl ?_
        refine sh_iconst (pc := 27) (v := 0) dX7_runner_27 rfl ?_
        refine sh_bipush (pc := 28) (v := 6) dX7_runner_28 (by decide) ?_
        refine k_S3i (pc := 30) dX7_runner_30 lk_X7_51 rfl h (fun v8 I6 h => ?_)
        rcases h with ⟨rfl, h⟩ | ⟨rfl, h⟩
        · skip
          refine sh_if_eq (pc := 33) (tgt := 45) dX7_runner_33 (by decide) (bd_lit (by decide)) (fun qz => ?_) (fun qz => ?_)
          · exact absurd qz (by decide)
          · skip
            refine sh_aload_n (pc := 36) dX7_runner_36 rfl rfl ?_
            refine sh_iload_n (pc := 37) dX7_runner_37 rfl rfl ?_
            refine sh_iload_n (pc := 38) dX7_runner_38 rfl rfl ?_
            refine k_V2i (pc := 39) is_119 dX7_runner_39 lk_X7_68 rfl h (fun v11 I9 h => ?_)
            refine sh_goto (pc := 42) (tgt := 47) dX7_runner_42 (by decide) ?_
            exact k_iret dX7_runner_47 rfl h
        · skip
          refine sh_if_eq (pc := 33) (tgt := 45) dX7_runner_33 (by decide) (bd_lit (by decide)) (fun qz => ?_) (fun qz => ?_)
          · skip
            refine sh_bipush (pc := 45) (v := (-2)) dX7_runner_45 (by decide) ?_
            exact k_iret dX7_runner_47 rfl h
          · exact absurd qz (by decide)
      · replace h := h.2 q_5
        refine sh_aload_n (pc := 16) dX7_runner_16 rfl rfl ?_
        refine sh_iload_n (pc := 17) dX7_runner_17 rfl rfl ?_
        refine sh_bipush (pc := 18) (v := (-5)) dX7_runner_18 (by decide) ?_
        refine k_V2i (pc := 20) is_119 dX7_runner_20 lk_X7_201 rfl h (fun v14 I12 h => ?_)
        refine sh_goto (pc := 23) (tgt := 47) dX7_runner_23 (by decide) ?_
        exact k_iret dX7_runner_47 rfl h
    · exact absurd qz (by decide)
  · skip
    refine sh_if_ne (pc := 5) (tgt := 10) dX7_runner_5 (by decide) (bd_lit (by decide)) (fun qz => ?_) (fun qz => ?_)
    · exact absurd qz (by decide)
    · skip
      refine sh_iconst (pc := 8) (v := (-1)) dX7_runner_8 rfl ?_
      exact k_iret dX7_runner_9 rfl h
set_option maxRecDepth 100000 in
set_option maxHeartbeats 4000000 in
theorem eX7_lamp {x1 : Int} {x2 : Int} {I : sh_Mem} {Q : Int → sh_Mem → Prop} (h : (cc mX7_isLamp [.inl x1] I (qi fun v3 I1 => ((v3 = 1 ∧ (sh_Bd x2 ∧ ((¬ x2 = 4 → (cc mX7_in [.inl x2, .inl 0, .inl 3] I1 (qi fun v8 I6 => ((v8 = 1 ∧ (cc mX7_ofLamp [.inr 119, .inl x1, .inl x2] I6 (qi fun v11 I9 => Q v11 I9))) ∨ (v8 = 0 ∧ Q (-2) I6))))) ∧ (x2 = 4 → (cc mX7_dark [.inr 119, .inl (-5), .inl x1] I1 (qi fun v14 I12 => Q v14 I12)))))) ∨ (v3 = 0 ∧ Q (-1) I1))))) : cc mX7_lamp [.inr 119, .inl x1, .inl x2] I (qi Q) := by
  refine sh_call cd_X7_lamp.2.2.2 (Nat.le_of_ble_eq_true rfl) ?_
  show kk mX7_lamp 0 [some (.inr 119), some (.inl x1), some (.inl x2)] [] I (qi Q)
  refine sh_iload_n (pc := 0) dX7_lamp_0 rfl rfl ?_
  refine k_S1i (pc := 1) dX7_lamp_1 lk_X7_123 rfl h (fun v3 I1 h => ?_)
  rcases h with ⟨rfl, h⟩ | ⟨rfl, h⟩
  · skip
    refine sh_if_ne (pc := 4) (tgt := 9) dX7_lamp_4 (by decide) (bd_lit (by decide)) (fun qz => ?_) (fun qz => ?_)
    · skip
      refine sh_iload_n (pc := 9) dX7_lamp_9 rfl rfl ?_
      refine sh_iconst (pc := 10) (v := 4) dX7_lamp_10 rfl ?_
      obtain ⟨hb_4, h⟩ := h
      refine sh_icmp_ne (pc := 11) (tgt := 24) dX7_lamp_11 (by decide) hb_4 (bd_lit (by decide)) (fun q_5 => ?_) (fun q_5 => ?_)
      · replace h := h.1 q_5
        refine sh_iload_n (pc := 24) dX7_lamp_24 rfl rfl ?_
        refine sh_iconst (pc := 25) (v := 0) dX7_lamp_25 rfl ?_
        refine sh_iconst (pc := 26) (v := 3) dX7_lamp_26 rfl ?_
        refine k_S3i (pc := 27) dX7_lamp_27 lk_X7_51 rfl h (fun v8 I6 h => ?_)
        rcases h with ⟨rfl, h⟩ | ⟨rfl, h⟩
        · skip
          refine sh_if_eq (pc := 30) (tgt := 42) dX7_lamp_30 (by decide) (bd_lit (by decide)) (fun qz => ?_) (fun qz => ?_)
          · exact absurd qz (by decide)
          · skip
            refine sh_aload_n (pc := 33) dX7_lamp_33 rfl rfl ?_
            refine sh_iload_n (pc := 34) dX7_lamp_34 rfl rfl ?_
            refine sh_iload_n (pc := 35) dX7_lamp_35 rfl rfl ?_
            refine k_V2i (pc := 36) is_119 dX7_lamp_36 lk_X7_78 rfl h (fun v11 I9 h => ?_)
            refine sh_goto (pc := 39) (tgt := 44) dX7_lamp_39 (by decide) ?_
            exact k_iret dX7_lamp_44 rfl h
        · skip
          refine sh_if_eq (pc := 30) (tgt := 42) dX7_lamp_30 (by decide) (bd_lit (by decide)) (fun qz => ?_) (fun qz => ?_)
          · skip
            refine sh_bipush (pc := 42) (v := (-2)) dX7_lamp_42 (by decide) ?_
            exact k_iret dX7_lamp_44 rfl h
          · exact absurd qz (by decide)
      · replace h := h.2 q_5
        refine sh_aload_n (pc := 14) dX7_lamp_14 rfl rfl ?_
        refine sh_bipush (pc := 15) (v := (-5)) dX7_lamp_15 (by decide) ?_
        refine sh_iload_n (pc := 17) dX7_lamp_17 rfl rfl ?_
        refine k_V2i (pc := 18) is_119 dX7_lamp_18 lk_X7_201 rfl h (fun v14 I12 h => ?_)
        refine sh_goto (pc := 21) (tgt := 44) dX7_lamp_21 (by decide) ?_
        exact k_iret dX7_lamp_44 rfl h
    · exact absurd qz (by decide)
  · skip
    refine sh_if_ne (pc := 4) (tgt := 9) dX7_lamp_4 (by decide) (bd_lit (by decide)) (fun qz => ?_) (fun qz => ?_)
    · exact absurd qz (by decide)
    · skip
      refine sh_iconst (pc := 7) (v := (-1)) dX7_lamp_7 rfl ?_
      exact k_iret dX7_lamp_8 rfl h
set_option maxRecDepth 100000 in
set_option maxHeartbeats 4000000 in
theorem eX7_shadow {x1 : Int} {x2 : Int} {x3 : Int} {I : sh_Mem} {Q : Int → sh_Mem → Prop} (h : (cc mX7_isRunner [.inr 119, .inl x1] I (qi fun v3 I1 => ((v3 = 1 ∧ (cc mX7_isLamp [.inl x2] I1 (qi fun v6 I4 => ((v6 = 1 ∧ (cc mX7_follow [.inr 119, .inl x1, .inl x2] I4 (qv fun I7 => (sh_Bd x3 ∧ ((¬ x3 = 0 → ((¬ x3 = 1 → ((¬ x3 = 2 → Q (-2) I7) ∧ (x3 = 2 → Q (I7 119 8) I7))) ∧ (x3 = 1 → (sh_Bd (I7 119 7) ∧ ((¬ (I7 119 7) = 0 → ((0 ≤ ((I7 119 7) - 1) ∧ ((I7 119 7) - 1) < (24 : Int)) ∧ Q (I7 124 ((I7 119 7) - 1)) I7)) ∧ ((I7 119 7) = 0 → Q (-5) I7)))))) ∧ (x3 = 0 → Q (I7 119 7) I7)))))) ∨ (v6 = 0 ∧ Q (-1) I4))))) ∨ (v3 = 0 ∧ Q (-1) I1))))) : cc mX7_shadow [.inr 119, .inl x1, .inl x2, .inl x3] I (qi Q) := by
  refine sh_call cd_X7_shadow.2.2.2 (Nat.le_of_ble_eq_true rfl) ?_
  show kk mX7_shadow 0 [some (.inr 119), some (.inl x1), some (.inl x2), some (.inl x3)] [] I (qi Q)
  refine sh_aload_n (pc := 0) dX7_shadow_0 rfl rfl ?_
  refine sh_iload_n (pc := 1) dX7_shadow_1 rfl rfl ?_
  refine k_V1i (pc := 2) is_119 dX7_shadow_2 lk_X7_120 rfl h (fun v3 I1 h => ?_)
  rcases h with ⟨rfl, h⟩ | ⟨rfl, h⟩
  · skip
    refine sh_if_eq (pc := 5) (tgt := 15) dX7_shadow_5 (by decide) (bd_lit (by decide)) (fun qz => ?_) (fun qz => ?_)
    · exact absurd qz (by decide)
    · skip
      refine sh_iload_n (pc := 8) dX7_shadow_8 rfl rfl ?_
      refine k_S1i (pc := 9) dX7_shadow_9 lk_X7_123 rfl h (fun v6 I4 h => ?_)
      rcases h with ⟨rfl, h⟩ | ⟨rfl, h⟩
      · skip
        refine sh_if_ne (pc := 12) (tgt := 17) dX7_shadow_12 (by decide) (bd_lit (by decide)) (fun qz => ?_) (fun qz => ?_)
        · skip
          refine sh_aload_n (pc := 17) dX7_shadow_17 rfl rfl ?_
          refine sh_iload_n (pc := 18) dX7_shadow_18 rfl rfl ?_
          refine sh_iload_n (pc := 19) dX7_shadow_19 rfl rfl ?_
          refine k_V2v (pc := 20) is_119 dX7_shadow_20 lk_X7_88 rfl h (fun I7 h => ?_)
          refine sh_iload_n (pc := 23) dX7_shadow_23 rfl rfl ?_
          obtain ⟨hb_9, h⟩ := h
          refine sh_if_ne (pc := 24) (tgt := 34) dX7_shadow_24 (by decide) hb_9  (fun q_10 => ?_) (fun q_10 => ?_)
          · replace h := h.1 q_10
            refine sh_iload_n (pc := 34) dX7_shadow_34 rfl rfl ?_
            refine sh_iconst (pc := 35) (v := 1) dX7_shadow_35 rfl ?_
            refine sh_icmp_ne (pc := 36) (tgt := 65) dX7_shadow_36 (by decide) hb_9 (bd_lit (by decide)) (fun q_11 => ?_) (fun q_11 => ?_)
            · replace h := h.1 q_11
              refine sh_iload_n (pc := 65) dX7_shadow_65 rfl rfl ?_
              refine sh_iconst (pc := 66) (v := 2) dX7_shadow_66 rfl ?_
              refine sh_icmp_ne (pc := 67) (tgt := 77) dX7_shadow_67 (by decide) hb_9 (bd_lit (by decide)) (fun q_12 => ?_) (fun q_12 => ?_)
              · replace h := h.1 q_12
                refine sh_bipush (pc := 77) (v := (-2)) dX7_shadow_77 (by decide) ?_
                exact k_iret dX7_shadow_79 rfl h
              · replace h := h.2 q_12
                refine sh_aload_n (pc := 70) dX7_shadow_70 rfl rfl ?_
                refine sh_getI (pc := 71) (g := 8) dX7_shadow_71 fl_X7_75 rfl is_119 rfl ?_
                refine sh_goto (pc := 74) (tgt := 79) dX7_shadow_74 (by decide) ?_
                exact k_iret dX7_shadow_79 rfl h
            · replace h := h.2 q_11
              refine sh_aload_n (pc := 39) dX7_shadow_39 rfl rfl ?_
              refine sh_getI (pc := 40) (g := 7) dX7_shadow_40 fl_X7_72 rfl is_119 rfl ?_
              obtain ⟨hb_13, h⟩ := h
              refine sh_if_ne (pc := 43) (tgt := 51) dX7_shadow_43 (by decide) hb_13  (fun q_14 => ?_) (fun q_14 => ?_)
              · replace h := h.1 q_14
                refine sh_aload_n (pc := 51) dX7_shadow_51 rfl rfl ?_
                refine sh_getR (pc := 52) dX7_shadow_52 fl_X7_22 rfl is_119 pt_119_6 ?_
                refine sh_aload_n (pc := 55) dX7_shadow_55 rfl rfl ?_
                refine sh_getI (pc := 56) (g := 7) dX7_shadow_56 fl_X7_72 rfl is_119 rfl ?_
                refine sh_iconst (pc := 59) (v := 1) dX7_shadow_59 rfl ?_
                refine sh_isub (pc := 60) dX7_shadow_60 ?_
                obtain ⟨hi_15, h⟩ := h
                refine sh_iald (pc := 61) dX7_shadow_61 is_124 (by decide) hi_15 ?_
                refine sh_goto (pc := 62) (tgt := 79) dX7_shadow_62 (by decide) ?_
                exact k_iret dX7_shadow_79 rfl h
              · replace h := h.2 q_14
                refine sh_bipush (pc := 46) (v := (-5)) dX7_shadow_46 (by decide) ?_
                refine sh_goto (pc := 48) (tgt := 79) dX7_shadow_48 (by decide) ?_
                exact k_iret dX7_shadow_79 rfl h
          · replace h := h.2 q_10
            refine sh_aload_n (pc := 27) dX7_shadow_27 rfl rfl ?_
            refine sh_getI (pc := 28) (g := 7) dX7_shadow_28 fl_X7_72 rfl is_119 rfl ?_
            refine sh_goto (pc := 31) (tgt := 79) dX7_shadow_31 (by decide) ?_
            exact k_iret dX7_shadow_79 rfl h
        · exact absurd qz (by decide)
      · skip
        refine sh_if_ne (pc := 12) (tgt := 17) dX7_shadow_12 (by decide) (bd_lit (by decide)) (fun qz => ?_) (fun qz => ?_)
        · exact absurd qz (by decide)
        · skip
          refine sh_iconst (pc := 15) (v := (-1)) dX7_shadow_15 rfl ?_
          exact k_iret dX7_shadow_16 rfl h
  · skip
    refine sh_if_eq (pc := 5) (tgt := 15) dX7_shadow_5 (by decide) (bd_lit (by decide)) (fun qz => ?_) (fun qz => ?_)
    · skip
      refine sh_iconst (pc := 15) (v := (-1)) dX7_shadow_15 rfl ?_
      exact k_iret dX7_shadow_16 rfl h
    · exact absurd qz (by decide)
set_option maxRecDepth 100000 in
set_option maxHeartbeats 4000000 in
theorem eX7_darkness {x1 : Int} {I : sh_Mem} {Q : Int → sh_Mem → Prop} (h : (cc mX7_isCell [.inl x1] I (qi fun v3 I1 => ((v3 = 1 ∧ (cc mX7_shadowsOn [.inr 119, .inl x1, .inl (-5), .inl (-5)] I1 (qi fun v6 I4 => Q v6 I4))) ∨ (v3 = 0 ∧ Q (-1) I1))))) : cc mX7_darkness [.inr 119, .inl x1] I (qi Q) := by
  refine sh_call cd_X7_darkness.2.2.2 (Nat.le_of_ble_eq_true rfl) ?_
  show kk mX7_darkness 0 [some (.inr 119), some (.inl x1)] [] I (qi Q)
  refine sh_iload_n (pc := 0) dX7_darkness_0 rfl rfl ?_
  refine k_S1i (pc := 1) dX7_darkness_1 lk_X7_116 rfl h (fun v3 I1 h => ?_)
  rcases h with ⟨rfl, h⟩ | ⟨rfl, h⟩
  · skip
    refine sh_if_eq (pc := 4) (tgt := 19) dX7_darkness_4 (by decide) (bd_lit (by decide)) (fun qz => ?_) (fun qz => ?_)
    · exact absurd qz (by decide)
    · skip
      refine sh_aload_n (pc := 7) dX7_darkness_7 rfl rfl ?_
      refine sh_iload_n (pc := 8) dX7_darkness_8 rfl rfl ?_
      refine sh_bipush (pc := 9) (v := (-5)) dX7_darkness_9 (by decide) ?_
      refine sh_bipush (pc := 11) (v := (-5)) dX7_darkness_11 (by decide) ?_
      refine k_V3i (pc := 13) is_119 dX7_darkness_13 lk_X7_198 rfl h (fun v6 I4 h => ?_)
      refine sh_goto (pc := 16) (tgt := 20) dX7_darkness_16 (by decide) ?_
      exact k_iret dX7_darkness_20 rfl h
  · skip
    refine sh_if_eq (pc := 4) (tgt := 19) dX7_darkness_4 (by decide) (bd_lit (by decide)) (fun qz => ?_) (fun qz => ?_)
    · skip
      refine sh_iconst (pc := 19) (v := (-1)) dX7_darkness_19 rfl ?_
      exact k_iret dX7_darkness_20 rfl h
    · exact absurd qz (by decide)
set_option maxRecDepth 100000 in
set_option maxHeartbeats 4000000 in
theorem eX7_looked {x1 : Int} {I : sh_Mem} {Q : Int → sh_Mem → Prop} (h : (cc mX7_isCell [.inl x1] I (qi fun v3 I1 => ((v3 = 1 ∧ kk mX7_looked 13 [some (.inr 119), some (.inl x1), some (.inl 0), some (.inl 0), none, none, none] [] I1 (qi Q)) ∨ (v3 = 0 ∧ Q (-1) I1))))) : cc mX7_looked [.inr 119, .inl x1] I (qi Q) := by
  refine sh_call cd_X7_looked.2.2.2 (Nat.le_of_ble_eq_true rfl) ?_
  show kk mX7_looked 0 [some (.inr 119), some (.inl x1), none, none, none, none, none] [] I (qi Q)
  refine sh_iload_n (pc := 0) dX7_looked_0 rfl rfl ?_
  refine k_S1i (pc := 1) dX7_looked_1 lk_X7_116 rfl h (fun v3 I1 h => ?_)
  rcases h with ⟨rfl, h⟩ | ⟨rfl, h⟩
  · skip
    refine sh_if_ne (pc := 4) (tgt := 9) dX7_looked_4 (by decide) (bd_lit (by decide)) (fun qz => ?_) (fun qz => ?_)
    · skip
      refine sh_iconst (pc := 9) (v := 0) dX7_looked_9 rfl ?_
      refine k_istore_n (pc := 10) [some (.inr 119), some (.inl x1), some (.inl 0), none, none, none, none] dX7_looked_10 rfl rfl (by decide) ?_
      refine sh_iconst (pc := 11) (v := 0) dX7_looked_11 rfl ?_
      refine k_istore_n (pc := 12) [some (.inr 119), some (.inl x1), some (.inl 0), some (.inl 0), none, none, none] dX7_looked_12 rfl rfl (by decide) ?_
      exact sh_O.locals h (sub_some (sub_some (sub_some (sub_some (sub_none (sub_none (sub_none sub_nil)))))))
    · exact absurd qz (by decide)
  · skip
    refine sh_if_ne (pc := 4) (tgt := 9) dX7_looked_4 (by decide) (bd_lit (by decide)) (fun qz => ?_) (fun qz => ?_)
    · exact absurd qz (by decide)
    · skip
      refine sh_iconst (pc := 7) (v := (-1)) dX7_looked_7 rfl ?_
      exact k_iret dX7_looked_8 rfl h
set_option maxRecDepth 100000 in
set_option maxHeartbeats 4000000 in
theorem lX7_looked_13 {y1 : Int} {y2 : Int} {y3 : Int} {I : sh_Mem} {Q : Int → sh_Mem → Prop} (h : (sh_Bd y3 ∧ ((3 ≤ y3 → Q y2 I) ∧ (y3 < 3 → (cc mX7_ofLamp [.inr 119, .inl y3, .inl 0] I (qi fun v5 I3 => (cc mX7_next [.inl y1, .inl v5] I3 (qi fun v8 I6 => kk mX7_looked 33 [some (.inr 119), some (.inl y1), some (.inl y2), some (.inl y3), some (.inl v8), some (.inl 1), none] [] I6 (qi Q))))))))) : kk mX7_looked 13 [some (.inr 119), some (.inl y1), some (.inl y2), some (.inl y3), none, none, none] [] I (qi Q) := by
  refine sh_iload_n (pc := 13) dX7_looked_13 rfl rfl ?_
  refine sh_iconst (pc := 14) (v := 3) dX7_looked_14 rfl ?_
  obtain ⟨hb_1, h⟩ := h
  refine sh_icmp_ge (pc := 15) (tgt := 136) dX7_looked_15 (by decide) hb_1 (bd_lit (by decide)) (fun q_2 => ?_) (fun q_2 => ?_)
  · replace h := h.1 q_2
    refine sh_iload_n (pc := 136) dX7_looked_136 rfl rfl ?_
    exact k_iret dX7_looked_137 rfl h
  · replace h := h.2 q_2
    refine sh_iload_n (pc := 18) dX7_looked_18 rfl rfl ?_
    refine sh_aload_n (pc := 19) dX7_looked_19 rfl rfl ?_
    refine sh_iload_n (pc := 20) dX7_looked_20 rfl rfl ?_
    refine sh_iconst (pc := 21) (v := 0) dX7_looked_21 rfl ?_
    refine k_V2i (pc := 22) is_119 dX7_looked_22 lk_X7_78 rfl h (fun v5 I3 h => ?_)
    refine k_S2i (pc := 25) dX7_looked_25 lk_X7_81 rfl h (fun v8 I6 h => ?_)
    refine k_istore (pc := 28) [some (.inr 119), some (.inl y1), some (.inl y2), some (.inl y3), some (.inl v8), none, none] dX7_looked_28 rfl (by decide) ?_
    refine sh_iconst (pc := 30) (v := 1) dX7_looked_30 rfl ?_
    refine k_istore (pc := 31) [some (.inr 119), some (.inl y1), some (.inl y2), some (.inl y3), some (.inl v8), some (.inl 1), none] dX7_looked_31 rfl (by decide) ?_
    exact sh_O.locals h (sub_some (sub_some (sub_some (sub_some (sub_some (sub_some (sub_none sub_nil)))))))
set_option maxRecDepth 100000 in
set_option maxHeartbeats 4000000 in
theorem lX7_looked_33 {y1 : Int} {y2 : Int} {y3 : Int} {y4 : Int} {y5 : Int} {I : sh_Mem} {Q : Int → sh_Mem → Prop} (h : (sh_Bd y4 ∧ ((y4 = (-5) → (cc mX7_ofLamp [.inr 119, .inl y3, .inl 3] I (qi fun v5 I3 => (sh_Bd v5 ∧ ((¬ v5 = 1 → kk mX7_looked 114 [some (.inr 119), some (.inl y1), some (.inl y2), some (.inl y3), none, none, none] [] I3 (qi Q)) ∧ (v5 = 1 → ((y4 = (-5) → kk mX7_looked 114 [some (.inr 119), some (.inl y1), some (.inl y2), some (.inl y3), none, none, none] [] I3 (qi Q)) ∧ (¬ y4 = (-5) → (cc mX7_runnerAt [.inr 119, .inl y4] I3 (qi fun v11 I9 => (cc mX7_of [.inr 119, .inl v11, .inl 1] I9 (qi fun v14 I12 => (cc mX7_ofLamp [.inr 119, .inl y3, .inl 1] I12 (qi fun v17 I15 => (sh_Bd (v14 * v17) ∧ (sh_Bd y5 ∧ (((v14 * v17) < y5 → kk mX7_looked 114 [some (.inr 119), some (.inl y1), some (.inl y2), some (.inl y3), none, none, none] [] I15 (qi Q)) ∧ (y5 ≤ (v14 * v17) → kk mX7_looked 115 [some (.inr 119), some (.inl y1), some (.inl y2), some (.inl y3), none, none, none] [.inl 1] I15 (qi Q))))))))))))))))))) ∧ (¬ y4 = (-5) → (cc mX7_runnerAt [.inr 119, .inl y4] I (qi fun v23 I21 => (sh_Bd v23 ∧ ((¬ v23 = (-5) → (cc mX7_ofLamp [.inr 119, .inl y3, .inl 3] I21 (qi fun v28 I26 => (sh_Bd v28 ∧ ((¬ v28 = 1 → kk mX7_looked 114 [some (.inr 119), some (.inl y1), some (.inl y2), some (.inl y3), none, none, none] [] I26 (qi Q)) ∧ (v28 = 1 → ((y4 = (-5) → kk mX7_looked 114 [some (.inr 119), some (.inl y1), some (.inl y2), some (.inl y3), none, none, none] [] I26 (qi Q)) ∧ (¬ y4 = (-5) → (cc mX7_runnerAt [.inr 119, .inl y4] I26 (qi fun v34 I32 => (cc mX7_of [.inr 119, .inl v34, .inl 1] I32 (qi fun v37 I35 => (cc mX7_ofLamp [.inr 119, .inl y3, .inl 1] I35 (qi fun v40 I38 => (sh_Bd (v37 * v40) ∧ (sh_Bd y5 ∧ (((v37 * v40) < y5 → kk mX7_looked 114 [some (.inr 119), some (.inl y1), some (.inl y2), some (.inl y3), none, none, none] [] I38 (qi Q)) ∧ (y5 ≤ (v37 * v40) → kk mX7_looked 115 [some (.inr 119), some (.inl y1), some (.inl y2), some (.inl y3), none, none, none] [.inl 1] I38 (qi Q))))))))))))))))))) ∧ (v23 = (-5) → (cc mX7_ofLamp [.inr 119, .inl y3, .inl 0] I21 (qi fun v46 I44 => (cc mX7_next [.inl y4, .inl v46] I44 (qi fun v49 I47 => kk mX7_looked 33 [some (.inr 119), some (.inl y1), some (.inl y2), some (.inl y3), some (.inl v49), some (.inl (y5 + 1)), none] [] I47 (qi Q)))))))))))))) : kk mX7_looked 33 [some (.inr 119), some (.inl y1), some (.inl y2), some (.inl y3), some (.inl y4), some (.inl y5), none] [] I (qi Q) := by
  refine sh_iload (pc := 33) dX7_looked_33 rfl ?_
  refine sh_bipush (pc := 35) (v := (-5)) dX7_looked_35 (by decide) ?_
  obtain ⟨hb_1, h⟩ := h
  refine sh_icmp_eq (pc := 37) (tgt := 70) dX7_looked_37 (by decide) hb_1 (bd_lit (by decide)) (fun q_2 => ?_) (fun q_2 => ?_)
  · replace h := h.1 q_2
    refine sh_aload_n (pc := 70) dX7_looked_70 rfl rfl ?_
    refine sh_iload_n (pc := 71) dX7_looked_71 rfl rfl ?_
    refine sh_iconst (pc := 72) (v := 3) dX7_looked_72 rfl ?_
    refine k_V2i (pc := 73) is_119 dX7_looked_73 lk_X7_78 rfl h (fun v5 I3 h => ?_)
    refine sh_iconst (pc := 76) (v := 1) dX7_looked_76 rfl ?_
    obtain ⟨hb_6, h⟩ := h
    refine sh_icmp_ne (pc := 77) (tgt := 114) dX7_looked_77 (by decide) hb_6 (bd_lit (by decide)) (fun q_7 => ?_) (fun q_7 => ?_)
    · replace h := h.1 q_7
      exact sh_O.locals h (sub_some (sub_some (sub_some (sub_some (sub_none (sub_none (sub_none sub_nil)))))))
    · replace h := h.2 q_7
      refine sh_iload (pc := 80) dX7_looked_80 rfl ?_
      refine sh_bipush (pc := 82) (v := (-5)) dX7_looked_82 (by decide) ?_
      refine sh_icmp_eq (pc := 84) (tgt := 114) dX7_looked_84 (by decide) hb_1 (bd_lit (by decide)) (fun q_8 => ?_) (fun q_8 => ?_)
      · replace h := h.1 q_8
        exact sh_O.locals h (sub_some (sub_some (sub_some (sub_some (sub_none (sub_none (sub_none sub_nil)))))))
      · replace h := h.2 q_8
        refine sh_aload_n (pc := 87) dX7_looked_87 rfl rfl ?_
        refine sh_aload_n (pc := 88) dX7_looked_88 rfl rfl ?_
        refine sh_iload (pc := 89) dX7_looked_89 rfl ?_
        refine k_V1i (pc := 91) is_119 dX7_looked_91 lk_X7_84 rfl h (fun v11 I9 h => ?_)
        refine sh_iconst (pc := 94) (v := 1) dX7_looked_94 rfl ?_
        refine k_V2i (pc := 95) is_119 dX7_looked_95 lk_X7_68 rfl h (fun v14 I12 h => ?_)
        refine sh_aload_n (pc := 98) dX7_looked_98 rfl rfl ?_
        refine sh_iload_n (pc := 99) dX7_looked_99 rfl rfl ?_
        refine sh_iconst (pc := 100) (v := 1) dX7_looked_100 rfl ?_
        refine k_V2i (pc := 101) is_119 dX7_looked_101 lk_X7_78 rfl h (fun v17 I15 h => ?_)
        refine sh_imul (pc := 104) dX7_looked_104 ?_
        refine sh_iload (pc := 105) dX7_looked_105 rfl ?_
        obtain ⟨hb_18, h⟩ := h
        obtain ⟨hb_19, h⟩ := h
        refine sh_icmp_lt (pc := 107) (tgt := 114) dX7_looked_107 (by decide) hb_18 hb_19 (fun q_20 => ?_) (fun q_20 => ?_)
        · replace h := h.1 q_20
          exact sh_O.locals h (sub_some (sub_some (sub_some (sub_some (sub_none (sub_none (sub_none sub_nil)))))))
        · replace h := h.2 q_20
          refine sh_iconst (pc := 110) (v := 1) dX7_looked_110 rfl ?_
          refine sh_goto (pc := 111) (tgt := 115) dX7_looked_111 (by decide) ?_
          exact sh_O.locals h (sub_some (sub_some (sub_some (sub_some (sub_none (sub_none (sub_none sub_nil)))))))
  · replace h := h.2 q_2
    refine sh_aload_n (pc := 40) dX7_looked_40 rfl rfl ?_
    refine sh_iload (pc := 41) dX7_looked_41 rfl ?_
    refine k_V1i (pc := 43) is_119 dX7_looked_43 lk_X7_84 rfl h (fun v23 I21 h => ?_)
    refine sh_bipush (pc := 46) (v := (-5)) dX7_looked_46 (by decide) ?_
    obtain ⟨hb_24, h⟩ := h
    refine sh_icmp_ne (pc := 48) (tgt := 70) dX7_looked_48 (by decide) hb_24 (bd_lit (by decide)) (fun q_25 => ?_) (fun q_25 => ?_)
    · replace h := h.1 q_25
      refine sh_aload_n (pc := 70) dX7_looked_70 rfl rfl ?_
      refine sh_iload_n (pc := 71) dX7_looked_71 rfl rfl ?_
      refine sh_iconst (pc := 72) (v := 3) dX7_looked_72 rfl ?_
      refine k_V2i (pc := 73) is_119 dX7_looked_73 lk_X7_78 rfl h (fun v28 I26 h => ?_)
      refine sh_iconst (pc := 76) (v := 1) dX7_looked_76 rfl ?_
      obtain ⟨hb_29, h⟩ := h
      refine sh_icmp_ne (pc := 77) (tgt := 114) dX7_looked_77 (by decide) hb_29 (bd_lit (by decide)) (fun q_30 => ?_) (fun q_30 => ?_)
      · replace h := h.1 q_30
        exact sh_O.locals h (sub_some (sub_some (sub_some (sub_some (sub_none (sub_none (sub_none sub_nil)))))))
      · replace h := h.2 q_30
        refine sh_iload (pc := 80) dX7_looked_80 rfl ?_
        refine sh_bipush (pc := 82) (v := (-5)) dX7_looked_82 (by decide) ?_
        refine sh_icmp_eq (pc := 84) (tgt := 114) dX7_looked_84 (by decide) hb_1 (bd_lit (by decide)) (fun q_31 => ?_) (fun q_31 => ?_)
        · replace h := h.1 q_31
          exact sh_O.locals h (sub_some (sub_some (sub_some (sub_some (sub_none (sub_none (sub_none sub_nil)))))))
        · replace h := h.2 q_31
          refine sh_aload_n (pc := 87) dX7_looked_87 rfl rfl ?_
          refine sh_aload_n (pc := 88) dX7_looked_88 rfl rfl ?_
          refine sh_iload (pc := 89) dX7_looked_89 rfl ?_
          refine k_V1i (pc := 91) is_119 dX7_looked_91 lk_X7_84 rfl h (fun v34 I32 h => ?_)
          refine sh_iconst (pc := 94) (v := 1) dX7_looked_94 rfl ?_
          refine k_V2i (pc := 95) is_119 dX7_looked_95 lk_X7_68 rfl h (fun v37 I35 h => ?_)
          refine sh_aload_n (pc := 98) dX7_looked_98 rfl rfl ?_
          refine sh_iload_n (pc := 99) dX7_looked_99 rfl rfl ?_
          refine sh_iconst (pc := 100) (v := 1) dX7_looked_100 rfl ?_
          refine k_V2i (pc := 101) is_119 dX7_looked_101 lk_X7_78 rfl h (fun v40 I38 h => ?_)
          refine sh_imul (pc := 104) dX7_looked_104 ?_
          refine sh_iload (pc := 105) dX7_looked_105 rfl ?_
          obtain ⟨hb_41, h⟩ := h
          obtain ⟨hb_42, h⟩ := h
          refine sh_icmp_lt (pc := 107) (tgt := 114) dX7_looked_107 (by decide) hb_41 hb_42 (fun q_43 => ?_) (fun q_43 => ?_)
          · replace h := h.1 q_43
            exact sh_O.locals h (sub_some (sub_some (sub_some (sub_some (sub_none (sub_none (sub_none sub_nil)))))))
          · replace h := h.2 q_43
            refine sh_iconst (pc := 110) (v := 1) dX7_looked_110 rfl ?_
            refine sh_goto (pc := 111) (tgt := 115) dX7_looked_111 (by decide) ?_
            exact sh_O.locals h (sub_some (sub_some (sub_some (sub_some (sub_none (sub_none (sub_none sub_nil)))))))
    · replace h := h.2 q_25
      refine sh_iload (pc := 51) dX7_looked_51 rfl ?_
      refine sh_aload_n (pc := 53) dX7_looked_53 rfl rfl ?_
      refine sh_iload_n (pc := 54) dX7_looked_54 rfl rfl ?_
      refine sh_iconst (pc := 55) (v := 0) dX7_looked_55 rfl ?_
      refine k_V2i (pc := 56) is_119 dX7_looked_56 lk_X7_78 rfl h (fun v46 I44 h => ?_)
      refine k_S2i (pc := 59) dX7_looked_59 lk_X7_81 rfl h (fun v49 I47 h => ?_)
      refine k_istore (pc := 62) [some (.inr 119), some (.inl y1), some (.inl y2), some (.inl y3), some (.inl v49), some (.inl y5), none] dX7_looked_62 rfl (by decide) ?_
      refine k_iinc (pc := 64) [some (.inr 119), some (.inl y1), some (.inl y2), some (.inl y3), some (.inl v49), some (.inl (y5 + 1)), none] dX7_looked_64 rfl rfl (by decide) ?_
      refine sh_goto (pc := 67) (tgt := 33) dX7_looked_67 (by decide) ?_
      exact sh_O.locals h (sub_some (sub_some (sub_some (sub_some (sub_some (sub_some (sub_none sub_nil)))))))
set_option maxRecDepth 100000 in
set_option maxHeartbeats 4000000 in
theorem lX7_looked_114 {y1 : Int} {y2 : Int} {y3 : Int} {I : sh_Mem} {Q : Int → sh_Mem → Prop} (h : kk mX7_looked 115 [some (.inr 119), some (.inl y1), some (.inl y2), some (.inl y3), none, none, none] [.inl 0] I (qi Q)) : kk mX7_looked 114 [some (.inr 119), some (.inl y1), some (.inl y2), some (.inl y3), none, none, none] [] I (qi Q) := by
  refine sh_iconst (pc := 114) (v := 0) dX7_looked_114 rfl ?_
  exact sh_O.locals h (sub_some (sub_some (sub_some (sub_some (sub_none (sub_none (sub_none sub_nil)))))))
set_option maxRecDepth 100000 in
set_option maxHeartbeats 4000000 in
theorem lX7_looked_115 {y1 : Int} {y2 : Int} {y3 : Int} {z0 : Int} {I : sh_Mem} {Q : Int → sh_Mem → Prop} (h : (sh_Bd z0 ∧ ((z0 = 0 → kk mX7_looked 13 [some (.inr 119), some (.inl y1), some (.inl (y2 + 0)), some (.inl (y3 + 1)), none, none, none] [] I (qi Q)) ∧ (¬ z0 = 0 → kk mX7_looked 13 [some (.inr 119), some (.inl y1), some (.inl (y2 + 1)), some (.inl (y3 + 1)), none, none, none] [] I (qi Q))))) : kk mX7_looked 115 [some (.inr 119), some (.inl y1), some (.inl y2), some (.inl y3), none, none, none] [.inl z0] I (qi Q) := by
  refine k_istore (pc := 115) [some (.inr 119), some (.inl y1), some (.inl y2), some (.inl y3), none, none, some (.inl z0)] dX7_looked_115 rfl (by decide) ?_
  refine sh_iload_n (pc := 117) dX7_looked_117 rfl rfl ?_
  refine sh_iload (pc := 118) dX7_looked_118 rfl ?_
  obtain ⟨hb_1, h⟩ := h
  refine sh_if_eq (pc := 120) (tgt := 127) dX7_looked_120 (by decide) hb_1  (fun q_2 => ?_) (fun q_2 => ?_)
  · replace h := h.1 q_2
    refine sh_iconst (pc := 127) (v := 0) dX7_looked_127 rfl ?_
    refine sh_iadd (pc := 128) dX7_looked_128 ?_
    refine k_istore_n (pc := 129) [some (.inr 119), some (.inl y1), some (.inl (y2 + 0)), some (.inl y3), none, none, some (.inl z0)] dX7_looked_129 rfl rfl (by decide) ?_
    refine k_iinc (pc := 130) [some (.inr 119), some (.inl y1), some (.inl (y2 + 0)), some (.inl (y3 + 1)), none, none, some (.inl z0)] dX7_looked_130 rfl rfl (by decide) ?_
    refine sh_goto (pc := 133) (tgt := 13) dX7_looked_133 (by decide) ?_
    exact sh_O.locals h (sub_some (sub_some (sub_some (sub_some (sub_none (sub_none (sub_none sub_nil)))))))
  · replace h := h.2 q_2
    refine sh_iconst (pc := 123) (v := 1) dX7_looked_123 rfl ?_
    refine sh_goto (pc := 124) (tgt := 128) dX7_looked_124 (by decide) ?_
    refine sh_iadd (pc := 128) dX7_looked_128 ?_
    refine k_istore_n (pc := 129) [some (.inr 119), some (.inl y1), some (.inl (y2 + 1)), some (.inl y3), none, none, some (.inl z0)] dX7_looked_129 rfl rfl (by decide) ?_
    refine k_iinc (pc := 130) [some (.inr 119), some (.inl y1), some (.inl (y2 + 1)), some (.inl (y3 + 1)), none, none, some (.inl z0)] dX7_looked_130 rfl rfl (by decide) ?_
    refine sh_goto (pc := 133) (tgt := 13) dX7_looked_133 (by decide) ?_
    exact sh_O.locals h (sub_some (sub_some (sub_some (sub_some (sub_none (sub_none (sub_none sub_nil)))))))
set_option maxRecDepth 100000 in
set_option maxHeartbeats 4000000 in
theorem eX7_at {x1 : Int} {I : sh_Mem} {Q : Int → sh_Mem → Prop} (h : (cc mX7_isCell [.inl x1] I (qi fun v3 I1 => ((v3 = 1 ∧ (cc mX7_runnerAt [.inr 119, .inl x1] I1 (qi fun v6 I4 => Q v6 I4))) ∨ (v3 = 0 ∧ Q (-1) I1))))) : cc mX7_at [.inr 119, .inl x1] I (qi Q) := by
  refine sh_call cd_X7_at.2.2.2 (Nat.le_of_ble_eq_true rfl) ?_
  show kk mX7_at 0 [some (.inr 119), some (.inl x1)] [] I (qi Q)
  refine sh_iload_n (pc := 0) dX7_at_0 rfl rfl ?_
  refine k_S1i (pc := 1) dX7_at_1 lk_X7_116 rfl h (fun v3 I1 h => ?_)
  rcases h with ⟨rfl, h⟩ | ⟨rfl, h⟩
  · skip
    refine sh_if_eq (pc := 4) (tgt := 15) dX7_at_4 (by decide) (bd_lit (by decide)) (fun qz => ?_) (fun qz => ?_)
    · exact absurd qz (by decide)
    · skip
      refine sh_aload_n (pc := 7) dX7_at_7 rfl rfl ?_
      refine sh_iload_n (pc := 8) dX7_at_8 rfl rfl ?_
      refine k_V1i (pc := 9) is_119 dX7_at_9 lk_X7_84 rfl h (fun v6 I4 h => ?_)
      refine sh_goto (pc := 12) (tgt := 16) dX7_at_12 (by decide) ?_
      exact k_iret dX7_at_16 rfl h
  · skip
    refine sh_if_eq (pc := 4) (tgt := 15) dX7_at_4 (by decide) (bd_lit (by decide)) (fun qz => ?_) (fun qz => ?_)
    · skip
      refine sh_iconst (pc := 15) (v := (-1)) dX7_at_15 rfl ?_
      exact k_iret dX7_at_16 rfl h
    · exact absurd qz (by decide)
set_option maxRecDepth 100000 in
set_option maxHeartbeats 4000000 in
theorem eX7_reason {x1 : Int} {I : sh_Mem} {Q : Int → sh_Mem → Prop} (h : (cc mX7_isRunner [.inr 119, .inl x1] I (qi fun v3 I1 => ((v3 = 1 ∧ (sh_Bd x1 ∧ (sh_Bd (I1 120 1) ∧ ((¬ x1 = (I1 120 1) → (cc mX7_hasShadow [.inr 119, .inl x1] I1 (qi fun v9 I7 => ((v9 = 1 ∧ (cc mX7_of [.inr 119, .inl x1, .inl 3] I7 (qi fun v12 I10 => (sh_Bd v12 ∧ ((v12 ≤ 0 → (cc mX7_of [.inr 119, .inl (I10 120 1), .inl 0] I10 (qi fun v17 I15 => (cc mX7_isInShadowOf [.inr 119, .inl x1, .inl v17] I15 (qi fun v20 I18 => ((v20 = 1 ∧ (cc mX7_tagNow [.inr 119] I18 (qi fun v23 I21 => (sh_Bd v23 ∧ ((¬ v23 = x1 → Q 5 I21) ∧ (v23 = x1 → Q 0 I21)))))) ∨ (v20 = 0 ∧ Q 4 I18))))))) ∧ (0 < v12 → Q 3 I10)))))) ∨ (v9 = 0 ∧ Q 2 I7))))) ∧ (x1 = (I1 120 1) → Q 1 I1))))) ∨ (v3 = 0 ∧ Q (-1) I1))))) : cc mX7_reason [.inr 119, .inl x1] I (qi Q) := by
  refine sh_call cd_X7_reason.2.2.2 (Nat.le_of_ble_eq_true rfl) ?_
  show kk mX7_reason 0 [some (.inr 119), some (.inl x1)] [] I (qi Q)
  refine sh_aload_n (pc := 0) dX7_reason_0 rfl rfl ?_
  refine sh_iload_n (pc := 1) dX7_reason_1 rfl rfl ?_
  refine k_V1i (pc := 2) is_119 dX7_reason_2 lk_X7_120 rfl h (fun v3 I1 h => ?_)
  rcases h with ⟨rfl, h⟩ | ⟨rfl, h⟩
  · skip
    refine sh_if_ne (pc := 5) (tgt := 10) dX7_reason_5 (by decide) (bd_lit (by decide)) (fun qz => ?_) (fun qz => ?_)
    · skip
      refine sh_iload_n (pc := 10) dX7_reason_10 rfl rfl ?_
      refine sh_aload_n (pc := 11) dX7_reason_11 rfl rfl ?_
      refine sh_getR (pc := 12) dX7_reason_12 fl_X7_7 rfl is_119 pt_119_0 ?_
      refine sh_iconst (pc := 15) (v := 1) dX7_reason_15 rfl ?_
      refine sh_iald (pc := 16) dX7_reason_16 is_120 (by decide) (by decide) ?_
      obtain ⟨hb_4, h⟩ := h
      obtain ⟨hb_5, h⟩ := h
      refine sh_icmp_ne (pc := 17) (tgt := 22) dX7_reason_17 (by decide) hb_4 hb_5 (fun q_6 => ?_) (fun q_6 => ?_)
      · replace h := h.1 q_6
        refine sh_aload_n (pc := 22) dX7_reason_22 rfl rfl ?_
        refine sh_iload_n (pc := 23) dX7_reason_23 rfl rfl ?_
        refine k_V1i (pc := 24) is_119 dX7_reason_24 lk_X7_204 rfl h (fun v9 I7 h => ?_)
        rcases h with ⟨rfl, h⟩ | ⟨rfl, h⟩
        · skip
          refine sh_if_ne (pc := 27) (tgt := 32) dX7_reason_27 (by decide) (bd_lit (by decide)) (fun qz => ?_) (fun qz => ?_)
          · skip
            refine sh_aload_n (pc := 32) dX7_reason_32 rfl rfl ?_
            refine sh_iload_n (pc := 33) dX7_reason_33 rfl rfl ?_
            refine sh_iconst (pc := 34) (v := 3) dX7_reason_34 rfl ?_
            refine k_V2i (pc := 35) is_119 dX7_reason_35 lk_X7_68 rfl h (fun v12 I10 h => ?_)
            obtain ⟨hb_13, h⟩ := h
            refine sh_if_le (pc := 38) (tgt := 43) dX7_reason_38 (by decide) hb_13  (fun q_14 => ?_) (fun q_14 => ?_)
            · replace h := h.1 q_14
              refine sh_aload_n (pc := 43) dX7_reason_43 rfl rfl ?_
              refine sh_iload_n (pc := 44) dX7_reason_44 rfl rfl ?_
              refine sh_aload_n (pc := 45) dX7_reason_45 rfl rfl ?_
              refine sh_aload_n (pc := 46) dX7_reason_46 rfl rfl ?_
              refine sh_getR (pc := 47) dX7_reason_47 fl_X7_7 rfl is_119 pt_119_0 ?_
              refine sh_iconst (pc := 50) (v := 1) dX7_reason_50 rfl ?_
              refine sh_iald (pc := 51) dX7_reason_51 is_120 (by decide) (by decide) ?_
              refine sh_iconst (pc := 52) (v := 0) dX7_reason_52 rfl ?_
              refine k_V2i (pc := 53) is_119 dX7_reason_53 lk_X7_68 rfl h (fun v17 I15 h => ?_)
              refine k_V2i (pc := 56) is_119 dX7_reason_56 lk_X7_98 rfl h (fun v20 I18 h => ?_)
              rcases h with ⟨rfl, h⟩ | ⟨rfl, h⟩
              · skip
                refine sh_if_ne (pc := 59) (tgt := 66) dX7_reason_59 (by decide) (bd_lit (by decide)) (fun qz => ?_) (fun qz => ?_)
                · skip
                  refine sh_aload_n (pc := 66) dX7_reason_66 rfl rfl ?_
                  refine k_V0i (pc := 67) is_119 dX7_reason_67 lk_X7_106 rfl h (fun v23 I21 h => ?_)
                  refine sh_iload_n (pc := 70) dX7_reason_70 rfl rfl ?_
                  obtain ⟨hb_24, h⟩ := h
                  refine sh_icmp_ne (pc := 71) (tgt := 78) dX7_reason_71 (by decide) hb_24 hb_4 (fun q_25 => ?_) (fun q_25 => ?_)
                  · replace h := h.1 q_25
                    refine sh_iconst (pc := 78) (v := 5) dX7_reason_78 rfl ?_
                    exact k_iret dX7_reason_79 rfl h
                  · replace h := h.2 q_25
                    refine sh_iconst (pc := 74) (v := 0) dX7_reason_74 rfl ?_
                    refine sh_goto (pc := 75) (tgt := 79) dX7_reason_75 (by decide) ?_
                    exact k_iret dX7_reason_79 rfl h
                · exact absurd qz (by decide)
              · skip
                refine sh_if_ne (pc := 59) (tgt := 66) dX7_reason_59 (by decide) (bd_lit (by decide)) (fun qz => ?_) (fun qz => ?_)
                · exact absurd qz (by decide)
                · skip
                  refine sh_iconst (pc := 62) (v := 4) dX7_reason_62 rfl ?_
                  refine sh_goto (pc := 63) (tgt := 79) dX7_reason_63 (by decide) ?_
                  exact k_iret dX7_reason_79 rfl h
            · replace h := h.2 q_14
              refine sh_iconst (pc := 41) (v := 3) dX7_reason_41 rfl ?_
              exact k_iret dX7_reason_42 rfl h
          · exact absurd qz (by decide)
        · skip
          refine sh_if_ne (pc := 27) (tgt := 32) dX7_reason_27 (by decide) (bd_lit (by decide)) (fun qz => ?_) (fun qz => ?_)
          · exact absurd qz (by decide)
          · skip
            refine sh_iconst (pc := 30) (v := 2) dX7_reason_30 rfl ?_
            exact k_iret dX7_reason_31 rfl h
      · replace h := h.2 q_6
        refine sh_iconst (pc := 20) (v := 1) dX7_reason_20 rfl ?_
        exact k_iret dX7_reason_21 rfl h
    · exact absurd qz (by decide)
  · skip
    refine sh_if_ne (pc := 5) (tgt := 10) dX7_reason_5 (by decide) (bd_lit (by decide)) (fun qz => ?_) (fun qz => ?_)
    · exact absurd qz (by decide)
    · skip
      refine sh_iconst (pc := 8) (v := (-1)) dX7_reason_8 rfl ?_
      exact k_iret dX7_reason_9 rfl h
set_option maxRecDepth 100000 in
set_option maxHeartbeats 4000000 in
theorem eX7_way {x1 : Int} {I : sh_Mem} {Q : Int → sh_Mem → Prop} (h : kk mX7_way 2 [some (.inr 119), some (.inl x1), some (.inl 0), none, none, none, none, none] [] I (qi Q)) : cc mX7_way [.inr 119, .inl x1] I (qi Q) := by
  refine sh_call cd_X7_way.2.2.2 (Nat.le_of_ble_eq_true rfl) ?_
  show kk mX7_way 0 [some (.inr 119), some (.inl x1), none, none, none, none, none, none] [] I (qi Q)
  refine sh_iconst (pc := 0) (v := 0) dX7_way_0 rfl ?_
  refine k_istore_n (pc := 1) [some (.inr 119), some (.inl x1), some (.inl 0), none, none, none, none, none] dX7_way_1 rfl rfl (by decide) ?_
  exact sh_O.locals h (sub_some (sub_some (sub_some (sub_none (sub_none (sub_none (sub_none (sub_none sub_nil))))))))
set_option maxRecDepth 100000 in
set_option maxHeartbeats 4000000 in
theorem lX7_way_2 {y1 : Int} {y2 : Int} {I : sh_Mem} {Q : Int → sh_Mem → Prop} (h : (sh_Bd y2 ∧ ((100 ≤ y2 → (cc mX7_of [.inr 119, .inl (I 120 1), .inl 0] I (qi fun v5 I3 => ((0 ≤ v5 ∧ v5 < (100 : Int)) ∧ kk mX7_way 43 [some (.inr 119), some (.inl y1), some (.inl 1), some (.inl 0), none, none, none, none] [] (sh_u I3 129 v5 0) (qi Q))))) ∧ (y2 < 100 → ((0 ≤ y2 ∧ y2 < (100 : Int)) ∧ kk mX7_way 2 [some (.inr 119), some (.inl y1), some (.inl (y2 + 1)), none, none, none, none, none] [] (sh_u I 129 y2 (-5)) (qi Q)))))) : kk mX7_way 2 [some (.inr 119), some (.inl y1), some (.inl y2), none, none, none, none, none] [] I (qi Q) := by
  refine sh_iload_n (pc := 2) dX7_way_2 rfl rfl ?_
  refine sh_bipush (pc := 3) (v := 100) dX7_way_3 (by decide) ?_
  obtain ⟨hb_1, h⟩ := h
  refine sh_icmp_ge (pc := 5) (tgt := 22) dX7_way_5 (by decide) hb_1 (bd_lit (by decide)) (fun q_2 => ?_) (fun q_2 => ?_)
  · replace h := h.1 q_2
    refine sh_aload_n (pc := 22) dX7_way_22 rfl rfl ?_
    refine sh_getR (pc := 23) dX7_way_23 fl_X7_44 rfl is_119 pt_119_19 ?_
    refine sh_aload_n (pc := 26) dX7_way_26 rfl rfl ?_
    refine sh_aload_n (pc := 27) dX7_way_27 rfl rfl ?_
    refine sh_getR (pc := 28) dX7_way_28 fl_X7_7 rfl is_119 pt_119_0 ?_
    refine sh_iconst (pc := 31) (v := 1) dX7_way_31 rfl ?_
    refine sh_iald (pc := 32) dX7_way_32 is_120 (by decide) (by decide) ?_
    refine sh_iconst (pc := 33) (v := 0) dX7_way_33 rfl ?_
    refine k_V2i (pc := 34) is_119 dX7_way_34 lk_X7_68 rfl h (fun v5 I3 h => ?_)
    refine sh_iconst (pc := 37) (v := 0) dX7_way_37 rfl ?_
    obtain ⟨hi_6, h⟩ := h
    refine sh_iast (pc := 38) dX7_way_38 is_129 (by decide) hi_6  ?_
    refine sh_iconst (pc := 39) (v := 1) dX7_way_39 rfl ?_
    refine k_istore_n (pc := 40) [some (.inr 119), some (.inl y1), some (.inl 1), none, none, none, none, none] dX7_way_40 rfl rfl (by decide) ?_
    refine sh_iconst (pc := 41) (v := 0) dX7_way_41 rfl ?_
    refine k_istore_n (pc := 42) [some (.inr 119), some (.inl y1), some (.inl 1), some (.inl 0), none, none, none, none] dX7_way_42 rfl rfl (by decide) ?_
    exact sh_O.locals h (sub_some (sub_some (sub_some (sub_some (sub_none (sub_none (sub_none (sub_none sub_nil))))))))
  · replace h := h.2 q_2
    refine sh_aload_n (pc := 8) dX7_way_8 rfl rfl ?_
    refine sh_getR (pc := 9) dX7_way_9 fl_X7_44 rfl is_119 pt_119_19 ?_
    refine sh_iload_n (pc := 12) dX7_way_12 rfl rfl ?_
    refine sh_bipush (pc := 13) (v := (-5)) dX7_way_13 (by decide) ?_
    obtain ⟨hi_7, h⟩ := h
    refine sh_iast (pc := 15) dX7_way_15 is_129 (by decide) hi_7  ?_
    refine k_iinc (pc := 16) [some (.inr 119), some (.inl y1), some (.inl (y2 + 1)), none, none, none, none, none] dX7_way_16 rfl rfl (by decide) ?_
    refine sh_goto (pc := 19) (tgt := 2) dX7_way_19 (by decide) ?_
    exact sh_O.locals h (sub_some (sub_some (sub_some (sub_none (sub_none (sub_none (sub_none (sub_none sub_nil))))))))
set_option maxRecDepth 100000 in
set_option maxHeartbeats 4000000 in
theorem lX7_way_43 {y1 : Int} {y2 : Int} {y3 : Int} {I : sh_Mem} {Q : Int → sh_Mem → Prop} (h : (sh_Bd y2 ∧ ((y2 = 0 → kk mX7_way 175 [some (.inr 119), some (.inl y1), none, some (.inl (-5)), some (.inl 0), none, none, none] [] I (qi Q)) ∧ (¬ y2 = 0 → kk mX7_way 52 [some (.inr 119), some (.inl y1), some (.inl 0), some (.inl y3), some (.inl 0), none, none, none] [] I (qi Q))))) : kk mX7_way 43 [some (.inr 119), some (.inl y1), some (.inl y2), some (.inl y3), none, none, none, none] [] I (qi Q) := by
  refine sh_iload_n (pc := 43) dX7_way_43 rfl rfl ?_
  obtain ⟨hb_1, h⟩ := h
  refine sh_if_eq (pc := 44) (tgt := 169) dX7_way_44 (by decide) hb_1  (fun q_2 => ?_) (fun q_2 => ?_)
  · replace h := h.1 q_2
    refine sh_bipush (pc := 169) (v := (-5)) dX7_way_169 (by decide) ?_
    refine k_istore_n (pc := 171) [some (.inr 119), some (.inl y1), some (.inl y2), some (.inl (-5)), none, none, none, none] dX7_way_171 rfl rfl (by decide) ?_
    refine sh_iconst (pc := 172) (v := 0) dX7_way_172 rfl ?_
    refine k_istore (pc := 173) [some (.inr 119), some (.inl y1), some (.inl y2), some (.inl (-5)), some (.inl 0), none, none, none] dX7_way_173 rfl (by decide) ?_
    exact sh_O.locals h (sub_some (sub_some (sub_none (sub_some (sub_some (sub_none (sub_none (sub_none sub_nil))))))))
  · replace h := h.2 q_2
    refine sh_iconst (pc := 47) (v := 0) dX7_way_47 rfl ?_
    refine k_istore_n (pc := 48) [some (.inr 119), some (.inl y1), some (.inl 0), some (.inl y3), none, none, none, none] dX7_way_48 rfl rfl (by decide) ?_
    refine sh_iconst (pc := 49) (v := 0) dX7_way_49 rfl ?_
    refine k_istore (pc := 50) [some (.inr 119), some (.inl y1), some (.inl 0), some (.inl y3), some (.inl 0), none, none, none] dX7_way_50 rfl (by decide) ?_
    exact sh_O.locals h (sub_some (sub_some (sub_some (sub_some (sub_some (sub_none (sub_none (sub_none sub_nil))))))))
set_option maxRecDepth 100000 in
set_option maxHeartbeats 4000000 in
theorem lX7_way_175 {y1 : Int} {y3 : Int} {y4 : Int} {I : sh_Mem} {Q : Int → sh_Mem → Prop} (h : (sh_Bd y4 ∧ ((100 ≤ y4 → Q y3 I) ∧ (y4 < 100 → ((0 ≤ y4 ∧ y4 < (100 : Int)) ∧ (sh_Bd (I 129 y4) ∧ (((I 129 y4) = (-5) → kk mX7_way 209 [some (.inr 119), some (.inl y1), none, some (.inl y3), some (.inl y4), none, none, none] [.inl 0] I (qi Q)) ∧ (¬ (I 129 y4) = (-5) → (cc mX7_isInShadowOf [.inr 119, .inl y1, .inl y4] I (qi fun v8 I6 => ((v8 = 1 ∧ kk mX7_way 209 [some (.inr 119), some (.inl y1), none, some (.inl y3), some (.inl y4), none, none, none] [.inl 1] I6 (qi Q)) ∨ (v8 = 0 ∧ kk mX7_way 209 [some (.inr 119), some (.inl y1), none, some (.inl y3), some (.inl y4), none, none, none] [.inl 0] I6 (qi Q))))))))))))) : kk mX7_way 175 [some (.inr 119), some (.inl y1), none, some (.inl y3), some (.inl y4), none, none, none] [] I (qi Q) := by
  refine sh_iload (pc := 175) dX7_way_175 rfl ?_
  refine sh_bipush (pc := 177) (v := 100) dX7_way_177 (by decide) ?_
  obtain ⟨hb_1, h⟩ := h
  refine sh_icmp_ge (pc := 179) (tgt := 251) dX7_way_179 (by decide) hb_1 (bd_lit (by decide)) (fun q_2 => ?_) (fun q_2 => ?_)
  · replace h := h.1 q_2
    refine sh_iload_n (pc := 251) dX7_way_251 rfl rfl ?_
    exact k_iret dX7_way_252 rfl h
  · replace h := h.2 q_2
    refine sh_aload_n (pc := 182) dX7_way_182 rfl rfl ?_
    refine sh_getR (pc := 183) dX7_way_183 fl_X7_44 rfl is_119 pt_119_19 ?_
    refine sh_iload (pc := 186) dX7_way_186 rfl ?_
    obtain ⟨hi_3, h⟩ := h
    refine sh_iald (pc := 188) dX7_way_188 is_129 (by decide) hi_3 ?_
    refine sh_bipush (pc := 189) (v := (-5)) dX7_way_189 (by decide) ?_
    obtain ⟨hb_4, h⟩ := h
    refine sh_icmp_eq (pc := 191) (tgt := 208) dX7_way_191 (by decide) hb_4 (bd_lit (by decide)) (fun q_5 => ?_) (fun q_5 => ?_)
    · replace h := h.1 q_5
      refine sh_iconst (pc := 208) (v := 0) dX7_way_208 rfl ?_
      exact sh_O.locals h (sub_some (sub_some (sub_none (sub_some (sub_some (sub_none (sub_none (sub_none sub_nil))))))))
    · replace h := h.2 q_5
      refine sh_aload_n (pc := 194) dX7_way_194 rfl rfl ?_
      refine sh_iload_n (pc := 195) dX7_way_195 rfl rfl ?_
      refine sh_iload (pc := 196) dX7_way_196 rfl ?_
      refine k_V2i (pc := 198) is_119 dX7_way_198 lk_X7_98 rfl h (fun v8 I6 h => ?_)
      rcases h with ⟨rfl, h⟩ | ⟨rfl, h⟩
      · skip
        refine sh_if_eq (pc := 201) (tgt := 208) dX7_way_201 (by decide) (bd_lit (by decide)) (fun qz => ?_) (fun qz => ?_)
        · exact absurd qz (by decide)
        · skip
          refine sh_iconst (pc := 204) (v := 1) dX7_way_204 rfl ?_
          refine sh_goto (pc := 205) (tgt := 209) dX7_way_205 (by decide) ?_
          exact sh_O.locals h (sub_some (sub_some (sub_none (sub_some (sub_some (sub_none (sub_none (sub_none sub_nil))))))))
      · skip
        refine sh_if_eq (pc := 201) (tgt := 208) dX7_way_201 (by decide) (bd_lit (by decide)) (fun qz => ?_) (fun qz => ?_)
        · skip
          refine sh_iconst (pc := 208) (v := 0) dX7_way_208 rfl ?_
          exact sh_O.locals h (sub_some (sub_some (sub_none (sub_some (sub_some (sub_none (sub_none (sub_none sub_nil))))))))
        · exact absurd qz (by decide)
set_option maxRecDepth 100000 in
set_option maxHeartbeats 4000000 in
theorem lX7_way_52 {y1 : Int} {y2 : Int} {y3 : Int} {y4 : Int} {I : sh_Mem} {Q : Int → sh_Mem → Prop} (h : (sh_Bd y4 ∧ ((100 ≤ y4 → kk mX7_way 43 [some (.inr 119), some (.inl y1), some (.inl y2), some (.inl (y3 + 1)), none, none, none, none] [] I (qi Q)) ∧ (y4 < 100 → kk mX7_way 62 [some (.inr 119), some (.inl y1), some (.inl y2), some (.inl y3), some (.inl y4), some (.inl 0), none, none] [] I (qi Q))))) : kk mX7_way 52 [some (.inr 119), some (.inl y1), some (.inl y2), some (.inl y3), some (.inl y4), none, none, none] [] I (qi Q) := by
  refine sh_iload (pc := 52) dX7_way_52 rfl ?_
  refine sh_bipush (pc := 54) (v := 100) dX7_way_54 (by decide) ?_
  obtain ⟨hb_1, h⟩ := h
  refine sh_icmp_ge (pc := 56) (tgt := 163) dX7_way_56 (by decide) hb_1 (bd_lit (by decide)) (fun q_2 => ?_) (fun q_2 => ?_)
  · replace h := h.1 q_2
    refine k_iinc (pc := 163) [some (.inr 119), some (.inl y1), some (.inl y2), some (.inl (y3 + 1)), some (.inl y4), none, none, none] dX7_way_163 rfl rfl (by decide) ?_
    refine sh_goto (pc := 166) (tgt := 43) dX7_way_166 (by decide) ?_
    exact sh_O.locals h (sub_some (sub_some (sub_some (sub_some (sub_none (sub_none (sub_none (sub_none sub_nil))))))))
  · replace h := h.2 q_2
    refine sh_iconst (pc := 59) (v := 0) dX7_way_59 rfl ?_
    refine k_istore (pc := 60) [some (.inr 119), some (.inl y1), some (.inl y2), some (.inl y3), some (.inl y4), some (.inl 0), none, none] dX7_way_60 rfl (by decide) ?_
    exact sh_O.locals h (sub_some (sub_some (sub_some (sub_some (sub_some (sub_some (sub_none (sub_none sub_nil))))))))
set_option maxRecDepth 100000 in
set_option maxHeartbeats 4000000 in
theorem lX7_way_209 {y1 : Int} {y3 : Int} {y4 : Int} {z0 : Int} {I : sh_Mem} {Q : Int → sh_Mem → Prop} (h : (sh_Bd z0 ∧ ((z0 = 0 → kk mX7_way 175 [some (.inr 119), some (.inl y1), none, some (.inl y3), some (.inl (y4 + 1)), none, none, none] [] I (qi Q)) ∧ (¬ z0 = 0 → (sh_Bd y3 ∧ ((y3 = (-5) → ((0 ≤ y4 ∧ y4 < (100 : Int)) ∧ kk mX7_way 175 [some (.inr 119), some (.inl y1), none, some (.inl (I 129 y4)), some (.inl (y4 + 1)), none, none, none] [] I (qi Q))) ∧ (¬ y3 = (-5) → ((0 ≤ y4 ∧ y4 < (100 : Int)) ∧ (sh_Bd (I 129 y4) ∧ ((y3 ≤ (I 129 y4) → kk mX7_way 175 [some (.inr 119), some (.inl y1), none, some (.inl y3), some (.inl (y4 + 1)), none, none, none] [] I (qi Q)) ∧ ((I 129 y4) < y3 → kk mX7_way 175 [some (.inr 119), some (.inl y1), none, some (.inl (I 129 y4)), some (.inl (y4 + 1)), none, none, none] [] I (qi Q)))))))))))) : kk mX7_way 209 [some (.inr 119), some (.inl y1), none, some (.inl y3), some (.inl y4), none, none, none] [.inl z0] I (qi Q) := by
  refine k_istore (pc := 209) [some (.inr 119), some (.inl y1), none, some (.inl y3), some (.inl y4), some (.inl z0), none, none] dX7_way_209 rfl (by decide) ?_
  refine sh_iload (pc := 211) dX7_way_211 rfl ?_
  obtain ⟨hb_1, h⟩ := h
  refine sh_if_eq (pc := 213) (tgt := 243) dX7_way_213 (by decide) hb_1  (fun q_2 => ?_) (fun q_2 => ?_)
  · replace h := h.1 q_2
    refine sh_iload_n (pc := 243) dX7_way_243 rfl rfl ?_
    refine k_istore_n (pc := 244) [some (.inr 119), some (.inl y1), none, some (.inl y3), some (.inl y4), some (.inl z0), none, none] dX7_way_244 rfl rfl (by decide) ?_
    refine k_iinc (pc := 245) [some (.inr 119), some (.inl y1), none, some (.inl y3), some (.inl (y4 + 1)), some (.inl z0), none, none] dX7_way_245 rfl rfl (by decide) ?_
    refine sh_goto (pc := 248) (tgt := 175) dX7_way_248 (by decide) ?_
    exact sh_O.locals h (sub_some (sub_some (sub_none (sub_some (sub_some (sub_none (sub_none (sub_none sub_nil))))))))
  · replace h := h.2 q_2
    refine sh_iload_n (pc := 216) dX7_way_216 rfl rfl ?_
    refine sh_bipush (pc := 217) (v := (-5)) dX7_way_217 (by decide) ?_
    obtain ⟨hb_3, h⟩ := h
    refine sh_icmp_eq (pc := 219) (tgt := 233) dX7_way_219 (by decide) hb_3 (bd_lit (by decide)) (fun q_4 => ?_) (fun q_4 => ?_)
    · replace h := h.1 q_4
      refine sh_aload_n (pc := 233) dX7_way_233 rfl rfl ?_
      refine sh_getR (pc := 234) dX7_way_234 fl_X7_44 rfl is_119 pt_119_19 ?_
      refine sh_iload (pc := 237) dX7_way_237 rfl ?_
      obtain ⟨hi_5, h⟩ := h
      refine sh_iald (pc := 239) dX7_way_239 is_129 (by decide) hi_5 ?_
      refine sh_goto (pc := 240) (tgt := 244) dX7_way_240 (by decide) ?_
      refine k_istore_n (pc := 244) [some (.inr 119), some (.inl y1), none, some (.inl (I 129 y4)), some (.inl y4), some (.inl z0), none, none] dX7_way_244 rfl rfl (by decide) ?_
      refine k_iinc (pc := 245) [some (.inr 119), some (.inl y1), none, some (.inl (I 129 y4)), some (.inl (y4 + 1)), some (.inl z0), none, none] dX7_way_245 rfl rfl (by decide) ?_
      refine sh_goto (pc := 248) (tgt := 175) dX7_way_248 (by decide) ?_
      exact sh_O.locals h (sub_some (sub_some (sub_none (sub_some (sub_some (sub_none (sub_none (sub_none sub_nil))))))))
    · replace h := h.2 q_4
      refine sh_aload_n (pc := 222) dX7_way_222 rfl rfl ?_
      refine sh_getR (pc := 223) dX7_way_223 fl_X7_44 rfl is_119 pt_119_19 ?_
      refine sh_iload (pc := 226) dX7_way_226 rfl ?_
      obtain ⟨hi_6, h⟩ := h
      refine sh_iald (pc := 228) dX7_way_228 is_129 (by decide) hi_6 ?_
      refine sh_iload_n (pc := 229) dX7_way_229 rfl rfl ?_
      obtain ⟨hb_7, h⟩ := h
      refine sh_icmp_ge (pc := 230) (tgt := 243) dX7_way_230 (by decide) hb_7 hb_3 (fun q_8 => ?_) (fun q_8 => ?_)
      · replace h := h.1 q_8
        refine sh_iload_n (pc := 243) dX7_way_243 rfl rfl ?_
        refine k_istore_n (pc := 244) [some (.inr 119), some (.inl y1), none, some (.inl y3), some (.inl y4), some (.inl z0), none, none] dX7_way_244 rfl rfl (by decide) ?_
        refine k_iinc (pc := 245) [some (.inr 119), some (.inl y1), none, some (.inl y3), some (.inl (y4 + 1)), some (.inl z0), none, none] dX7_way_245 rfl rfl (by decide) ?_
        refine sh_goto (pc := 248) (tgt := 175) dX7_way_248 (by decide) ?_
        exact sh_O.locals h (sub_some (sub_some (sub_none (sub_some (sub_some (sub_none (sub_none (sub_none sub_nil))))))))
      · replace h := h.2 q_8
        refine sh_aload_n (pc := 233) dX7_way_233 rfl rfl ?_
        refine sh_getR (pc := 234) dX7_way_234 fl_X7_44 rfl is_119 pt_119_19 ?_
        refine sh_iload (pc := 237) dX7_way_237 rfl ?_
        refine sh_iald (pc := 239) dX7_way_239 is_129 (by decide) hi_6 ?_
        refine sh_goto (pc := 240) (tgt := 244) dX7_way_240 (by decide) ?_
        refine k_istore_n (pc := 244) [some (.inr 119), some (.inl y1), none, some (.inl (I 129 y4)), some (.inl y4), some (.inl z0), none, none] dX7_way_244 rfl rfl (by decide) ?_
        refine k_iinc (pc := 245) [some (.inr 119), some (.inl y1), none, some (.inl (I 129 y4)), some (.inl (y4 + 1)), some (.inl z0), none, none] dX7_way_245 rfl rfl (by decide) ?_
        refine sh_goto (pc := 248) (tgt := 175) dX7_way_248 (by decide) ?_
        exact sh_O.locals h (sub_some (sub_some (sub_none (sub_some (sub_some (sub_none (sub_none (sub_none sub_nil))))))))
set_option maxRecDepth 100000 in
set_option maxHeartbeats 4000000 in
theorem lX7_way_62 {y1 : Int} {y2 : Int} {y3 : Int} {y4 : Int} {y5 : Int} {I : sh_Mem} {Q : Int → sh_Mem → Prop} (h : (sh_Bd y5 ∧ ((4 ≤ y5 → kk mX7_way 52 [some (.inr 119), some (.inl y1), some (.inl y2), some (.inl y3), some (.inl (y4 + 1)), none, none, none] [] I (qi Q)) ∧ (y5 < 4 → ((0 ≤ y4 ∧ y4 < (100 : Int)) ∧ (sh_Bd (I 129 y4) ∧ (sh_Bd y3 ∧ ((¬ (I 129 y4) = y3 → kk mX7_way 52 [some (.inr 119), some (.inl y1), some (.inl y2), some (.inl y3), some (.inl (y4 + 1)), none, none, none] [] I (qi Q)) ∧ ((I 129 y4) = y3 → (cc mX7_next [.inl y4, .inl y5] I (qi fun v9 I7 => (sh_Bd v9 ∧ ((v9 = (-5) → kk mX7_way 131 [some (.inr 119), some (.inl y1), some (.inl y2), some (.inl y3), some (.inl y4), some (.inl y5), some (.inl v9), none] [] I7 (qi Q)) ∧ (¬ v9 = (-5) → ((0 ≤ v9 → ((0 ≤ v9 ∧ v9 < (100 : Int)) ∧ (sh_Bd (I7 129 v9) ∧ ((¬ (I7 129 v9) = (-5) → kk mX7_way 131 [some (.inr 119), some (.inl y1), some (.inl y2), some (.inl y3), some (.inl y4), some (.inl y5), some (.inl v9), none] [] I7 (qi Q)) ∧ ((I7 129 v9) = (-5) → (cc mX7_runnerAt [.inr 119, .inl v9] I7 (qi fun v18 I16 => (sh_Bd v18 ∧ ((¬ v18 = (-5) → kk mX7_way 131 [some (.inr 119), some (.inl y1), some (.inl y2), some (.inl y3), some (.inl y4), some (.inl y5), some (.inl v9), none] [] I16 (qi Q)) ∧ (v18 = (-5) → kk mX7_way 132 [some (.inr 119), some (.inl y1), some (.inl y2), some (.inl y3), some (.inl y4), some (.inl y5), some (.inl v9), none] [.inl 1] I16 (qi Q))))))))))) ∧ (v9 < 0 → (sh_Bd (I7 129 0) ∧ ((¬ (I7 129 0) = (-5) → kk mX7_way 131 [some (.inr 119), some (.inl y1), some (.inl y2), some (.inl y3), some (.inl y4), some (.inl y5), some (.inl v9), none] [] I7 (qi Q)) ∧ ((I7 129 0) = (-5) → (cc mX7_runnerAt [.inr 119, .inl v9] I7 (qi fun v25 I23 => (sh_Bd v25 ∧ ((¬ v25 = (-5) → kk mX7_way 131 [some (.inr 119), some (.inl y1), some (.inl y2), some (.inl y3), some (.inl y4), some (.inl y5), some (.inl v9), none] [] I23 (qi Q)) ∧ (v25 = (-5) → kk mX7_way 132 [some (.inr 119), some (.inl y1), some (.inl y2), some (.inl y3), some (.inl y4), some (.inl y5), some (.inl v9), none] [.inl 1] I23 (qi Q))))))))))))))))))))))))) : kk mX7_way 62 [some (.inr 119), some (.inl y1), some (.inl y2), some (.inl y3), some (.inl y4), some (.inl y5), none, none] [] I (qi Q) := by
  refine sh_iload (pc := 62) dX7_way_62 rfl ?_
  refine sh_iconst (pc := 64) (v := 4) dX7_way_64 rfl ?_
  obtain ⟨hb_1, h⟩ := h
  refine sh_icmp_ge (pc := 65) (tgt := 157) dX7_way_65 (by decide) hb_1 (bd_lit (by decide)) (fun q_2 => ?_) (fun q_2 => ?_)
  · replace h := h.1 q_2
    refine k_iinc (pc := 157) [some (.inr 119), some (.inl y1), some (.inl y2), some (.inl y3), some (.inl (y4 + 1)), some (.inl y5), none, none] dX7_way_157 rfl rfl (by decide) ?_
    refine sh_goto (pc := 160) (tgt := 52) dX7_way_160 (by decide) ?_
    exact sh_O.locals h (sub_some (sub_some (sub_some (sub_some (sub_some (sub_none (sub_none (sub_none sub_nil))))))))
  · replace h := h.2 q_2
    refine sh_aload_n (pc := 68) dX7_way_68 rfl rfl ?_
    refine sh_getR (pc := 69) dX7_way_69 fl_X7_44 rfl is_119 pt_119_19 ?_
    refine sh_iload (pc := 72) dX7_way_72 rfl ?_
    obtain ⟨hi_3, h⟩ := h
    refine sh_iald (pc := 74) dX7_way_74 is_129 (by decide) hi_3 ?_
    refine sh_iload_n (pc := 75) dX7_way_75 rfl rfl ?_
    obtain ⟨hb_4, h⟩ := h
    obtain ⟨hb_5, h⟩ := h
    refine sh_icmp_ne (pc := 76) (tgt := 157) dX7_way_76 (by decide) hb_4 hb_5 (fun q_6 => ?_) (fun q_6 => ?_)
    · replace h := h.1 q_6
      refine k_iinc (pc := 157) [some (.inr 119), some (.inl y1), some (.inl y2), some (.inl y3), some (.inl (y4 + 1)), some (.inl y5), none, none] dX7_way_157 rfl rfl (by decide) ?_
      refine sh_goto (pc := 160) (tgt := 52) dX7_way_160 (by decide) ?_
      exact sh_O.locals h (sub_some (sub_some (sub_some (sub_some (sub_some (sub_none (sub_none (sub_none sub_nil))))))))
    · replace h := h.2 q_6
      refine sh_iload (pc := 79) dX7_way_79 rfl ?_
      refine sh_iload (pc := 81) dX7_way_81 rfl ?_
      refine k_S2i (pc := 83) dX7_way_83 lk_X7_81 rfl h (fun v9 I7 h => ?_)
      refine k_istore (pc := 86) [some (.inr 119), some (.inl y1), some (.inl y2), some (.inl y3), some (.inl y4), some (.inl y5), some (.inl v9), none] dX7_way_86 rfl (by decide) ?_
      refine sh_iload (pc := 88) dX7_way_88 rfl ?_
      refine sh_bipush (pc := 90) (v := (-5)) dX7_way_90 (by decide) ?_
      obtain ⟨hb_10, h⟩ := h
      refine sh_icmp_eq (pc := 92) (tgt := 131) dX7_way_92 (by decide) hb_10 (bd_lit (by decide)) (fun q_11 => ?_) (fun q_11 => ?_)
      · replace h := h.1 q_11
        exact sh_O.locals h (sub_some (sub_some (sub_some (sub_some (sub_some (sub_some (sub_some (sub_none sub_nil))))))))
      · replace h := h.2 q_11
        refine sh_aload_n (pc := 95) dX7_way_95 rfl rfl ?_
        refine sh_getR (pc := 96) dX7_way_96 fl_X7_44 rfl is_119 pt_119_19 ?_
        refine sh_iload (pc := 99) dX7_way_99 rfl ?_
        refine sh_if_ge (pc := 101) (tgt := 108) dX7_way_101 (by decide) hb_10  (fun q_12 => ?_) (fun q_12 => ?_)
        · replace h := h.1 q_12
          refine sh_iload (pc := 108) dX7_way_108 rfl ?_
          obtain ⟨hi_13, h⟩ := h
          refine sh_iald (pc := 110) dX7_way_110 is_129 (by decide) hi_13 ?_
          refine sh_bipush (pc := 111) (v := (-5)) dX7_way_111 (by decide) ?_
          obtain ⟨hb_14, h⟩ := h
          refine sh_icmp_ne (pc := 113) (tgt := 131) dX7_way_113 (by decide) hb_14 (bd_lit (by decide)) (fun q_15 => ?_) (fun q_15 => ?_)
          · replace h := h.1 q_15
            exact sh_O.locals h (sub_some (sub_some (sub_some (sub_some (sub_some (sub_some (sub_some (sub_none sub_nil))))))))
          · replace h := h.2 q_15
            refine sh_aload_n (pc := 116) dX7_way_116 rfl rfl ?_
            refine sh_iload (pc := 117) dX7_way_117 rfl ?_
            refine k_V1i (pc := 119) is_119 dX7_way_119 lk_X7_84 rfl h (fun v18 I16 h => ?_)
            refine sh_bipush (pc := 122) (v := (-5)) dX7_way_122 (by decide) ?_
            obtain ⟨hb_19, h⟩ := h
            refine sh_icmp_ne (pc := 124) (tgt := 131) dX7_way_124 (by decide) hb_19 (bd_lit (by decide)) (fun q_20 => ?_) (fun q_20 => ?_)
            · replace h := h.1 q_20
              exact sh_O.locals h (sub_some (sub_some (sub_some (sub_some (sub_some (sub_some (sub_some (sub_none sub_nil))))))))
            · replace h := h.2 q_20
              refine sh_iconst (pc := 127) (v := 1) dX7_way_127 rfl ?_
              refine sh_goto (pc := 128) (tgt := 132) dX7_way_128 (by decide) ?_
              exact sh_O.locals h (sub_some (sub_some (sub_some (sub_some (sub_some (sub_some (sub_some (sub_none sub_nil))))))))
        · replace h := h.2 q_12
          refine sh_iconst (pc := 104) (v := 0) dX7_way_104 rfl ?_
          refine sh_goto (pc := 105) (tgt := 110) dX7_way_105 (by decide) ?_
          refine sh_iald (pc := 110) dX7_way_110 is_129 (by decide) (by decide) ?_
          refine sh_bipush (pc := 111) (v := (-5)) dX7_way_111 (by decide) ?_
          obtain ⟨hb_21, h⟩ := h
          refine sh_icmp_ne (pc := 113) (tgt := 131) dX7_way_113 (by decide) hb_21 (bd_lit (by decide)) (fun q_22 => ?_) (fun q_22 => ?_)
          · replace h := h.1 q_22
            exact sh_O.locals h (sub_some (sub_some (sub_some (sub_some (sub_some (sub_some (sub_some (sub_none sub_nil))))))))
          · replace h := h.2 q_22
            refine sh_aload_n (pc := 116) dX7_way_116 rfl rfl ?_
            refine sh_iload (pc := 117) dX7_way_117 rfl ?_
            refine k_V1i (pc := 119) is_119 dX7_way_119 lk_X7_84 rfl h (fun v25 I23 h => ?_)
            refine sh_bipush (pc := 122) (v := (-5)) dX7_way_122 (by decide) ?_
            obtain ⟨hb_26, h⟩ := h
            refine sh_icmp_ne (pc := 124) (tgt := 131) dX7_way_124 (by decide) hb_26 (bd_lit (by decide)) (fun q_27 => ?_) (fun q_27 => ?_)
            · replace h := h.1 q_27
              exact sh_O.locals h (sub_some (sub_some (sub_some (sub_some (sub_some (sub_some (sub_some (sub_none sub_nil))))))))
            · replace h := h.2 q_27
              refine sh_iconst (pc := 127) (v := 1) dX7_way_127 rfl ?_
              refine sh_goto (pc := 128) (tgt := 132) dX7_way_128 (by decide) ?_
              exact sh_O.locals h (sub_some (sub_some (sub_some (sub_some (sub_some (sub_some (sub_some (sub_none sub_nil))))))))
set_option maxRecDepth 100000 in
set_option maxHeartbeats 4000000 in
theorem lX7_way_131 {y1 : Int} {y2 : Int} {y3 : Int} {y4 : Int} {y5 : Int} {y6 : Int} {I : sh_Mem} {Q : Int → sh_Mem → Prop} (h : kk mX7_way 132 [some (.inr 119), some (.inl y1), some (.inl y2), some (.inl y3), some (.inl y4), some (.inl y5), some (.inl y6), none] [.inl 0] I (qi Q)) : kk mX7_way 131 [some (.inr 119), some (.inl y1), some (.inl y2), some (.inl y3), some (.inl y4), some (.inl y5), some (.inl y6), none] [] I (qi Q) := by
  refine sh_iconst (pc := 131) (v := 0) dX7_way_131 rfl ?_
  exact sh_O.locals h (sub_some (sub_some (sub_some (sub_some (sub_some (sub_some (sub_some (sub_none sub_nil))))))))
set_option maxRecDepth 100000 in
set_option maxHeartbeats 4000000 in
theorem lX7_way_132 {y1 : Int} {y2 : Int} {y3 : Int} {y4 : Int} {y5 : Int} {y6 : Int} {z0 : Int} {I : sh_Mem} {Q : Int → sh_Mem → Prop} (h : (sh_Bd z0 ∧ ((z0 = 0 → kk mX7_way 62 [some (.inr 119), some (.inl y1), some (.inl y2), some (.inl y3), some (.inl y4), some (.inl (y5 + 1)), none, none] [] I (qi Q)) ∧ (¬ z0 = 0 → ((0 ≤ y6 ∧ y6 < (100 : Int)) ∧ kk mX7_way 62 [some (.inr 119), some (.inl y1), some (.inl 1), some (.inl y3), some (.inl y4), some (.inl (y5 + 1)), none, none] [] (sh_u I 129 y6 (y3 + 1)) (qi Q)))))) : kk mX7_way 132 [some (.inr 119), some (.inl y1), some (.inl y2), some (.inl y3), some (.inl y4), some (.inl y5), some (.inl y6), none] [.inl z0] I (qi Q) := by
  refine k_istore (pc := 132) [some (.inr 119), some (.inl y1), some (.inl y2), some (.inl y3), some (.inl y4), some (.inl y5), some (.inl y6), some (.inl z0)] dX7_way_132 rfl (by decide) ?_
  refine sh_iload (pc := 134) dX7_way_134 rfl ?_
  obtain ⟨hb_1, h⟩ := h
  refine sh_if_eq (pc := 136) (tgt := 151) dX7_way_136 (by decide) hb_1  (fun q_2 => ?_) (fun q_2 => ?_)
  · replace h := h.1 q_2
    refine k_iinc (pc := 151) [some (.inr 119), some (.inl y1), some (.inl y2), some (.inl y3), some (.inl y4), some (.inl (y5 + 1)), some (.inl y6), some (.inl z0)] dX7_way_151 rfl rfl (by decide) ?_
    refine sh_goto (pc := 154) (tgt := 62) dX7_way_154 (by decide) ?_
    exact sh_O.locals h (sub_some (sub_some (sub_some (sub_some (sub_some (sub_some (sub_none (sub_none sub_nil))))))))
  · replace h := h.2 q_2
    refine sh_aload_n (pc := 139) dX7_way_139 rfl rfl ?_
    refine sh_getR (pc := 140) dX7_way_140 fl_X7_44 rfl is_119 pt_119_19 ?_
    refine sh_iload (pc := 143) dX7_way_143 rfl ?_
    refine sh_iload_n (pc := 145) dX7_way_145 rfl rfl ?_
    refine sh_iconst (pc := 146) (v := 1) dX7_way_146 rfl ?_
    refine sh_iadd (pc := 147) dX7_way_147 ?_
    obtain ⟨hi_3, h⟩ := h
    refine sh_iast (pc := 148) dX7_way_148 is_129 (by decide) hi_3  ?_
    refine sh_iconst (pc := 149) (v := 1) dX7_way_149 rfl ?_
    refine k_istore_n (pc := 150) [some (.inr 119), some (.inl y1), some (.inl 1), some (.inl y3), some (.inl y4), some (.inl y5), some (.inl y6), some (.inl z0)] dX7_way_150 rfl rfl (by decide) ?_
    refine k_iinc (pc := 151) [some (.inr 119), some (.inl y1), some (.inl 1), some (.inl y3), some (.inl y4), some (.inl (y5 + 1)), some (.inl y6), some (.inl z0)] dX7_way_151 rfl rfl (by decide) ?_
    refine sh_goto (pc := 154) (tgt := 62) dX7_way_154 (by decide) ?_
    exact sh_O.locals h (sub_some (sub_some (sub_some (sub_some (sub_some (sub_some (sub_none (sub_none sub_nil))))))))
set_option maxRecDepth 100000 in
set_option maxHeartbeats 4000000 in
theorem eX7_isSought {x1 : Int} {I : sh_Mem} {Q : Int → sh_Mem → Prop} (h : (sh_Bd x1 ∧ (sh_Bd (I 120 1) ∧ ((x1 = (I 120 1) → Q 0 I) ∧ (¬ x1 = (I 120 1) → (cc mX7_of [.inr 119, .inl x1, .inl 3] I (qi fun v6 I4 => (sh_Bd v6 ∧ ((¬ v6 = 0 → Q 0 I4) ∧ (v6 = 0 → (cc mX7_hasShadow [.inr 119, .inl x1] I4 (qi fun v11 I9 => ((v11 = 1 ∧ Q 1 I9) ∨ (v11 = 0 ∧ Q 0 I9)))))))))))))) : cc mX7_isSought [.inr 119, .inl x1] I (qi Q) := by
  refine sh_call cd_X7_isSought.2.2.2 (Nat.le_of_ble_eq_true rfl) ?_
  show kk mX7_isSought 0 [some (.inr 119), some (.inl x1)] [] I (qi Q)
  refine sh_iload_n (pc := 0) dX7_isSought_0 rfl rfl ?_
  refine sh_aload_n (pc := 1) dX7_isSought_1 rfl rfl ?_
  refine sh_getR (pc := 2) dX7_isSought_2 fl_X7_7 rfl is_119 pt_119_0 ?_
  refine sh_iconst (pc := 5) (v := 1) dX7_isSought_5 rfl ?_
  refine sh_iald (pc := 6) dX7_isSought_6 is_120 (by decide) (by decide) ?_
  obtain ⟨hb_1, h⟩ := h
  obtain ⟨hb_2, h⟩ := h
  refine sh_icmp_eq (pc := 7) (tgt := 31) dX7_isSought_7 (by decide) hb_1 hb_2 (fun q_3 => ?_) (fun q_3 => ?_)
  · replace h := h.1 q_3
    refine sh_iconst (pc := 31) (v := 0) dX7_isSought_31 rfl ?_
    exact k_zret dX7_isSought_32 rfl (Or.inl rfl) h
  · replace h := h.2 q_3
    refine sh_aload_n (pc := 10) dX7_isSought_10 rfl rfl ?_
    refine sh_iload_n (pc := 11) dX7_isSought_11 rfl rfl ?_
    refine sh_iconst (pc := 12) (v := 3) dX7_isSought_12 rfl ?_
    refine k_V2i (pc := 13) is_119 dX7_isSought_13 lk_X7_68 rfl h (fun v6 I4 h => ?_)
    obtain ⟨hb_7, h⟩ := h
    refine sh_if_ne (pc := 16) (tgt := 31) dX7_isSought_16 (by decide) hb_7  (fun q_8 => ?_) (fun q_8 => ?_)
    · replace h := h.1 q_8
      refine sh_iconst (pc := 31) (v := 0) dX7_isSought_31 rfl ?_
      exact k_zret dX7_isSought_32 rfl (Or.inl rfl) h
    · replace h := h.2 q_8
      refine sh_aload_n (pc := 19) dX7_isSought_19 rfl rfl ?_
      refine sh_iload_n (pc := 20) dX7_isSought_20 rfl rfl ?_
      refine k_V1i (pc := 21) is_119 dX7_isSought_21 lk_X7_204 rfl h (fun v11 I9 h => ?_)
      rcases h with ⟨rfl, h⟩ | ⟨rfl, h⟩
      · skip
        refine sh_if_eq (pc := 24) (tgt := 31) dX7_isSought_24 (by decide) (bd_lit (by decide)) (fun qz => ?_) (fun qz => ?_)
        · exact absurd qz (by decide)
        · skip
          refine sh_iconst (pc := 27) (v := 1) dX7_isSought_27 rfl ?_
          refine sh_goto (pc := 28) (tgt := 32) dX7_isSought_28 (by decide) ?_
          exact k_zret dX7_isSought_32 rfl (Or.inr rfl) h
      · skip
        refine sh_if_eq (pc := 24) (tgt := 31) dX7_isSought_24 (by decide) (bd_lit (by decide)) (fun qz => ?_) (fun qz => ?_)
        · skip
          refine sh_iconst (pc := 31) (v := 0) dX7_isSought_31 rfl ?_
          exact k_zret dX7_isSought_32 rfl (Or.inl rfl) h
        · exact absurd qz (by decide)
set_option maxRecDepth 100000 in
set_option maxHeartbeats 4000000 in
theorem eX7_stepsTo {x1 : Int} {I : sh_Mem} {Q : Int → sh_Mem → Prop} (h : (cc mX7_isRunner [.inr 119, .inl x1] I (qi fun v3 I1 => ((v3 = 1 ∧ (cc mX7_isSought [.inr 119, .inl x1] I1 (qi fun v6 I4 => ((v6 = 1 ∧ (cc mX7_way [.inr 119, .inl x1] I4 (qi fun v9 I7 => Q v9 I7))) ∨ (v6 = 0 ∧ Q (-4) I4))))) ∨ (v3 = 0 ∧ Q (-1) I1))))) : cc mX7_stepsTo [.inr 119, .inl x1] I (qi Q) := by
  refine sh_call cd_X7_stepsTo.2.2.2 (Nat.le_of_ble_eq_true rfl) ?_
  show kk mX7_stepsTo 0 [some (.inr 119), some (.inl x1)] [] I (qi Q)
  refine sh_aload_n (pc := 0) dX7_stepsTo_0 rfl rfl ?_
  refine sh_iload_n (pc := 1) dX7_stepsTo_1 rfl rfl ?_
  refine k_V1i (pc := 2) is_119 dX7_stepsTo_2 lk_X7_120 rfl h (fun v3 I1 h => ?_)
  rcases h with ⟨rfl, h⟩ | ⟨rfl, h⟩
  · skip
    refine sh_if_ne (pc := 5) (tgt := 10) dX7_stepsTo_5 (by decide) (bd_lit (by decide)) (fun qz => ?_) (fun qz => ?_)
    · skip
      refine sh_aload_n (pc := 10) dX7_stepsTo_10 rfl rfl ?_
      refine sh_iload_n (pc := 11) dX7_stepsTo_11 rfl rfl ?_
      refine k_V1i (pc := 12) is_119 dX7_stepsTo_12 lk_X7_207 rfl h (fun v6 I4 h => ?_)
      rcases h with ⟨rfl, h⟩ | ⟨rfl, h⟩
      · skip
        refine sh_if_eq (pc := 15) (tgt := 26) dX7_stepsTo_15 (by decide) (bd_lit (by decide)) (fun qz => ?_) (fun qz => ?_)
        · exact absurd qz (by decide)
        · skip
          refine sh_aload_n (pc := 18) dX7_stepsTo_18 rfl rfl ?_
          refine sh_iload_n (pc := 19) dX7_stepsTo_19 rfl rfl ?_
          refine k_V1i (pc := 20) is_119 dX7_stepsTo_20 lk_X7_210 rfl h (fun v9 I7 h => ?_)
          refine sh_goto (pc := 23) (tgt := 28) dX7_stepsTo_23 (by decide) ?_
          exact k_iret dX7_stepsTo_28 rfl h
      · skip
        refine sh_if_eq (pc := 15) (tgt := 26) dX7_stepsTo_15 (by decide) (bd_lit (by decide)) (fun qz => ?_) (fun qz => ?_)
        · skip
          refine sh_bipush (pc := 26) (v := (-4)) dX7_stepsTo_26 (by decide) ?_
          exact k_iret dX7_stepsTo_28 rfl h
        · exact absurd qz (by decide)
    · exact absurd qz (by decide)
  · skip
    refine sh_if_ne (pc := 5) (tgt := 10) dX7_stepsTo_5 (by decide) (bd_lit (by decide)) (fun qz => ?_) (fun qz => ?_)
    · exact absurd qz (by decide)
    · skip
      refine sh_iconst (pc := 8) (v := (-1)) dX7_stepsTo_8 rfl ?_
      exact k_iret dX7_stepsTo_9 rfl h
set_option maxRecDepth 100000 in
set_option maxHeartbeats 4000000 in
theorem eX7_safest  {I : sh_Mem} {Q : Int → sh_Mem → Prop} (h : kk mX7_safest 7 [some (.inr 119), some (.inl (-5)), some (.inl 0), some (.inl 0), none, none, none] [] I (qi Q)) : cc mX7_safest [.inr 119] I (qi Q) := by
  refine sh_call cd_X7_safest.2.2.2 (Nat.le_of_ble_eq_true rfl) ?_
  show kk mX7_safest 0 [some (.inr 119), none, none, none, none, none, none] [] I (qi Q)
  refine sh_bipush (pc := 0) (v := (-5)) dX7_safest_0 (by decide) ?_
  refine k_istore_n (pc := 2) [some (.inr 119), some (.inl (-5)), none, none, none, none, none] dX7_safest_2 rfl rfl (by decide) ?_
  refine sh_iconst (pc := 3) (v := 0) dX7_safest_3 rfl ?_
  refine k_istore_n (pc := 4) [some (.inr 119), some (.inl (-5)), some (.inl 0), none, none, none, none] dX7_safest_4 rfl rfl (by decide) ?_
  refine sh_iconst (pc := 5) (v := 0) dX7_safest_5 rfl ?_
  refine k_istore_n (pc := 6) [some (.inr 119), some (.inl (-5)), some (.inl 0), some (.inl 0), none, none, none] dX7_safest_6 rfl rfl (by decide) ?_
  exact sh_O.locals h (sub_some (sub_some (sub_some (sub_some (sub_none (sub_none (sub_none sub_nil)))))))
set_option maxRecDepth 100000 in
set_option maxHeartbeats 4000000 in
theorem lX7_safest_7 {y1 : Int} {y2 : Int} {y3 : Int} {I : sh_Mem} {Q : Int → sh_Mem → Prop} (h : (sh_Bd y3 ∧ (sh_Bd (I 120 20) ∧ (((I 120 20) ≤ y3 → Q y1 I) ∧ (y3 < (I 120 20) → (cc mX7_isSought [.inr 119, .inl y3] I (qi fun v6 I4 => ((v6 = 1 ∧ (cc mX7_way [.inr 119, .inl y3] I4 (qi fun v9 I7 => (sh_Bd v9 ∧ ((¬ v9 = (-5) → kk mX7_safest 53 [some (.inr 119), some (.inl y1), some (.inl y2), some (.inl y3), none, none, none] [.inl v9] I7 (qi Q)) ∧ (v9 = (-5) → kk mX7_safest 53 [some (.inr 119), some (.inl y1), some (.inl y2), some (.inl y3), none, none, none] [.inl 1000] I7 (qi Q))))))) ∨ (v6 = 0 ∧ kk mX7_safest 53 [some (.inr 119), some (.inl y1), some (.inl y2), some (.inl y3), none, none, none] [.inl 1000] I4 (qi Q)))))))))) : kk mX7_safest 7 [some (.inr 119), some (.inl y1), some (.inl y2), some (.inl y3), none, none, none] [] I (qi Q) := by
  refine sh_iload_n (pc := 7) dX7_safest_7 rfl rfl ?_
  refine sh_aload_n (pc := 8) dX7_safest_8 rfl rfl ?_
  refine sh_getR (pc := 9) dX7_safest_9 fl_X7_7 rfl is_119 pt_119_0 ?_
  refine sh_bipush (pc := 12) (v := 20) dX7_safest_12 (by decide) ?_
  refine sh_iald (pc := 14) dX7_safest_14 is_120 (by decide) (by decide) ?_
  obtain ⟨hb_1, h⟩ := h
  obtain ⟨hb_2, h⟩ := h
  refine sh_icmp_ge (pc := 15) (tgt := 113) dX7_safest_15 (by decide) hb_1 hb_2 (fun q_3 => ?_) (fun q_3 => ?_)
  · replace h := h.1 q_3
    refine sh_iload_n (pc := 113) dX7_safest_113 rfl rfl ?_
    exact k_iret dX7_safest_114 rfl h
  · replace h := h.2 q_3
    refine sh_aload_n (pc := 18) dX7_safest_18 rfl rfl ?_
    refine sh_iload_n (pc := 19) dX7_safest_19 rfl rfl ?_
    refine k_V1i (pc := 20) is_119 dX7_safest_20 lk_X7_207 rfl h (fun v6 I4 h => ?_)
    rcases h with ⟨rfl, h⟩ | ⟨rfl, h⟩
    · skip
      refine sh_if_eq (pc := 23) (tgt := 34) dX7_safest_23 (by decide) (bd_lit (by decide)) (fun qz => ?_) (fun qz => ?_)
      · exact absurd qz (by decide)
      · skip
        refine sh_aload_n (pc := 26) dX7_safest_26 rfl rfl ?_
        refine sh_iload_n (pc := 27) dX7_safest_27 rfl rfl ?_
        refine k_V1i (pc := 28) is_119 dX7_safest_28 lk_X7_210 rfl h (fun v9 I7 h => ?_)
        refine sh_goto (pc := 31) (tgt := 36) dX7_safest_31 (by decide) ?_
        refine k_istore (pc := 36) [some (.inr 119), some (.inl y1), some (.inl y2), some (.inl y3), some (.inl v9), none, none] dX7_safest_36 rfl (by decide) ?_
        refine sh_iload (pc := 38) dX7_safest_38 rfl ?_
        refine sh_bipush (pc := 40) (v := (-5)) dX7_safest_40 (by decide) ?_
        obtain ⟨hb_10, h⟩ := h
        refine sh_icmp_ne (pc := 42) (tgt := 51) dX7_safest_42 (by decide) hb_10 (bd_lit (by decide)) (fun q_11 => ?_) (fun q_11 => ?_)
        · replace h := h.1 q_11
          refine sh_iload (pc := 51) dX7_safest_51 rfl ?_
          exact sh_O.locals h (sub_some (sub_some (sub_some (sub_some (sub_none (sub_none (sub_none sub_nil)))))))
        · replace h := h.2 q_11
          refine sh_sipush (pc := 45) (v := 1000) dX7_safest_45 (by decide) ?_
          refine sh_goto (pc := 48) (tgt := 53) dX7_safest_48 (by decide) ?_
          exact sh_O.locals h (sub_some (sub_some (sub_some (sub_some (sub_none (sub_none (sub_none sub_nil)))))))
    · skip
      refine sh_if_eq (pc := 23) (tgt := 34) dX7_safest_23 (by decide) (bd_lit (by decide)) (fun qz => ?_) (fun qz => ?_)
      · skip
        refine sh_bipush (pc := 34) (v := (-5)) dX7_safest_34 (by decide) ?_
        refine k_istore (pc := 36) [some (.inr 119), some (.inl y1), some (.inl y2), some (.inl y3), some (.inl (-5)), none, none] dX7_safest_36 rfl (by decide) ?_
        refine sh_iload (pc := 38) dX7_safest_38 rfl ?_
        refine sh_bipush (pc := 40) (v := (-5)) dX7_safest_40 (by decide) ?_
        refine sh_icmp_ne (pc := 42) (tgt := 51) dX7_safest_42 (by decide) (bd_lit (by decide)) (bd_lit (by decide)) (fun q_12 => ?_) (fun q_12 => ?_)
        · exact absurd q_12 (by decide)
        · skip
          refine sh_sipush (pc := 45) (v := 1000) dX7_safest_45 (by decide) ?_
          refine sh_goto (pc := 48) (tgt := 53) dX7_safest_48 (by decide) ?_
          exact sh_O.locals h (sub_some (sub_some (sub_some (sub_some (sub_none (sub_none (sub_none sub_nil)))))))
      · exact absurd qz (by decide)
set_option maxRecDepth 100000 in
set_option maxHeartbeats 4000000 in
theorem lX7_safest_53 {y1 : Int} {y2 : Int} {y3 : Int} {z0 : Int} {I : sh_Mem} {Q : Int → sh_Mem → Prop} (h : (sh_Bd y3 ∧ (sh_Bd (I 120 1) ∧ ((y3 = (I 120 1) → kk mX7_safest 82 [some (.inr 119), some (.inl y1), some (.inl y2), some (.inl y3), none, some (.inl z0), none] [.inl 0] I (qi Q)) ∧ (¬ y3 = (I 120 1) → (sh_Bd y1 ∧ ((y1 = (-5) → kk mX7_safest 82 [some (.inr 119), some (.inl y1), some (.inl y2), some (.inl y3), none, some (.inl z0), none] [.inl 1] I (qi Q)) ∧ (¬ y1 = (-5) → (sh_Bd z0 ∧ (sh_Bd y2 ∧ ((z0 ≤ y2 → kk mX7_safest 82 [some (.inr 119), some (.inl y1), some (.inl y2), some (.inl y3), none, some (.inl z0), none] [.inl 0] I (qi Q)) ∧ (y2 < z0 → kk mX7_safest 82 [some (.inr 119), some (.inl y1), some (.inl y2), some (.inl y3), none, some (.inl z0), none] [.inl 1] I (qi Q))))))))))))) : kk mX7_safest 53 [some (.inr 119), some (.inl y1), some (.inl y2), some (.inl y3), none, none, none] [.inl z0] I (qi Q) := by
  refine k_istore (pc := 53) [some (.inr 119), some (.inl y1), some (.inl y2), some (.inl y3), none, some (.inl z0), none] dX7_safest_53 rfl (by decide) ?_
  refine sh_iload_n (pc := 55) dX7_safest_55 rfl rfl ?_
  refine sh_aload_n (pc := 56) dX7_safest_56 rfl rfl ?_
  refine sh_getR (pc := 57) dX7_safest_57 fl_X7_7 rfl is_119 pt_119_0 ?_
  refine sh_iconst (pc := 60) (v := 1) dX7_safest_60 rfl ?_
  refine sh_iald (pc := 61) dX7_safest_61 is_120 (by decide) (by decide) ?_
  obtain ⟨hb_1, h⟩ := h
  obtain ⟨hb_2, h⟩ := h
  refine sh_icmp_eq (pc := 62) (tgt := 81) dX7_safest_62 (by decide) hb_1 hb_2 (fun q_3 => ?_) (fun q_3 => ?_)
  · replace h := h.1 q_3
    refine sh_iconst (pc := 81) (v := 0) dX7_safest_81 rfl ?_
    exact sh_O.locals h (sub_some (sub_some (sub_some (sub_some (sub_none (sub_some (sub_none sub_nil)))))))
  · replace h := h.2 q_3
    refine sh_iload_n (pc := 65) dX7_safest_65 rfl rfl ?_
    refine sh_bipush (pc := 66) (v := (-5)) dX7_safest_66 (by decide) ?_
    obtain ⟨hb_4, h⟩ := h
    refine sh_icmp_eq (pc := 68) (tgt := 77) dX7_safest_68 (by decide) hb_4 (bd_lit (by decide)) (fun q_5 => ?_) (fun q_5 => ?_)
    · replace h := h.1 q_5
      refine sh_iconst (pc := 77) (v := 1) dX7_safest_77 rfl ?_
      refine sh_goto (pc := 78) (tgt := 82) dX7_safest_78 (by decide) ?_
      exact sh_O.locals h (sub_some (sub_some (sub_some (sub_some (sub_none (sub_some (sub_none sub_nil)))))))
    · replace h := h.2 q_5
      refine sh_iload (pc := 71) dX7_safest_71 rfl ?_
      refine sh_iload_n (pc := 73) dX7_safest_73 rfl rfl ?_
      obtain ⟨hb_6, h⟩ := h
      obtain ⟨hb_7, h⟩ := h
      refine sh_icmp_le (pc := 74) (tgt := 81) dX7_safest_74 (by decide) hb_6 hb_7 (fun q_8 => ?_) (fun q_8 => ?_)
      · replace h := h.1 q_8
        refine sh_iconst (pc := 81) (v := 0) dX7_safest_81 rfl ?_
        exact sh_O.locals h (sub_some (sub_some (sub_some (sub_some (sub_none (sub_some (sub_none sub_nil)))))))
      · replace h := h.2 q_8
        refine sh_iconst (pc := 77) (v := 1) dX7_safest_77 rfl ?_
        refine sh_goto (pc := 78) (tgt := 82) dX7_safest_78 (by decide) ?_
        exact sh_O.locals h (sub_some (sub_some (sub_some (sub_some (sub_none (sub_some (sub_none sub_nil)))))))
set_option maxRecDepth 100000 in
set_option maxHeartbeats 4000000 in
theorem lX7_safest_82 {y1 : Int} {y2 : Int} {y3 : Int} {y5 : Int} {z0 : Int} {I : sh_Mem} {Q : Int → sh_Mem → Prop} (h : (sh_Bd z0 ∧ ((z0 = 0 → ((z0 = 0 → kk mX7_safest 7 [some (.inr 119), some (.inl y1), some (.inl y2), some (.inl (y3 + 1)), none, none, none] [] I (qi Q)) ∧ (¬ z0 = 0 → kk mX7_safest 7 [some (.inr 119), some (.inl y1), some (.inl y5), some (.inl (y3 + 1)), none, none, none] [] I (qi Q)))) ∧ (¬ z0 = 0 → ((z0 = 0 → kk mX7_safest 7 [some (.inr 119), some (.inl y3), some (.inl y2), some (.inl (y3 + 1)), none, none, none] [] I (qi Q)) ∧ (¬ z0 = 0 → kk mX7_safest 7 [some (.inr 119), some (.inl y3), some (.inl y5), some (.inl (y3 + 1)), none, none, none] [] I (qi Q))))))) : kk mX7_safest 82 [some (.inr 119), some (.inl y1), some (.inl y2), some (.inl y3), none, some (.inl y5), none] [.inl z0] I (qi Q) := by
  refine k_istore (pc := 82) [some (.inr 119), some (.inl y1), some (.inl y2), some (.inl y3), none, some (.inl y5), some (.inl z0)] dX7_safest_82 rfl (by decide) ?_
  refine sh_iload (pc := 84) dX7_safest_84 rfl ?_
  obtain ⟨hb_1, h⟩ := h
  refine sh_if_eq (pc := 86) (tgt := 93) dX7_safest_86 (by decide) hb_1  (fun q_2 => ?_) (fun q_2 => ?_)
  · replace h := h.1 q_2
    refine sh_iload_n (pc := 93) dX7_safest_93 rfl rfl ?_
    refine k_istore_n (pc := 94) [some (.inr 119), some (.inl y1), some (.inl y2), some (.inl y3), none, some (.inl y5), some (.inl z0)] dX7_safest_94 rfl rfl (by decide) ?_
    refine sh_iload (pc := 95) dX7_safest_95 rfl ?_
    refine sh_if_eq (pc := 97) (tgt := 105) dX7_safest_97 (by decide) hb_1  (fun q_3 => ?_) (fun q_3 => ?_)
    · replace h := h.1 q_3
      refine sh_iload_n (pc := 105) dX7_safest_105 rfl rfl ?_
      refine k_istore_n (pc := 106) [some (.inr 119), some (.inl y1), some (.inl y2), some (.inl y3), none, some (.inl y5), some (.inl z0)] dX7_safest_106 rfl rfl (by decide) ?_
      refine k_iinc (pc := 107) [some (.inr 119), some (.inl y1), some (.inl y2), some (.inl (y3 + 1)), none, some (.inl y5), some (.inl z0)] dX7_safest_107 rfl rfl (by decide) ?_
      refine sh_goto (pc := 110) (tgt := 7) dX7_safest_110 (by decide) ?_
      exact sh_O.locals h (sub_some (sub_some (sub_some (sub_some (sub_none (sub_none (sub_none sub_nil)))))))
    · replace h := h.2 q_3
      refine sh_iload (pc := 100) dX7_safest_100 rfl ?_
      refine sh_goto (pc := 102) (tgt := 106) dX7_safest_102 (by decide) ?_
      refine k_istore_n (pc := 106) [some (.inr 119), some (.inl y1), some (.inl y5), some (.inl y3), none, some (.inl y5), some (.inl z0)] dX7_safest_106 rfl rfl (by decide) ?_
      refine k_iinc (pc := 107) [some (.inr 119), some (.inl y1), some (.inl y5), some (.inl (y3 + 1)), none, some (.inl y5), some (.inl z0)] dX7_safest_107 rfl rfl (by decide) ?_
      refine sh_goto (pc := 110) (tgt := 7) dX7_safest_110 (by decide) ?_
      exact sh_O.locals h (sub_some (sub_some (sub_some (sub_some (sub_none (sub_none (sub_none sub_nil)))))))
  · replace h := h.2 q_2
    refine sh_iload_n (pc := 89) dX7_safest_89 rfl rfl ?_
    refine sh_goto (pc := 90) (tgt := 94) dX7_safest_90 (by decide) ?_
    refine k_istore_n (pc := 94) [some (.inr 119), some (.inl y3), some (.inl y2), some (.inl y3), none, some (.inl y5), some (.inl z0)] dX7_safest_94 rfl rfl (by decide) ?_
    refine sh_iload (pc := 95) dX7_safest_95 rfl ?_
    refine sh_if_eq (pc := 97) (tgt := 105) dX7_safest_97 (by decide) hb_1  (fun q_4 => ?_) (fun q_4 => ?_)
    · replace h := h.1 q_4
      refine sh_iload_n (pc := 105) dX7_safest_105 rfl rfl ?_
      refine k_istore_n (pc := 106) [some (.inr 119), some (.inl y3), some (.inl y2), some (.inl y3), none, some (.inl y5), some (.inl z0)] dX7_safest_106 rfl rfl (by decide) ?_
      refine k_iinc (pc := 107) [some (.inr 119), some (.inl y3), some (.inl y2), some (.inl (y3 + 1)), none, some (.inl y5), some (.inl z0)] dX7_safest_107 rfl rfl (by decide) ?_
      refine sh_goto (pc := 110) (tgt := 7) dX7_safest_110 (by decide) ?_
      exact sh_O.locals h (sub_some (sub_some (sub_some (sub_some (sub_none (sub_none (sub_none sub_nil)))))))
    · replace h := h.2 q_4
      refine sh_iload (pc := 100) dX7_safest_100 rfl ?_
      refine sh_goto (pc := 102) (tgt := 106) dX7_safest_102 (by decide) ?_
      refine k_istore_n (pc := 106) [some (.inr 119), some (.inl y3), some (.inl y5), some (.inl y3), none, some (.inl y5), some (.inl z0)] dX7_safest_106 rfl rfl (by decide) ?_
      refine k_iinc (pc := 107) [some (.inr 119), some (.inl y3), some (.inl y5), some (.inl (y3 + 1)), none, some (.inl y5), some (.inl z0)] dX7_safest_107 rfl rfl (by decide) ?_
      refine sh_goto (pc := 110) (tgt := 7) dX7_safest_110 (by decide) ?_
      exact sh_O.locals h (sub_some (sub_some (sub_some (sub_some (sub_none (sub_none (sub_none sub_nil)))))))
set_option maxRecDepth 100000 in
set_option maxHeartbeats 4000000 in
theorem eX7_ifTurns {x1 : Int} {x2 : Int} {I : sh_Mem} {Q : Int → sh_Mem → Prop} (h : (cc mX7_in [.inl x1, .inl 1, .inl 99] I (qi fun v3 I1 => ((v3 = 1 ∧ (cc mX7_in [.inl x2, .inl 0, .inl 2] I1 (qi fun v6 I4 => ((v6 = 1 ∧ (cc mX7_putAside [.inr 119] I4 (qv fun I7 => kk mX7_ifTurns 32 [some (.inr 119), some (.inl x1), some (.inl x2), some (.inl (-5)), some (.inl 1)] [] I7 (qi Q)))) ∨ (v6 = 0 ∧ Q (-2) I4))))) ∨ (v3 = 0 ∧ Q (-2) I1))))) : cc mX7_ifTurns [.inr 119, .inl x1, .inl x2] I (qi Q) := by
  refine sh_call cd_X7_ifTurns.2.2.2 (Nat.le_of_ble_eq_true rfl) ?_
  show kk mX7_ifTurns 0 [some (.inr 119), some (.inl x1), some (.inl x2), none, none] [] I (qi Q)
  refine sh_iload_n (pc := 0) dX7_ifTurns_0 rfl rfl ?_
  refine sh_iconst (pc := 1) (v := 1) dX7_ifTurns_1 rfl ?_
  refine sh_bipush (pc := 2) (v := 99) dX7_ifTurns_2 (by decide) ?_
  refine k_S3i (pc := 4) dX7_ifTurns_4 lk_X7_51 rfl h (fun v3 I1 h => ?_)
  rcases h with ⟨rfl, h⟩ | ⟨rfl, h⟩
  · skip
    refine sh_if_eq (pc := 7) (tgt := 19) dX7_ifTurns_7 (by decide) (bd_lit (by decide)) (fun qz => ?_) (fun qz => ?_)
    · exact absurd qz (by decide)
    · skip
      refine sh_iload_n (pc := 10) dX7_ifTurns_10 rfl rfl ?_
      refine sh_iconst (pc := 11) (v := 0) dX7_ifTurns_11 rfl ?_
      refine sh_iconst (pc := 12) (v := 2) dX7_ifTurns_12 rfl ?_
      refine k_S3i (pc := 13) dX7_ifTurns_13 lk_X7_51 rfl h (fun v6 I4 h => ?_)
      rcases h with ⟨rfl, h⟩ | ⟨rfl, h⟩
      · skip
        refine sh_if_ne (pc := 16) (tgt := 22) dX7_ifTurns_16 (by decide) (bd_lit (by decide)) (fun qz => ?_) (fun qz => ?_)
        · skip
          refine sh_aload_n (pc := 22) dX7_ifTurns_22 rfl rfl ?_
          refine k_V0v (pc := 23) is_119 dX7_ifTurns_23 lk_X7_65 rfl h (fun I7 h => ?_)
          refine sh_bipush (pc := 26) (v := (-5)) dX7_ifTurns_26 (by decide) ?_
          refine k_istore_n (pc := 28) [some (.inr 119), some (.inl x1), some (.inl x2), some (.inl (-5)), none] dX7_ifTurns_28 rfl rfl (by decide) ?_
          refine sh_iconst (pc := 29) (v := 1) dX7_ifTurns_29 rfl ?_
          refine k_istore (pc := 30) [some (.inr 119), some (.inl x1), some (.inl x2), some (.inl (-5)), some (.inl 1)] dX7_ifTurns_30 rfl (by decide) ?_
          exact sh_O.locals h (sub_some (sub_some (sub_some (sub_some (sub_some sub_nil)))))
        · exact absurd qz (by decide)
      · skip
        refine sh_if_ne (pc := 16) (tgt := 22) dX7_ifTurns_16 (by decide) (bd_lit (by decide)) (fun qz => ?_) (fun qz => ?_)
        · exact absurd qz (by decide)
        · skip
          refine sh_bipush (pc := 19) (v := (-2)) dX7_ifTurns_19 (by decide) ?_
          exact k_iret dX7_ifTurns_21 rfl h
  · skip
    refine sh_if_eq (pc := 7) (tgt := 19) dX7_ifTurns_7 (by decide) (bd_lit (by decide)) (fun qz => ?_) (fun qz => ?_)
    · skip
      refine sh_bipush (pc := 19) (v := (-2)) dX7_ifTurns_19 (by decide) ?_
      exact k_iret dX7_ifTurns_21 rfl h
    · exact absurd qz (by decide)
set_option maxRecDepth 100000 in
set_option maxHeartbeats 4000000 in
theorem lX7_ifTurns_32 {y1 : Int} {y2 : Int} {y3 : Int} {y4 : Int} {I : sh_Mem} {Q : Int → sh_Mem → Prop} (h : (sh_Bd y4 ∧ (sh_Bd y1 ∧ ((y1 < y4 → (sh_Bd y2 ∧ ((¬ y2 = 0 → ((¬ y2 = 1 → kk mX7_ifTurns 111 [some (.inr 119), none, none, none, none] [.inl y3] I (qi Q)) ∧ (y2 = 1 → kk mX7_ifTurns 111 [some (.inr 119), none, none, none, none] [.inl (I 120 1)] I (qi Q)))) ∧ (y2 = 0 → kk mX7_ifTurns 111 [some (.inr 119), none, none, none, none] [.inl ((I 120 2) - (I 123 2))] I (qi Q))))) ∧ (y4 ≤ y1 → (cc mX7_turn [.inr 119] I (qv fun I7 => (sh_Bd y3 ∧ ((¬ y3 = (-5) → kk mX7_ifTurns 32 [some (.inr 119), some (.inl y1), some (.inl y2), some (.inl y3), some (.inl (y4 + 1))] [] I7 (qi Q)) ∧ (y3 = (-5) → (sh_Bd (I7 120 2) ∧ (sh_Bd (I7 123 2) ∧ (((I7 120 2) ≤ (I7 123 2) → kk mX7_ifTurns 32 [some (.inr 119), some (.inl y1), some (.inl y2), some (.inl y3), some (.inl (y4 + 1))] [] I7 (qi Q)) ∧ ((I7 123 2) < (I7 120 2) → kk mX7_ifTurns 32 [some (.inr 119), some (.inl y1), some (.inl y2), some (.inl y4), some (.inl (y4 + 1))] [] I7 (qi Q))))))))))))))) : kk mX7_ifTurns 32 [some (.inr 119), some (.inl y1), some (.inl y2), some (.inl y3), some (.inl y4)] [] I (qi Q) := by
  refine sh_iload (pc := 32) dX7_ifTurns_32 rfl ?_
  refine sh_iload_n (pc := 34) dX7_ifTurns_34 rfl rfl ?_
  obtain ⟨hb_1, h⟩ := h
  obtain ⟨hb_2, h⟩ := h
  refine sh_icmp_gt (pc := 35) (tgt := 76) dX7_ifTurns_35 (by decide) hb_1 hb_2 (fun q_3 => ?_) (fun q_3 => ?_)
  · replace h := h.1 q_3
    refine sh_iload_n (pc := 76) dX7_ifTurns_76 rfl rfl ?_
    obtain ⟨hb_4, h⟩ := h
    refine sh_if_ne (pc := 77) (tgt := 96) dX7_ifTurns_77 (by decide) hb_4  (fun q_5 => ?_) (fun q_5 => ?_)
    · replace h := h.1 q_5
      refine sh_iload_n (pc := 96) dX7_ifTurns_96 rfl rfl ?_
      refine sh_iconst (pc := 97) (v := 1) dX7_ifTurns_97 rfl ?_
      refine sh_icmp_ne (pc := 98) (tgt := 110) dX7_ifTurns_98 (by decide) hb_4 (bd_lit (by decide)) (fun q_6 => ?_) (fun q_6 => ?_)
      · replace h := h.1 q_6
        refine sh_iload_n (pc := 110) dX7_ifTurns_110 rfl rfl ?_
        exact sh_O.locals h (sub_some (sub_none (sub_none (sub_none (sub_none sub_nil)))))
      · replace h := h.2 q_6
        refine sh_aload_n (pc := 101) dX7_ifTurns_101 rfl rfl ?_
        refine sh_getR (pc := 102) dX7_ifTurns_102 fl_X7_7 rfl is_119 pt_119_0 ?_
        refine sh_iconst (pc := 105) (v := 1) dX7_ifTurns_105 rfl ?_
        refine sh_iald (pc := 106) dX7_ifTurns_106 is_120 (by decide) (by decide) ?_
        refine sh_goto (pc := 107) (tgt := 111) dX7_ifTurns_107 (by decide) ?_
        exact sh_O.locals h (sub_some (sub_none (sub_none (sub_none (sub_none sub_nil)))))
    · replace h := h.2 q_5
      refine sh_aload_n (pc := 80) dX7_ifTurns_80 rfl rfl ?_
      refine sh_getR (pc := 81) dX7_ifTurns_81 fl_X7_7 rfl is_119 pt_119_0 ?_
      refine sh_iconst (pc := 84) (v := 2) dX7_ifTurns_84 rfl ?_
      refine sh_iald (pc := 85) dX7_ifTurns_85 is_120 (by decide) (by decide) ?_
      refine sh_aload_n (pc := 86) dX7_ifTurns_86 rfl rfl ?_
      refine sh_getR (pc := 87) dX7_ifTurns_87 fl_X7_19 rfl is_119 pt_119_5 ?_
      refine sh_iconst (pc := 90) (v := 2) dX7_ifTurns_90 rfl ?_
      refine sh_iald (pc := 91) dX7_ifTurns_91 is_123 (by decide) (by decide) ?_
      refine sh_isub (pc := 92) dX7_ifTurns_92 ?_
      refine sh_goto (pc := 93) (tgt := 111) dX7_ifTurns_93 (by decide) ?_
      exact sh_O.locals h (sub_some (sub_none (sub_none (sub_none (sub_none sub_nil)))))
  · replace h := h.2 q_3
    refine sh_aload_n (pc := 38) dX7_ifTurns_38 rfl rfl ?_
    refine k_V0v (pc := 39) is_119 dX7_ifTurns_39 lk_X7_130 rfl h (fun I7 h => ?_)
    refine sh_iload_n (pc := 42) dX7_ifTurns_42 rfl rfl ?_
    refine sh_bipush (pc := 43) (v := (-5)) dX7_ifTurns_43 (by decide) ?_
    obtain ⟨hb_9, h⟩ := h
    refine sh_icmp_ne (pc := 45) (tgt := 68) dX7_ifTurns_45 (by decide) hb_9 (bd_lit (by decide)) (fun q_10 => ?_) (fun q_10 => ?_)
    · replace h := h.1 q_10
      refine sh_iload_n (pc := 68) dX7_ifTurns_68 rfl rfl ?_
      refine k_istore_n (pc := 69) [some (.inr 119), some (.inl y1), some (.inl y2), some (.inl y3), some (.inl y4)] dX7_ifTurns_69 rfl rfl (by decide) ?_
      refine k_iinc (pc := 70) [some (.inr 119), some (.inl y1), some (.inl y2), some (.inl y3), some (.inl (y4 + 1))] dX7_ifTurns_70 rfl rfl (by decide) ?_
      refine sh_goto (pc := 73) (tgt := 32) dX7_ifTurns_73 (by decide) ?_
      exact sh_O.locals h (sub_some (sub_some (sub_some (sub_some (sub_some sub_nil)))))
    · replace h := h.2 q_10
      refine sh_aload_n (pc := 48) dX7_ifTurns_48 rfl rfl ?_
      refine sh_getR (pc := 49) dX7_ifTurns_49 fl_X7_7 rfl is_119 pt_119_0 ?_
      refine sh_iconst (pc := 52) (v := 2) dX7_ifTurns_52 rfl ?_
      refine sh_iald (pc := 53) dX7_ifTurns_53 is_120 (by decide) (by decide) ?_
      refine sh_aload_n (pc := 54) dX7_ifTurns_54 rfl rfl ?_
      refine sh_getR (pc := 55) dX7_ifTurns_55 fl_X7_19 rfl is_119 pt_119_5 ?_
      refine sh_iconst (pc := 58) (v := 2) dX7_ifTurns_58 rfl ?_
      refine sh_iald (pc := 59) dX7_ifTurns_59 is_123 (by decide) (by decide) ?_
      obtain ⟨hb_11, h⟩ := h
      obtain ⟨hb_12, h⟩ := h
      refine sh_icmp_le (pc := 60) (tgt := 68) dX7_ifTurns_60 (by decide) hb_11 hb_12 (fun q_13 => ?_) (fun q_13 => ?_)
      · replace h := h.1 q_13
        refine sh_iload_n (pc := 68) dX7_ifTurns_68 rfl rfl ?_
        refine k_istore_n (pc := 69) [some (.inr 119), some (.inl y1), some (.inl y2), some (.inl y3), some (.inl y4)] dX7_ifTurns_69 rfl rfl (by decide) ?_
        refine k_iinc (pc := 70) [some (.inr 119), some (.inl y1), some (.inl y2), some (.inl y3), some (.inl (y4 + 1))] dX7_ifTurns_70 rfl rfl (by decide) ?_
        refine sh_goto (pc := 73) (tgt := 32) dX7_ifTurns_73 (by decide) ?_
        exact sh_O.locals h (sub_some (sub_some (sub_some (sub_some (sub_some sub_nil)))))
      · replace h := h.2 q_13
        refine sh_iload (pc := 63) dX7_ifTurns_63 rfl ?_
        refine sh_goto (pc := 65) (tgt := 69) dX7_ifTurns_65 (by decide) ?_
        refine k_istore_n (pc := 69) [some (.inr 119), some (.inl y1), some (.inl y2), some (.inl y4), some (.inl y4)] dX7_ifTurns_69 rfl rfl (by decide) ?_
        refine k_iinc (pc := 70) [some (.inr 119), some (.inl y1), some (.inl y2), some (.inl y4), some (.inl (y4 + 1))] dX7_ifTurns_70 rfl rfl (by decide) ?_
        refine sh_goto (pc := 73) (tgt := 32) dX7_ifTurns_73 (by decide) ?_
        exact sh_O.locals h (sub_some (sub_some (sub_some (sub_some (sub_some sub_nil)))))
set_option maxRecDepth 100000 in
set_option maxHeartbeats 4000000 in
theorem lX7_ifTurns_111 {z0 : Int} {I : sh_Mem} {Q : Int → sh_Mem → Prop} (h : (cc mX7_putBack [.inr 119] I (qv fun I1 => Q z0 I1))) : kk mX7_ifTurns 111 [some (.inr 119), none, none, none, none] [.inl z0] I (qi Q) := by
  refine k_istore (pc := 111) [some (.inr 119), none, none, none, some (.inl z0)] dX7_ifTurns_111 rfl (by decide) ?_
  refine sh_aload_n (pc := 113) dX7_ifTurns_113 rfl rfl ?_
  refine k_V0v (pc := 114) is_119 dX7_ifTurns_114 lk_X7_195 rfl h (fun I1 h => ?_)
  refine sh_iload (pc := 117) dX7_ifTurns_117 rfl ?_
  exact k_iret dX7_ifTurns_119 rfl h
set_option maxRecDepth 100000 in
set_option maxHeartbeats 4000000 in
theorem eX7_withoutShadow  {I : sh_Mem} {Q : Int → sh_Mem → Prop} (h : kk mX7_withoutShadow 4 [some (.inr 119), some (.inl 0), some (.inl 0)] [] I (qi Q)) : cc mX7_withoutShadow [.inr 119] I (qi Q) := by
  refine sh_call cd_X7_withoutShadow.2.2.2 (Nat.le_of_ble_eq_true rfl) ?_
  show kk mX7_withoutShadow 0 [some (.inr 119), none, none] [] I (qi Q)
  refine sh_iconst (pc := 0) (v := 0) dX7_withoutShadow_0 rfl ?_
  refine k_istore_n (pc := 1) [some (.inr 119), some (.inl 0), none] dX7_withoutShadow_1 rfl rfl (by decide) ?_
  refine sh_iconst (pc := 2) (v := 0) dX7_withoutShadow_2 rfl ?_
  refine k_istore_n (pc := 3) [some (.inr 119), some (.inl 0), some (.inl 0)] dX7_withoutShadow_3 rfl rfl (by decide) ?_
  exact sh_O.locals h (sub_some (sub_some (sub_some sub_nil)))
set_option maxRecDepth 100000 in
set_option maxHeartbeats 4000000 in
theorem lX7_withoutShadow_4 {y1 : Int} {y2 : Int} {I : sh_Mem} {Q : Int → sh_Mem → Prop} (h : (sh_Bd y2 ∧ (sh_Bd (I 120 20) ∧ (((I 120 20) ≤ y2 → Q y1 I) ∧ (y2 < (I 120 20) → (cc mX7_hasShadow [.inr 119, .inl y2] I (qi fun v6 I4 => ((v6 = 1 ∧ kk mX7_withoutShadow 4 [some (.inr 119), some (.inl (y1 + 0)), some (.inl (y2 + 1))] [] I4 (qi Q)) ∨ (v6 = 0 ∧ kk mX7_withoutShadow 4 [some (.inr 119), some (.inl (y1 + 1)), some (.inl (y2 + 1))] [] I4 (qi Q)))))))))) : kk mX7_withoutShadow 4 [some (.inr 119), some (.inl y1), some (.inl y2)] [] I (qi Q) := by
  refine sh_iload_n (pc := 4) dX7_withoutShadow_4 rfl rfl ?_
  refine sh_aload_n (pc := 5) dX7_withoutShadow_5 rfl rfl ?_
  refine sh_getR (pc := 6) dX7_withoutShadow_6 fl_X7_7 rfl is_119 pt_119_0 ?_
  refine sh_bipush (pc := 9) (v := 20) dX7_withoutShadow_9 (by decide) ?_
  refine sh_iald (pc := 11) dX7_withoutShadow_11 is_120 (by decide) (by decide) ?_
  obtain ⟨hb_1, h⟩ := h
  obtain ⟨hb_2, h⟩ := h
  refine sh_icmp_ge (pc := 12) (tgt := 37) dX7_withoutShadow_12 (by decide) hb_1 hb_2 (fun q_3 => ?_) (fun q_3 => ?_)
  · replace h := h.1 q_3
    refine sh_iload_n (pc := 37) dX7_withoutShadow_37 rfl rfl ?_
    exact k_iret dX7_withoutShadow_38 rfl h
  · replace h := h.2 q_3
    refine sh_iload_n (pc := 15) dX7_withoutShadow_15 rfl rfl ?_
    refine sh_aload_n (pc := 16) dX7_withoutShadow_16 rfl rfl ?_
    refine sh_iload_n (pc := 17) dX7_withoutShadow_17 rfl rfl ?_
    refine k_V1i (pc := 18) is_119 dX7_withoutShadow_18 lk_X7_204 rfl h (fun v6 I4 h => ?_)
    rcases h with ⟨rfl, h⟩ | ⟨rfl, h⟩
    · skip
      refine sh_if_eq (pc := 21) (tgt := 28) dX7_withoutShadow_21 (by decide) (bd_lit (by decide)) (fun qz => ?_) (fun qz => ?_)
      · exact absurd qz (by decide)
      · skip
        refine sh_iconst (pc := 24) (v := 0) dX7_withoutShadow_24 rfl ?_
        refine sh_goto (pc := 25) (tgt := 29) dX7_withoutShadow_25 (by decide) ?_
        refine sh_iadd (pc := 29) dX7_withoutShadow_29 ?_
        refine k_istore_n (pc := 30) [some (.inr 119), some (.inl (y1 + 0)), some (.inl y2)] dX7_withoutShadow_30 rfl rfl (by decide) ?_
        refine k_iinc (pc := 31) [some (.inr 119), some (.inl (y1 + 0)), some (.inl (y2 + 1))] dX7_withoutShadow_31 rfl rfl (by decide) ?_
        refine sh_goto (pc := 34) (tgt := 4) dX7_withoutShadow_34 (by decide) ?_
        exact sh_O.locals h (sub_some (sub_some (sub_some sub_nil)))
    · skip
      refine sh_if_eq (pc := 21) (tgt := 28) dX7_withoutShadow_21 (by decide) (bd_lit (by decide)) (fun qz => ?_) (fun qz => ?_)
      · skip
        refine sh_iconst (pc := 28) (v := 1) dX7_withoutShadow_28 rfl ?_
        refine sh_iadd (pc := 29) dX7_withoutShadow_29 ?_
        refine k_istore_n (pc := 30) [some (.inr 119), some (.inl (y1 + 1)), some (.inl y2)] dX7_withoutShadow_30 rfl rfl (by decide) ?_
        refine k_iinc (pc := 31) [some (.inr 119), some (.inl (y1 + 1)), some (.inl (y2 + 1))] dX7_withoutShadow_31 rfl rfl (by decide) ?_
        refine sh_goto (pc := 34) (tgt := 4) dX7_withoutShadow_34 (by decide) ?_
        exact sh_O.locals h (sub_some (sub_some (sub_some sub_nil)))
      · exact absurd qz (by decide)
set_option maxRecDepth 100000 in
set_option maxHeartbeats 4000000 in
theorem eX7_count {x1 : Int} {I : sh_Mem} {Q : Int → sh_Mem → Prop} (h : (sh_Bd x1 ∧ ((x1 = 0 → Q (I 120 0) I) ∧ ((x1 = 1 → Q (I 120 20) I) ∧ ((x1 = 2 → Q (I 120 1) I) ∧ ((x1 = 3 → (cc mX7_lampsOn [.inr 119] I (qi fun v7 I5 => Q v7 I5))) ∧ ((x1 = 4 → (cc mX7_dark [.inr 119, .inl (-5), .inl (-5)] I (qi fun v11 I9 => Q v11 I9))) ∧ ((x1 = 5 → (cc mX7_withoutShadow [.inr 119] I (qi fun v15 I13 => Q v15 I13))) ∧ ((x1 = 6 → Q (I 120 2) I) ∧ ((x1 = 7 → Q (I 120 3) I) ∧ ((x1 = 8 → Q (I 120 4) I) ∧ ((x1 = 9 → Q (I 120 5) I) ∧ ((x1 = 10 → ((0 ≤ ((6 + x1) - 10) ∧ ((6 + x1) - 10) < (63 : Int)) ∧ Q (I 120 ((6 + x1) - 10)) I)) ∧ ((x1 = 11 → ((0 ≤ ((6 + x1) - 10) ∧ ((6 + x1) - 10) < (63 : Int)) ∧ Q (I 120 ((6 + x1) - 10)) I)) ∧ ((x1 = 12 → Q (I 119 2) I) ∧ ((x1 = 13 → Q (I 119 10) I) ∧ ((x1 < 0 ∨ 13 < x1) → Q (-2) I))))))))))))))))) : cc mX7_count [.inr 119, .inl x1] I (qi Q) := by
  refine sh_call cd_X7_count.2.2.2 (Nat.le_of_ble_eq_true rfl) ?_
  show kk mX7_count 0 [some (.inr 119), some (.inl x1)] [] I (qi Q)
  refine sh_iload_n (pc := 0) dX7_count_0 rfl rfl ?_
  obtain ⟨hb_1, h⟩ := h
  by_cases q_2 : x1 = 0
  · refine sh_tableIn (pc := 1) (k := 0) (tgt := 72) dX7_count_1 q_2 (bd_lit (by decide)) (by decide) (by decide) rfl (by decide) ?_
    replace h := h.1 q_2
    refine sh_aload_n (pc := 72) dX7_count_72 rfl rfl ?_
    refine sh_getR (pc := 73) dX7_count_73 fl_X7_7 rfl is_119 pt_119_0 ?_
    refine sh_iconst (pc := 76) (v := 0) dX7_count_76 rfl ?_
    refine sh_iald (pc := 77) dX7_count_77 is_120 (by decide) (by decide) ?_
    exact k_iret dX7_count_78 rfl h
  replace h := h.2
  by_cases q_3 : x1 = 1
  · refine sh_tableIn (pc := 1) (k := 1) (tgt := 79) dX7_count_1 q_3 (bd_lit (by decide)) (by decide) (by decide) rfl (by decide) ?_
    replace h := h.1 q_3
    refine sh_aload_n (pc := 79) dX7_count_79 rfl rfl ?_
    refine sh_getR (pc := 80) dX7_count_80 fl_X7_7 rfl is_119 pt_119_0 ?_
    refine sh_bipush (pc := 83) (v := 20) dX7_count_83 (by decide) ?_
    refine sh_iald (pc := 85) dX7_count_85 is_120 (by decide) (by decide) ?_
    exact k_iret dX7_count_86 rfl h
  replace h := h.2
  by_cases q_4 : x1 = 2
  · refine sh_tableIn (pc := 1) (k := 2) (tgt := 87) dX7_count_1 q_4 (bd_lit (by decide)) (by decide) (by decide) rfl (by decide) ?_
    replace h := h.1 q_4
    refine sh_aload_n (pc := 87) dX7_count_87 rfl rfl ?_
    refine sh_getR (pc := 88) dX7_count_88 fl_X7_7 rfl is_119 pt_119_0 ?_
    refine sh_iconst (pc := 91) (v := 1) dX7_count_91 rfl ?_
    refine sh_iald (pc := 92) dX7_count_92 is_120 (by decide) (by decide) ?_
    exact k_iret dX7_count_93 rfl h
  replace h := h.2
  by_cases q_8 : x1 = 3
  · refine sh_tableIn (pc := 1) (k := 3) (tgt := 94) dX7_count_1 q_8 (bd_lit (by decide)) (by decide) (by decide) rfl (by decide) ?_
    replace h := h.1 q_8
    refine sh_aload_n (pc := 94) dX7_count_94 rfl rfl ?_
    refine k_V0i (pc := 95) is_119 dX7_count_95 lk_X7_126 rfl h (fun v7 I5 h => ?_)
    exact k_iret dX7_count_98 rfl h
  replace h := h.2
  by_cases q_12 : x1 = 4
  · refine sh_tableIn (pc := 1) (k := 4) (tgt := 99) dX7_count_1 q_12 (bd_lit (by decide)) (by decide) (by decide) rfl (by decide) ?_
    replace h := h.1 q_12
    refine sh_aload_n (pc := 99) dX7_count_99 rfl rfl ?_
    refine sh_bipush (pc := 100) (v := (-5)) dX7_count_100 (by decide) ?_
    refine sh_bipush (pc := 102) (v := (-5)) dX7_count_102 (by decide) ?_
    refine k_V2i (pc := 104) is_119 dX7_count_104 lk_X7_201 rfl h (fun v11 I9 h => ?_)
    exact k_iret dX7_count_107 rfl h
  replace h := h.2
  by_cases q_16 : x1 = 5
  · refine sh_tableIn (pc := 1) (k := 5) (tgt := 108) dX7_count_1 q_16 (bd_lit (by decide)) (by decide) (by decide) rfl (by decide) ?_
    replace h := h.1 q_16
    refine sh_aload_n (pc := 108) dX7_count_108 rfl rfl ?_
    refine k_V0i (pc := 109) is_119 dX7_count_109 lk_X7_213 rfl h (fun v15 I13 h => ?_)
    exact k_iret dX7_count_112 rfl h
  replace h := h.2
  by_cases q_17 : x1 = 6
  · refine sh_tableIn (pc := 1) (k := 6) (tgt := 113) dX7_count_1 q_17 (bd_lit (by decide)) (by decide) (by decide) rfl (by decide) ?_
    replace h := h.1 q_17
    refine sh_aload_n (pc := 113) dX7_count_113 rfl rfl ?_
    refine sh_getR (pc := 114) dX7_count_114 fl_X7_7 rfl is_119 pt_119_0 ?_
    refine sh_iconst (pc := 117) (v := 2) dX7_count_117 rfl ?_
    refine sh_iald (pc := 118) dX7_count_118 is_120 (by decide) (by decide) ?_
    exact k_iret dX7_count_119 rfl h
  replace h := h.2
  by_cases q_18 : x1 = 7
  · refine sh_tableIn (pc := 1) (k := 7) (tgt := 120) dX7_count_1 q_18 (bd_lit (by decide)) (by decide) (by decide) rfl (by decide) ?_
    replace h := h.1 q_18
    refine sh_aload_n (pc := 120) dX7_count_120 rfl rfl ?_
    refine sh_getR (pc := 121) dX7_count_121 fl_X7_7 rfl is_119 pt_119_0 ?_
    refine sh_iconst (pc := 124) (v := 3) dX7_count_124 rfl ?_
    refine sh_iald (pc := 125) dX7_count_125 is_120 (by decide) (by decide) ?_
    exact k_iret dX7_count_126 rfl h
  replace h := h.2
  by_cases q_19 : x1 = 8
  · refine sh_tableIn (pc := 1) (k := 8) (tgt := 127) dX7_count_1 q_19 (bd_lit (by decide)) (by decide) (by decide) rfl (by decide) ?_
    replace h := h.1 q_19
    refine sh_aload_n (pc := 127) dX7_count_127 rfl rfl ?_
    refine sh_getR (pc := 128) dX7_count_128 fl_X7_7 rfl is_119 pt_119_0 ?_
    refine sh_iconst (pc := 131) (v := 4) dX7_count_131 rfl ?_
    refine sh_iald (pc := 132) dX7_count_132 is_120 (by decide) (by decide) ?_
    exact k_iret dX7_count_133 rfl h
  replace h := h.2
  by_cases q_20 : x1 = 9
  · refine sh_tableIn (pc := 1) (k := 9) (tgt := 134) dX7_count_1 q_20 (bd_lit (by decide)) (by decide) (by decide) rfl (by decide) ?_
    replace h := h.1 q_20
    refine sh_aload_n (pc := 134) dX7_count_134 rfl rfl ?_
    refine sh_getR (pc := 135) dX7_count_135 fl_X7_7 rfl is_119 pt_119_0 ?_
    refine sh_iconst (pc := 138) (v := 5) dX7_count_138 rfl ?_
    refine sh_iald (pc := 139) dX7_count_139 is_120 (by decide) (by decide) ?_
    exact k_iret dX7_count_140 rfl h
  replace h := h.2
  by_cases q_22 : x1 = 10
  · refine sh_tableIn (pc := 1) (k := 10) (tgt := 141) dX7_count_1 q_22 (bd_lit (by decide)) (by decide) (by decide) rfl (by decide) ?_
    replace h := h.1 q_22
    refine sh_aload_n (pc := 141) dX7_count_141 rfl rfl ?_
    refine sh_getR (pc := 142) dX7_count_142 fl_X7_7 rfl is_119 pt_119_0 ?_
    refine sh_bipush (pc := 145) (v := 6) dX7_count_145 (by decide) ?_
    refine sh_iload_n (pc := 147) dX7_count_147 rfl rfl ?_
    refine sh_iadd (pc := 148) dX7_count_148 ?_
    refine sh_bipush (pc := 149) (v := 10) dX7_count_149 (by decide) ?_
    refine sh_isub (pc := 151) dX7_count_151 ?_
    obtain ⟨hi_21, h⟩ := h
    refine sh_iald (pc := 152) dX7_count_152 is_120 (by decide) hi_21 ?_
    exact k_iret dX7_count_153 rfl h
  replace h := h.2
  by_cases q_24 : x1 = 11
  · refine sh_tableIn (pc := 1) (k := 11) (tgt := 141) dX7_count_1 q_24 (bd_lit (by decide)) (by decide) (by decide) rfl (by decide) ?_
    replace h := h.1 q_24
    refine sh_aload_n (pc := 141) dX7_count_141 rfl rfl ?_
    refine sh_getR (pc := 142) dX7_count_142 fl_X7_7 rfl is_119 pt_119_0 ?_
    refine sh_bipush (pc := 145) (v := 6) dX7_count_145 (by decide) ?_
    refine sh_iload_n (pc := 147) dX7_count_147 rfl rfl ?_
    refine sh_iadd (pc := 148) dX7_count_148 ?_
    refine sh_bipush (pc := 149) (v := 10) dX7_count_149 (by decide) ?_
    refine sh_isub (pc := 151) dX7_count_151 ?_
    obtain ⟨hi_23, h⟩ := h
    refine sh_iald (pc := 152) dX7_count_152 is_120 (by decide) hi_23 ?_
    exact k_iret dX7_count_153 rfl h
  replace h := h.2
  by_cases q_25 : x1 = 12
  · refine sh_tableIn (pc := 1) (k := 12) (tgt := 154) dX7_count_1 q_25 (bd_lit (by decide)) (by decide) (by decide) rfl (by decide) ?_
    replace h := h.1 q_25
    refine sh_aload_n (pc := 154) dX7_count_154 rfl rfl ?_
    refine sh_getI (pc := 155) (g := 2) dX7_count_155 fl_X7_55 rfl is_119 rfl ?_
    exact k_iret dX7_count_158 rfl h
  replace h := h.2
  by_cases q_26 : x1 = 13
  · refine sh_tableIn (pc := 1) (k := 13) (tgt := 159) dX7_count_1 q_26 (bd_lit (by decide)) (by decide) (by decide) rfl (by decide) ?_
    replace h := h.1 q_26
    refine sh_aload_n (pc := 159) dX7_count_159 rfl rfl ?_
    refine sh_getI (pc := 160) (g := 10) dX7_count_160 fl_X7_155 rfl is_119 rfl ?_
    exact k_iret dX7_count_163 rfl h
  replace h := h.2
  have q_27 : x1 < 0 ∨ 13 < x1 := by omega
  refine sh_tableOut (pc := 1) (tgt := 164) dX7_count_1 hb_1 q_27 (by decide) ?_
  replace h := h q_27
  refine sh_bipush (pc := 164) (v := (-2)) dX7_count_164 (by decide) ?_
  exact k_iret dX7_count_166 rfl h
