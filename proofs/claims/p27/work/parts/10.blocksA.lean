/-! ===== 10: the cases of the small classes ===== -/
set_option maxRecDepth 100000 in
set_option maxHeartbeats 4000000 in
theorem eX5_copyFrom {b : Nat} (hb : sh_isP b) {c : Nat} (hc : sh_isP c) {I : sh_Mem} {Q : sh_Mem → Prop} (h : (cc mX6_copyRow [.inr (c + 2), .inr (b + 2)] I (qv fun I1 => (cc mX6_copyRow [.inr (c + 3), .inr (b + 3)] I1 (qv fun I3 => (cc mX6_copyRow [.inr (c + 4), .inr (b + 4)] I3 (qv fun I5 => (cc mX6_copyRow [.inr (c + 5), .inr (b + 5)] I5 (qv fun I7 => (cc mX6_copyRow [.inr (c + 6), .inr (b + 6)] I7 (qv fun I9 => (cc mX6_copyRow [.inr (c + 7), .inr (b + 7)] I9 (qv fun I11 => (cc mX6_copyRow [.inr (c + 8), .inr (b + 8)] I11 (qv fun I13 => Q (sh_u (sh_u (sh_u (sh_u (sh_u I13 (b + 1) 7 (I13 (c + 1) 7)) (b + 1) 8 (I13 (c + 1) 8)) (b + 1) 9 (I13 (c + 1) 9)) (b + 1) 10 (I13 (c + 1) 10)) (b + 1) 11 (I13 (c + 1) 11))))))))))))))))) : cc mX5_copyFrom [.inr (b + 1), .inr (c + 1)] I (qv Q) := by
  refine sh_call cd_X5_copyFrom.2.2.2 (Nat.le_of_ble_eq_true rfl) ?_
  show kk mX5_copyFrom 0 [some (.inr (b + 1)), some (.inr (c + 1))] [] I (qv Q)
  refine sh_aload_n (pc := 0) dX5_copyFrom_0 rfl rfl ?_
  refine sh_getR (pc := 1) dX5_copyFrom_1 fl_X5_9 rfl (is_R hc) (pt_R0 hc) ?_
  refine sh_aload_n (pc := 4) dX5_copyFrom_4 rfl rfl ?_
  refine sh_getR (pc := 5) dX5_copyFrom_5 fl_X5_9 rfl (is_R hb) (pt_R0 hb) ?_
  refine k_N2v (pc := 8) dX5_copyFrom_8 lk_X5_49 rfl h (fun I1 h => ?_)
  refine sh_aload_n (pc := 11) dX5_copyFrom_11 rfl rfl ?_
  refine sh_getR (pc := 12) dX5_copyFrom_12 fl_X5_15 rfl (is_R hc) (pt_R1 hc) ?_
  refine sh_aload_n (pc := 15) dX5_copyFrom_15 rfl rfl ?_
  refine sh_getR (pc := 16) dX5_copyFrom_16 fl_X5_15 rfl (is_R hb) (pt_R1 hb) ?_
  refine k_N2v (pc := 19) dX5_copyFrom_19 lk_X5_49 rfl h (fun I3 h => ?_)
  refine sh_aload_n (pc := 22) dX5_copyFrom_22 rfl rfl ?_
  refine sh_getR (pc := 23) dX5_copyFrom_23 fl_X5_18 rfl (is_R hc) (pt_R2 hc) ?_
  refine sh_aload_n (pc := 26) dX5_copyFrom_26 rfl rfl ?_
  refine sh_getR (pc := 27) dX5_copyFrom_27 fl_X5_18 rfl (is_R hb) (pt_R2 hb) ?_
  refine k_N2v (pc := 30) dX5_copyFrom_30 lk_X5_49 rfl h (fun I5 h => ?_)
  refine sh_aload_n (pc := 33) dX5_copyFrom_33 rfl rfl ?_
  refine sh_getR (pc := 34) dX5_copyFrom_34 fl_X5_21 rfl (is_R hc) (pt_R3 hc) ?_
  refine sh_aload_n (pc := 37) dX5_copyFrom_37 rfl rfl ?_
  refine sh_getR (pc := 38) dX5_copyFrom_38 fl_X5_21 rfl (is_R hb) (pt_R3 hb) ?_
  refine k_N2v (pc := 41) dX5_copyFrom_41 lk_X5_49 rfl h (fun I7 h => ?_)
  refine sh_aload_n (pc := 44) dX5_copyFrom_44 rfl rfl ?_
  refine sh_getR (pc := 45) dX5_copyFrom_45 fl_X5_24 rfl (is_R hc) (pt_R4 hc) ?_
  refine sh_aload_n (pc := 48) dX5_copyFrom_48 rfl rfl ?_
  refine sh_getR (pc := 49) dX5_copyFrom_49 fl_X5_24 rfl (is_R hb) (pt_R4 hb) ?_
  refine k_N2v (pc := 52) dX5_copyFrom_52 lk_X5_49 rfl h (fun I9 h => ?_)
  refine sh_aload_n (pc := 55) dX5_copyFrom_55 rfl rfl ?_
  refine sh_getR (pc := 56) dX5_copyFrom_56 fl_X5_27 rfl (is_R hc) (pt_R5 hc) ?_
  refine sh_aload_n (pc := 59) dX5_copyFrom_59 rfl rfl ?_
  refine sh_getR (pc := 60) dX5_copyFrom_60 fl_X5_27 rfl (is_R hb) (pt_R5 hb) ?_
  refine k_N2v (pc := 63) dX5_copyFrom_63 lk_X5_49 rfl h (fun I11 h => ?_)
  refine sh_aload_n (pc := 66) dX5_copyFrom_66 rfl rfl ?_
  refine sh_getR (pc := 67) dX5_copyFrom_67 fl_X5_30 rfl (is_R hc) (pt_R6 hc) ?_
  refine sh_aload_n (pc := 70) dX5_copyFrom_70 rfl rfl ?_
  refine sh_getR (pc := 71) dX5_copyFrom_71 fl_X5_30 rfl (is_R hb) (pt_R6 hb) ?_
  refine k_N2v (pc := 74) dX5_copyFrom_74 lk_X5_49 rfl h (fun I13 h => ?_)
  refine sh_aload_n (pc := 77) dX5_copyFrom_77 rfl rfl ?_
  refine sh_aload_n (pc := 78) dX5_copyFrom_78 rfl rfl ?_
  refine sh_getI (pc := 79) (g := 7) dX5_copyFrom_79 fl_X5_33 rfl (is_R hc) rfl ?_
  refine k_putI (pc := 82) (g := 7) dX5_copyFrom_82 fl_X5_33 rfl (is_R hb) rfl ?_
  refine sh_aload_n (pc := 85) dX5_copyFrom_85 rfl rfl ?_
  refine sh_aload_n (pc := 86) dX5_copyFrom_86 rfl rfl ?_
  refine k_getI (pc := 87) (g := 8) (I13 (c + 1) 8) dX5_copyFrom_87 fl_X5_37 rfl (is_R hc) rfl (by simp [sh_u]) ?_
  refine k_putI (pc := 90) (g := 8) dX5_copyFrom_90 fl_X5_37 rfl (is_R hb) rfl ?_
  refine sh_aload_n (pc := 93) dX5_copyFrom_93 rfl rfl ?_
  refine sh_aload_n (pc := 94) dX5_copyFrom_94 rfl rfl ?_
  refine k_getI (pc := 95) (g := 9) (I13 (c + 1) 9) dX5_copyFrom_95 fl_X5_40 rfl (is_R hc) rfl (by simp [sh_u]) ?_
  refine k_putI (pc := 98) (g := 9) dX5_copyFrom_98 fl_X5_40 rfl (is_R hb) rfl ?_
  refine sh_aload_n (pc := 101) dX5_copyFrom_101 rfl rfl ?_
  refine sh_aload_n (pc := 102) dX5_copyFrom_102 rfl rfl ?_
  refine k_getI (pc := 103) (g := 10) (I13 (c + 1) 10) dX5_copyFrom_103 fl_X5_43 rfl (is_R hc) rfl (by simp [sh_u]) ?_
  refine k_putI (pc := 106) (g := 10) dX5_copyFrom_106 fl_X5_43 rfl (is_R hb) rfl ?_
  refine sh_aload_n (pc := 109) dX5_copyFrom_109 rfl rfl ?_
  refine sh_aload_n (pc := 110) dX5_copyFrom_110 rfl rfl ?_
  refine k_getI (pc := 111) (g := 11) (I13 (c + 1) 11) dX5_copyFrom_111 fl_X5_46 rfl (is_R hc) rfl (by simp [sh_u]) ?_
  refine k_putI (pc := 114) (g := 11) dX5_copyFrom_114 fl_X5_46 rfl (is_R hb) rfl ?_
  exact k_vret dX5_copyFrom_117 rfl h
set_option maxRecDepth 100000 in
set_option maxHeartbeats 4000000 in
theorem eX5_has {b : Nat} (hb : sh_isP b) {x1 : Int} {I : sh_Mem} {Q : Int → sh_Mem → Prop} (h : (sh_Bd x1 ∧ ((x1 < 0 → Q 0 I) ∧ (0 ≤ x1 → (sh_Bd (I (b + 1) 7) ∧ (((I (b + 1) 7) ≤ x1 → Q 0 I) ∧ (x1 < (I (b + 1) 7) → ((6 ≤ x1 → Q 0 I) ∧ (x1 < 6 → Q 1 I))))))))) : cc mX5_has [.inr (b + 1), .inl x1] I (qi Q) := by
  refine sh_call cd_X5_has.2.2.2 (Nat.le_of_ble_eq_true rfl) ?_
  show kk mX5_has 0 [some (.inr (b + 1)), some (.inl x1)] [] I (qi Q)
  refine sh_iload_n (pc := 0) dX5_has_0 rfl rfl ?_
  obtain ⟨hb_1, h⟩ := h
  refine sh_if_lt (pc := 1) (tgt := 22) dX5_has_1 (by decide) hb_1  (fun q_2 => ?_) (fun q_2 => ?_)
  · replace h := h.1 q_2
    refine sh_iconst (pc := 22) (v := 0) dX5_has_22 rfl ?_
    exact k_zret dX5_has_23 rfl (Or.inl rfl) h
  · replace h := h.2 q_2
    refine sh_iload_n (pc := 4) dX5_has_4 rfl rfl ?_
    refine sh_aload_n (pc := 5) dX5_has_5 rfl rfl ?_
    refine sh_getI (pc := 6) (g := 7) dX5_has_6 fl_X5_33 rfl (is_R hb) rfl ?_
    obtain ⟨hb_3, h⟩ := h
    refine sh_icmp_ge (pc := 9) (tgt := 22) dX5_has_9 (by decide) hb_1 hb_3 (fun q_4 => ?_) (fun q_4 => ?_)
    · replace h := h.1 q_4
      refine sh_iconst (pc := 22) (v := 0) dX5_has_22 rfl ?_
      exact k_zret dX5_has_23 rfl (Or.inl rfl) h
    · replace h := h.2 q_4
      refine sh_iload_n (pc := 12) dX5_has_12 rfl rfl ?_
      refine sh_bipush (pc := 13) (v := 6) dX5_has_13 (by decide) ?_
      refine sh_icmp_ge (pc := 15) (tgt := 22) dX5_has_15 (by decide) hb_1 (bd_lit (by decide)) (fun q_5 => ?_) (fun q_5 => ?_)
      · replace h := h.1 q_5
        refine sh_iconst (pc := 22) (v := 0) dX5_has_22 rfl ?_
        exact k_zret dX5_has_23 rfl (Or.inl rfl) h
      · replace h := h.2 q_5
        refine sh_iconst (pc := 18) (v := 1) dX5_has_18 rfl ?_
        refine sh_goto (pc := 19) (tgt := 23) dX5_has_19 (by decide) ?_
        exact k_zret dX5_has_23 rfl (Or.inr rfl) h
set_option maxRecDepth 100000 in
set_option maxHeartbeats 4000000 in
theorem eX5_standingOn {b : Nat} (hb : sh_isP b) {x1 : Int} {I : sh_Mem} {Q : Int → sh_Mem → Prop} (h : kk mX5_standingOn 2 [some (.inr (b + 1)), some (.inl x1), some (.inl 0)] [] I (qi Q)) : cc mX5_standingOn [.inr (b + 1), .inl x1] I (qi Q) := by
  refine sh_call cd_X5_standingOn.2.2.2 (Nat.le_of_ble_eq_true rfl) ?_
  show kk mX5_standingOn 0 [some (.inr (b + 1)), some (.inl x1), none] [] I (qi Q)
  refine sh_iconst (pc := 0) (v := 0) dX5_standingOn_0 rfl ?_
  refine k_istore_n (pc := 1) [some (.inr (b + 1)), some (.inl x1), some (.inl 0)] dX5_standingOn_1 rfl rfl (by decide) ?_
  exact sh_O.locals h (sub_some (sub_some (sub_some sub_nil)))
set_option maxRecDepth 100000 in
set_option maxHeartbeats 4000000 in
theorem lX5_standingOn_2 {b : Nat} (hb : sh_isP b) {y1 : Int} {y2 : Int} {I : sh_Mem} {Q : Int → sh_Mem → Prop} (h : (sh_Bd y2 ∧ (sh_Bd (I (b + 1) 7) ∧ (((I (b + 1) 7) ≤ y2 → Q (-5) I) ∧ (y2 < (I (b + 1) 7) → ((6 ≤ y2 → Q (-5) I) ∧ (y2 < 6 → ((0 ≤ y2 ∧ y2 < (6 : Int)) ∧ (sh_Bd (I (b + 2) y2) ∧ (sh_Bd y1 ∧ ((¬ (I (b + 2) y2) = y1 → kk mX5_standingOn 2 [some (.inr (b + 1)), some (.inl y1), some (.inl (y2 + 1))] [] I (qi Q)) ∧ ((I (b + 2) y2) = y1 → Q y2 I)))))))))))) : kk mX5_standingOn 2 [some (.inr (b + 1)), some (.inl y1), some (.inl y2)] [] I (qi Q) := by
  refine sh_iload_n (pc := 2) dX5_standingOn_2 rfl rfl ?_
  refine sh_aload_n (pc := 3) dX5_standingOn_3 rfl rfl ?_
  refine sh_getI (pc := 4) (g := 7) dX5_standingOn_4 fl_X5_33 rfl (is_R hb) rfl ?_
  obtain ⟨hb_1, h⟩ := h
  obtain ⟨hb_2, h⟩ := h
  refine sh_icmp_ge (pc := 7) (tgt := 34) dX5_standingOn_7 (by decide) hb_1 hb_2 (fun q_3 => ?_) (fun q_3 => ?_)
  · replace h := h.1 q_3
    refine sh_bipush (pc := 34) (v := (-5)) dX5_standingOn_34 (by decide) ?_
    exact k_iret dX5_standingOn_36 rfl h
  · replace h := h.2 q_3
    refine sh_iload_n (pc := 10) dX5_standingOn_10 rfl rfl ?_
    refine sh_bipush (pc := 11) (v := 6) dX5_standingOn_11 (by decide) ?_
    refine sh_icmp_ge (pc := 13) (tgt := 34) dX5_standingOn_13 (by decide) hb_1 (bd_lit (by decide)) (fun q_4 => ?_) (fun q_4 => ?_)
    · replace h := h.1 q_4
      refine sh_bipush (pc := 34) (v := (-5)) dX5_standingOn_34 (by decide) ?_
      exact k_iret dX5_standingOn_36 rfl h
    · replace h := h.2 q_4
      refine sh_aload_n (pc := 16) dX5_standingOn_16 rfl rfl ?_
      refine sh_getR (pc := 17) dX5_standingOn_17 fl_X5_9 rfl (is_R hb) (pt_R0 hb) ?_
      refine sh_iload_n (pc := 20) dX5_standingOn_20 rfl rfl ?_
      obtain ⟨hi_5, h⟩ := h
      refine sh_iald (pc := 21) dX5_standingOn_21 (is_P2 hb) (by decide) hi_5 ?_
      refine sh_iload_n (pc := 22) dX5_standingOn_22 rfl rfl ?_
      obtain ⟨hb_6, h⟩ := h
      obtain ⟨hb_7, h⟩ := h
      refine sh_icmp_ne (pc := 23) (tgt := 28) dX5_standingOn_23 (by decide) hb_6 hb_7 (fun q_8 => ?_) (fun q_8 => ?_)
      · replace h := h.1 q_8
        refine k_iinc (pc := 28) [some (.inr (b + 1)), some (.inl y1), some (.inl (y2 + 1))] dX5_standingOn_28 rfl rfl (by decide) ?_
        refine sh_goto (pc := 31) (tgt := 2) dX5_standingOn_31 (by decide) ?_
        exact sh_O.locals h (sub_some (sub_some (sub_some sub_nil)))
      · replace h := h.2 q_8
        refine sh_iload_n (pc := 26) dX5_standingOn_26 rfl rfl ?_
        exact k_iret dX5_standingOn_27 rfl h
set_option maxRecDepth 100000 in
set_option maxHeartbeats 4000000 in
theorem eX5_welcome {b : Nat} (hb : sh_isP b) {x1 : Int} {x2 : Int} {I : sh_Mem} {Q : Int → sh_Mem → Prop} (h : (cc mX6_isCell [.inl x1] I (qi fun v3 I1 => ((v3 = 1 ∧ (sh_Bd x2 ∧ ((x2 < 1 → Q (-2) I1) ∧ (1 ≤ x2 → ((x2 ≤ 5 → (cc mX5_standingOn [.inr (b + 1), .inl x1] I1 (qi fun v9 I7 => (sh_Bd v9 ∧ ((v9 = (-5) → (sh_Bd (I7 (b + 1) 7) ∧ (((I7 (b + 1) 7) < 0 → Q (-3) I7) ∧ (0 ≤ (I7 (b + 1) 7) → (((I7 (b + 1) 7) < 6 → ((0 ≤ (I7 (b + 1) 7) ∧ (I7 (b + 1) 7) < (6 : Int)) ∧ (sh_Bd (I7 (b + 1) 8) ∧ ((¬ (I7 (b + 1) 8) = (-5) → Q (I7 (b + 1) 7) (sh_u (sh_u (sh_u (sh_u (sh_u (sh_u (sh_u (sh_u (sh_u I7 (b + 2) (I7 (b + 1) 7) x1) (b + 3) (I7 (b + 1) 7) x2) (b + 4) (I7 (b + 1) 7) 4) (b + 5) (I7 (b + 1) 7) 0) (b + 6) (I7 (b + 1) 7) 0) (b + 7) (I7 (b + 1) 7) 0) (b + 8) (I7 (b + 1) 7) 0) (b + 1) 7 ((I7 (b + 1) 7) + 1)) (b + 1) 8 (I7 (b + 1) 8))) ∧ ((I7 (b + 1) 8) = (-5) → Q (I7 (b + 1) 7) (sh_u (sh_u (sh_u (sh_u (sh_u (sh_u (sh_u (sh_u (sh_u I7 (b + 2) (I7 (b + 1) 7) x1) (b + 3) (I7 (b + 1) 7) x2) (b + 4) (I7 (b + 1) 7) 4) (b + 5) (I7 (b + 1) 7) 0) (b + 6) (I7 (b + 1) 7) 0) (b + 7) (I7 (b + 1) 7) 0) (b + 8) (I7 (b + 1) 7) 0) (b + 1) 7 ((I7 (b + 1) 7) + 1)) (b + 1) 8 (I7 (b + 1) 7))))))) ∧ (6 ≤ (I7 (b + 1) 7) → Q (-3) I7)))))) ∧ (¬ v9 = (-5) → Q (-4) I7)))))) ∧ (5 < x2 → Q (-2) I1)))))) ∨ (v3 = 0 ∧ Q (-1) I1))))) : cc mX5_welcome [.inr (b + 1), .inl x1, .inl x2] I (qi Q) := by
  refine sh_call cd_X5_welcome.2.2.2 (Nat.le_of_ble_eq_true rfl) ?_
  show kk mX5_welcome 0 [some (.inr (b + 1)), some (.inl x1), some (.inl x2), none] [] I (qi Q)
  refine sh_iload_n (pc := 0) dX5_welcome_0 rfl rfl ?_
  refine k_N1i (pc := 1) dX5_welcome_1 lk_X5_53 rfl h (fun v3 I1 h => ?_)
  rcases h with ⟨rfl, h⟩ | ⟨rfl, h⟩
  · skip
    refine sh_if_ne (pc := 4) (tgt := 9) dX5_welcome_4 (by decide) (bd_lit (by decide)) (fun qz => ?_) (fun qz => ?_)
    · skip
      refine sh_iload_n (pc := 9) dX5_welcome_9 rfl rfl ?_
      refine sh_iconst (pc := 10) (v := 1) dX5_welcome_10 rfl ?_
      obtain ⟨hb_4, h⟩ := h
      refine sh_icmp_lt (pc := 11) (tgt := 19) dX5_welcome_11 (by decide) hb_4 (bd_lit (by decide)) (fun q_5 => ?_) (fun q_5 => ?_)
      · replace h := h.1 q_5
        refine sh_bipush (pc := 19) (v := (-2)) dX5_welcome_19 (by decide) ?_
        exact k_iret dX5_welcome_21 rfl h
      · replace h := h.2 q_5
        refine sh_iload_n (pc := 14) dX5_welcome_14 rfl rfl ?_
        refine sh_iconst (pc := 15) (v := 5) dX5_welcome_15 rfl ?_
        refine sh_icmp_le (pc := 16) (tgt := 22) dX5_welcome_16 (by decide) hb_4 (bd_lit (by decide)) (fun q_6 => ?_) (fun q_6 => ?_)
        · replace h := h.1 q_6
          refine sh_aload_n (pc := 22) dX5_welcome_22 rfl rfl ?_
          refine sh_iload_n (pc := 23) dX5_welcome_23 rfl rfl ?_
          refine k_V1i (pc := 24) (is_R hb) dX5_welcome_24 lk_X5_57 rfl h (fun v9 I7 h => ?_)
          refine sh_bipush (pc := 27) (v := (-5)) dX5_welcome_27 (by decide) ?_
          obtain ⟨hb_10, h⟩ := h
          refine sh_icmp_eq (pc := 29) (tgt := 35) dX5_welcome_29 (by decide) hb_10 (bd_lit (by decide)) (fun q_11 => ?_) (fun q_11 => ?_)
          · replace h := h.1 q_11
            refine sh_aload_n (pc := 35) dX5_welcome_35 rfl rfl ?_
            refine sh_getI (pc := 36) (g := 7) dX5_welcome_36 fl_X5_33 rfl (is_R hb) rfl ?_
            obtain ⟨hb_12, h⟩ := h
            refine sh_if_lt (pc := 39) (tgt := 51) dX5_welcome_39 (by decide) hb_12  (fun q_13 => ?_) (fun q_13 => ?_)
            · replace h := h.1 q_13
              refine sh_bipush (pc := 51) (v := (-3)) dX5_welcome_51 (by decide) ?_
              exact k_iret dX5_welcome_53 rfl h
            · replace h := h.2 q_13
              refine sh_aload_n (pc := 42) dX5_welcome_42 rfl rfl ?_
              refine sh_getI (pc := 43) (g := 7) dX5_welcome_43 fl_X5_33 rfl (is_R hb) rfl ?_
              refine sh_bipush (pc := 46) (v := 6) dX5_welcome_46 (by decide) ?_
              refine sh_icmp_lt (pc := 48) (tgt := 54) dX5_welcome_48 (by decide) hb_12 (bd_lit (by decide)) (fun q_14 => ?_) (fun q_14 => ?_)
              · replace h := h.1 q_14
                refine sh_aload_n (pc := 54) dX5_welcome_54 rfl rfl ?_
                refine sh_getI (pc := 55) (g := 7) dX5_welcome_55 fl_X5_33 rfl (is_R hb) rfl ?_
                refine k_istore_n (pc := 58) [some (.inr (b + 1)), some (.inl x1), some (.inl x2), some (.inl (I7 (b + 1) 7))] dX5_welcome_58 rfl rfl (by decide) ?_
                refine sh_aload_n (pc := 59) dX5_welcome_59 rfl rfl ?_
                refine sh_getR (pc := 60) dX5_welcome_60 fl_X5_9 rfl (is_R hb) (pt_R0 hb) ?_
                refine sh_iload_n (pc := 63) dX5_welcome_63 rfl rfl ?_
                refine sh_iload_n (pc := 64) dX5_welcome_64 rfl rfl ?_
                obtain ⟨hi_15, h⟩ := h
                refine sh_iast (pc := 65) dX5_welcome_65 (is_P2 hb) (by decide) hi_15  ?_
                refine sh_aload_n (pc := 66) dX5_welcome_66 rfl rfl ?_
                refine sh_getR (pc := 67) dX5_welcome_67 fl_X5_15 rfl (is_R hb) (pt_R1 hb) ?_
                refine sh_iload_n (pc := 70) dX5_welcome_70 rfl rfl ?_
                refine sh_iload_n (pc := 71) dX5_welcome_71 rfl rfl ?_
                refine sh_iast (pc := 72) dX5_welcome_72 (is_P3 hb) (by decide) hi_15  ?_
                refine sh_aload_n (pc := 73) dX5_welcome_73 rfl rfl ?_
                refine sh_getR (pc := 74) dX5_welcome_74 fl_X5_18 rfl (is_R hb) (pt_R2 hb) ?_
                refine sh_iload_n (pc := 77) dX5_welcome_77 rfl rfl ?_
                refine sh_iconst (pc := 78) (v := 4) dX5_welcome_78 rfl ?_
                refine sh_iast (pc := 79) dX5_welcome_79 (is_P4 hb) (by decide) hi_15  ?_
                refine sh_aload_n (pc := 80) dX5_welcome_80 rfl rfl ?_
                refine sh_getR (pc := 81) dX5_welcome_81 fl_X5_21 rfl (is_R hb) (pt_R3 hb) ?_
                refine sh_iload_n (pc := 84) dX5_welcome_84 rfl rfl ?_
                refine sh_iconst (pc := 85) (v := 0) dX5_welcome_85 rfl ?_
                refine sh_iast (pc := 86) dX5_welcome_86 (is_P5 hb) (by decide) hi_15  ?_
                refine sh_aload_n (pc := 87) dX5_welcome_87 rfl rfl ?_
                refine sh_getR (pc := 88) dX5_welcome_88 fl_X5_24 rfl (is_R hb) (pt_R4 hb) ?_
                refine sh_iload_n (pc := 91) dX5_welcome_91 rfl rfl ?_
                refine sh_iconst (pc := 92) (v := 0) dX5_welcome_92 rfl ?_
                refine sh_iast (pc := 93) dX5_welcome_93 (is_P6 hb) (by decide) hi_15  ?_
                refine sh_aload_n (pc := 94) dX5_welcome_94 rfl rfl ?_
                refine sh_getR (pc := 95) dX5_welcome_95 fl_X5_27 rfl (is_R hb) (pt_R5 hb) ?_
                refine sh_iload_n (pc := 98) dX5_welcome_98 rfl rfl ?_
                refine sh_iconst (pc := 99) (v := 0) dX5_welcome_99 rfl ?_
                refine sh_iast (pc := 100) dX5_welcome_100 (is_P7 hb) (by decide) hi_15  ?_
                refine sh_aload_n (pc := 101) dX5_welcome_101 rfl rfl ?_
                refine sh_getR (pc := 102) dX5_welcome_102 fl_X5_30 rfl (is_R hb) (pt_R6 hb) ?_
                refine sh_iload_n (pc := 105) dX5_welcome_105 rfl rfl ?_
                refine sh_iconst (pc := 106) (v := 0) dX5_welcome_106 rfl ?_
                refine sh_iast (pc := 107) dX5_welcome_107 (is_P8 hb) (by decide) hi_15  ?_
                refine sh_aload_n (pc := 108) dX5_welcome_108 rfl rfl ?_
                refine sh_dup (pc := 109) dX5_welcome_109 ?_
                refine k_getI (pc := 110) (g := 7) (I7 (b + 1) 7) dX5_welcome_110 fl_X5_33 rfl (is_R hb) rfl (by simp [sh_u]) ?_
                refine sh_iconst (pc := 113) (v := 1) dX5_welcome_113 rfl ?_
                refine sh_iadd (pc := 114) dX5_welcome_114 ?_
                refine k_putI (pc := 115) (g := 7) dX5_welcome_115 fl_X5_33 rfl (is_R hb) rfl ?_
                refine sh_aload_n (pc := 118) dX5_welcome_118 rfl rfl ?_
                refine sh_aload_n (pc := 119) dX5_welcome_119 rfl rfl ?_
                refine k_getI (pc := 120) (g := 8) (I7 (b + 1) 8) dX5_welcome_120 fl_X5_37 rfl (is_R hb) rfl (by simp [sh_u]) ?_
                refine sh_bipush (pc := 123) (v := (-5)) dX5_welcome_123 (by decide) ?_
                obtain ⟨hb_16, h⟩ := h
                refine sh_icmp_ne (pc := 125) (tgt := 132) dX5_welcome_125 (by decide) hb_16 (bd_lit (by decide)) (fun q_17 => ?_) (fun q_17 => ?_)
                · replace h := h.1 q_17
                  refine sh_aload_n (pc := 132) dX5_welcome_132 rfl rfl ?_
                  refine k_getI (pc := 133) (g := 8) (I7 (b + 1) 8) dX5_welcome_133 fl_X5_37 rfl (is_R hb) rfl (by simp [sh_u]) ?_
                  refine k_putI (pc := 136) (g := 8) dX5_welcome_136 fl_X5_37 rfl (is_R hb) rfl ?_
                  refine sh_iload_n (pc := 139) dX5_welcome_139 rfl rfl ?_
                  exact k_iret dX5_welcome_140 rfl h
                · replace h := h.2 q_17
                  refine sh_iload_n (pc := 128) dX5_welcome_128 rfl rfl ?_
                  refine sh_goto (pc := 129) (tgt := 136) dX5_welcome_129 (by decide) ?_
                  refine k_putI (pc := 136) (g := 8) dX5_welcome_136 fl_X5_37 rfl (is_R hb) rfl ?_
                  refine sh_iload_n (pc := 139) dX5_welcome_139 rfl rfl ?_
                  exact k_iret dX5_welcome_140 rfl h
              · replace h := h.2 q_14
                refine sh_bipush (pc := 51) (v := (-3)) dX5_welcome_51 (by decide) ?_
                exact k_iret dX5_welcome_53 rfl h
          · replace h := h.2 q_11
            refine sh_bipush (pc := 32) (v := (-4)) dX5_welcome_32 (by decide) ?_
            exact k_iret dX5_welcome_34 rfl h
        · replace h := h.2 q_6
          refine sh_bipush (pc := 19) (v := (-2)) dX5_welcome_19 (by decide) ?_
          exact k_iret dX5_welcome_21 rfl h
    · exact absurd qz (by decide)
  · skip
    refine sh_if_ne (pc := 4) (tgt := 9) dX5_welcome_4 (by decide) (bd_lit (by decide)) (fun qz => ?_) (fun qz => ?_)
    · exact absurd qz (by decide)
    · skip
      refine sh_iconst (pc := 7) (v := (-1)) dX5_welcome_7 rfl ?_
      exact k_iret dX5_welcome_8 rfl h
set_option maxRecDepth 100000 in
set_option maxHeartbeats 4000000 in
theorem eX5_steer {b : Nat} (hb : sh_isP b) {x1 : Int} {x2 : Int} {I : sh_Mem} {Q : Int → sh_Mem → Prop} (h : (cc mX5_has [.inr (b + 1), .inl x1] I (qi fun v3 I1 => ((v3 = 1 ∧ (sh_Bd x2 ∧ ((x2 < (-1) → Q (-2) I1) ∧ ((-1) ≤ x2 → ((x2 < 4 → ((¬ x2 = (-1) → (cc mX6_replace [.inr (b + 4), .inl x1, .inl x2, .inl 0, .inl 4] I1 (qi fun v10 I8 => Q v10 I8))) ∧ (x2 = (-1) → (cc mX6_replace [.inr (b + 4), .inl x1, .inl 4, .inl 0, .inl 4] I1 (qi fun v13 I11 => Q v13 I11))))) ∧ (4 ≤ x2 → Q (-2) I1)))))) ∨ (v3 = 0 ∧ Q (-1) I1))))) : cc mX5_steer [.inr (b + 1), .inl x1, .inl x2] I (qi Q) := by
  refine sh_call cd_X5_steer.2.2.2 (Nat.le_of_ble_eq_true rfl) ?_
  show kk mX5_steer 0 [some (.inr (b + 1)), some (.inl x1), some (.inl x2)] [] I (qi Q)
  refine sh_aload_n (pc := 0) dX5_steer_0 rfl rfl ?_
  refine sh_iload_n (pc := 1) dX5_steer_1 rfl rfl ?_
  refine k_V1i (pc := 2) (is_R hb) dX5_steer_2 lk_X5_61 rfl h (fun v3 I1 h => ?_)
  rcases h with ⟨rfl, h⟩ | ⟨rfl, h⟩
  · skip
    refine sh_if_ne (pc := 5) (tgt := 10) dX5_steer_5 (by decide) (bd_lit (by decide)) (fun qz => ?_) (fun qz => ?_)
    · skip
      refine sh_iload_n (pc := 10) dX5_steer_10 rfl rfl ?_
      refine sh_iconst (pc := 11) (v := (-1)) dX5_steer_11 rfl ?_
      obtain ⟨hb_4, h⟩ := h
      refine sh_icmp_lt (pc := 12) (tgt := 20) dX5_steer_12 (by decide) hb_4 (bd_lit (by decide)) (fun q_5 => ?_) (fun q_5 => ?_)
      · replace h := h.1 q_5
        refine sh_bipush (pc := 20) (v := (-2)) dX5_steer_20 (by decide) ?_
        exact k_iret dX5_steer_22 rfl h
      · replace h := h.2 q_5
        refine sh_iload_n (pc := 15) dX5_steer_15 rfl rfl ?_
        refine sh_iconst (pc := 16) (v := 4) dX5_steer_16 rfl ?_
        refine sh_icmp_lt (pc := 17) (tgt := 23) dX5_steer_17 (by decide) hb_4 (bd_lit (by decide)) (fun q_6 => ?_) (fun q_6 => ?_)
        · replace h := h.1 q_6
          refine sh_aload_n (pc := 23) dX5_steer_23 rfl rfl ?_
          refine sh_getR (pc := 24) dX5_steer_24 fl_X5_18 rfl (is_R hb) (pt_R2 hb) ?_
          refine sh_iload_n (pc := 27) dX5_steer_27 rfl rfl ?_
          refine sh_iload_n (pc := 28) dX5_steer_28 rfl rfl ?_
          refine sh_iconst (pc := 29) (v := (-1)) dX5_steer_29 rfl ?_
          refine sh_icmp_ne (pc := 30) (tgt := 37) dX5_steer_30 (by decide) hb_4 (bd_lit (by decide)) (fun q_7 => ?_) (fun q_7 => ?_)
          · replace h := h.1 q_7
            refine sh_iload_n (pc := 37) dX5_steer_37 rfl rfl ?_
            refine sh_iconst (pc := 38) (v := 0) dX5_steer_38 rfl ?_
            refine sh_iconst (pc := 39) (v := 4) dX5_steer_39 rfl ?_
            refine k_N5i (pc := 40) dX5_steer_40 lk_X5_64 rfl h (fun v10 I8 h => ?_)
            exact k_iret dX5_steer_43 rfl h
          · replace h := h.2 q_7
            refine sh_iconst (pc := 33) (v := 4) dX5_steer_33 rfl ?_
            refine sh_goto (pc := 34) (tgt := 38) dX5_steer_34 (by decide) ?_
            refine sh_iconst (pc := 38) (v := 0) dX5_steer_38 rfl ?_
            refine sh_iconst (pc := 39) (v := 4) dX5_steer_39 rfl ?_
            refine k_N5i (pc := 40) dX5_steer_40 lk_X5_64 rfl h (fun v13 I11 h => ?_)
            exact k_iret dX5_steer_43 rfl h
        · replace h := h.2 q_6
          refine sh_bipush (pc := 20) (v := (-2)) dX5_steer_20 (by decide) ?_
          exact k_iret dX5_steer_22 rfl h
    · exact absurd qz (by decide)
  · skip
    refine sh_if_ne (pc := 5) (tgt := 10) dX5_steer_5 (by decide) (bd_lit (by decide)) (fun qz => ?_) (fun qz => ?_)
    · exact absurd qz (by decide)
    · skip
      refine sh_iconst (pc := 8) (v := (-1)) dX5_steer_8 rfl ?_
      exact k_iret dX5_steer_9 rfl h
set_option maxRecDepth 100000 in
set_option maxHeartbeats 4000000 in
theorem eX5_stepAll {b : Nat} (hb : sh_isP b) {I : sh_Mem} {Q : sh_Mem → Prop} (h : kk mX5_stepAll 2 [some (.inr (b + 1)), some (.inl 0)] [] I (qv Q)) : cc mX5_stepAll [.inr (b + 1)] I (qv Q) := by
  refine sh_call cd_X5_stepAll.2.2.2 (Nat.le_of_ble_eq_true rfl) ?_
  show kk mX5_stepAll 0 [some (.inr (b + 1)), none] [] I (qv Q)
  refine sh_iconst (pc := 0) (v := 0) dX5_stepAll_0 rfl ?_
  refine k_istore_n (pc := 1) [some (.inr (b + 1)), some (.inl 0)] dX5_stepAll_1 rfl rfl (by decide) ?_
  exact sh_O.locals h (sub_some (sub_some sub_nil))
set_option maxRecDepth 100000 in
set_option maxHeartbeats 4000000 in
theorem lX5_stepAll_2 {b : Nat} (hb : sh_isP b) {y1 : Int} {I : sh_Mem} {Q : sh_Mem → Prop} (h : (sh_Bd y1 ∧ (sh_Bd (I (b + 1) 7) ∧ (((I (b + 1) 7) ≤ y1 → Q I) ∧ (y1 < (I (b + 1) 7) → (cc mX5_step [.inr (b + 1), .inl y1] I (qv fun I4 => kk mX5_stepAll 2 [some (.inr (b + 1)), some (.inl (y1 + 1))] [] I4 (qv Q)))))))) : kk mX5_stepAll 2 [some (.inr (b + 1)), some (.inl y1)] [] I (qv Q) := by
  refine sh_iload_n (pc := 2) dX5_stepAll_2 rfl rfl ?_
  refine sh_aload_n (pc := 3) dX5_stepAll_3 rfl rfl ?_
  refine sh_getI (pc := 4) (g := 7) dX5_stepAll_4 fl_X5_33 rfl (is_R hb) rfl ?_
  obtain ⟨hb_1, h⟩ := h
  obtain ⟨hb_2, h⟩ := h
  refine sh_icmp_ge (pc := 7) (tgt := 21) dX5_stepAll_7 (by decide) hb_1 hb_2 (fun q_3 => ?_) (fun q_3 => ?_)
  · replace h := h.1 q_3
    exact k_vret dX5_stepAll_21 rfl h
  · replace h := h.2 q_3
    refine sh_aload_n (pc := 10) dX5_stepAll_10 rfl rfl ?_
    refine sh_iload_n (pc := 11) dX5_stepAll_11 rfl rfl ?_
    refine k_V1v (pc := 12) (is_R hb) dX5_stepAll_12 lk_X5_68 rfl h (fun I4 h => ?_)
    refine k_iinc (pc := 15) [some (.inr (b + 1)), some (.inl (y1 + 1))] dX5_stepAll_15 rfl rfl (by decide) ?_
    refine sh_goto (pc := 18) (tgt := 2) dX5_stepAll_18 (by decide) ?_
    exact sh_O.locals h (sub_some (sub_some sub_nil))
set_option maxRecDepth 100000 in
set_option maxHeartbeats 4000000 in
theorem eX5_step {b : Nat} (hb : sh_isP b) {x1 : Int} {I : sh_Mem} {Q : sh_Mem → Prop} (h : (cc mX5_has [.inr (b + 1), .inl x1] I (qi fun v3 I1 => ((v3 = 1 ∧ ((0 ≤ x1 ∧ x1 < (6 : Int)) ∧ (sh_Bd (I1 (b + 4) x1) ∧ ((¬ (I1 (b + 4) x1) = 4 → (cc mX6_cellAlong [.inl (I1 (b + 2) x1), .inl (I1 (b + 4) x1), .inl 1] I1 (qi fun v9 I7 => (cc mX6_cellsToEdge [.inl (I1 (b + 2) x1), .inl (I1 (b + 4) x1)] I7 (qi fun v12 I10 => (sh_Bd v12 ∧ ((v12 = 0 → Q (sh_u I10 (b + 1) 11 ((I10 (b + 1) 11) + 1))) ∧ (¬ v12 = 0 → (cc mX5_standingOn [.inr (b + 1), .inl v9] I10 (qi fun v17 I15 => (sh_Bd v17 ∧ ((v17 = (-5) → Q (sh_u (sh_u I15 (b + 2) x1 v9) (b + 1) 10 ((I15 (b + 1) 10) + 1))) ∧ (¬ v17 = (-5) → Q (sh_u I15 (b + 1) 11 ((I15 (b + 1) 11) + 1))))))))))))))) ∧ ((I1 (b + 4) x1) = 4 → Q I1))))) ∨ (v3 = 0 ∧ Q I1))))) : cc mX5_step [.inr (b + 1), .inl x1] I (qv Q) := by
  refine sh_call cd_X5_step.2.2.2 (Nat.le_of_ble_eq_true rfl) ?_
  show kk mX5_step 0 [some (.inr (b + 1)), some (.inl x1), none, none, none] [] I (qv Q)
  refine sh_aload_n (pc := 0) dX5_step_0 rfl rfl ?_
  refine sh_iload_n (pc := 1) dX5_step_1 rfl rfl ?_
  refine k_V1i (pc := 2) (is_R hb) dX5_step_2 lk_X5_61 rfl h (fun v3 I1 h => ?_)
  rcases h with ⟨rfl, h⟩ | ⟨rfl, h⟩
  · skip
    refine sh_if_eq (pc := 5) (tgt := 18) dX5_step_5 (by decide) (bd_lit (by decide)) (fun qz => ?_) (fun qz => ?_)
    · exact absurd qz (by decide)
    · skip
      refine sh_aload_n (pc := 8) dX5_step_8 rfl rfl ?_
      refine sh_getR (pc := 9) dX5_step_9 fl_X5_18 rfl (is_R hb) (pt_R2 hb) ?_
      refine sh_iload_n (pc := 12) dX5_step_12 rfl rfl ?_
      obtain ⟨hi_4, h⟩ := h
      refine sh_iald (pc := 13) dX5_step_13 (is_P4 hb) (by decide) hi_4 ?_
      refine sh_iconst (pc := 14) (v := 4) dX5_step_14 rfl ?_
      obtain ⟨hb_5, h⟩ := h
      refine sh_icmp_ne (pc := 15) (tgt := 19) dX5_step_15 (by decide) hb_5 (bd_lit (by decide)) (fun q_6 => ?_) (fun q_6 => ?_)
      · replace h := h.1 q_6
        refine sh_aload_n (pc := 19) dX5_step_19 rfl rfl ?_
        refine sh_getR (pc := 20) dX5_step_20 fl_X5_9 rfl (is_R hb) (pt_R0 hb) ?_
        refine sh_iload_n (pc := 23) dX5_step_23 rfl rfl ?_
        refine sh_iald (pc := 24) dX5_step_24 (is_P2 hb) (by decide) hi_4 ?_
        refine k_istore_n (pc := 25) [some (.inr (b + 1)), some (.inl x1), some (.inl (I1 (b + 2) x1)), none, none] dX5_step_25 rfl rfl (by decide) ?_
        refine sh_aload_n (pc := 26) dX5_step_26 rfl rfl ?_
        refine sh_getR (pc := 27) dX5_step_27 fl_X5_18 rfl (is_R hb) (pt_R2 hb) ?_
        refine sh_iload_n (pc := 30) dX5_step_30 rfl rfl ?_
        refine sh_iald (pc := 31) dX5_step_31 (is_P4 hb) (by decide) hi_4 ?_
        refine k_istore_n (pc := 32) [some (.inr (b + 1)), some (.inl x1), some (.inl (I1 (b + 2) x1)), some (.inl (I1 (b + 4) x1)), none] dX5_step_32 rfl rfl (by decide) ?_
        refine sh_iload_n (pc := 33) dX5_step_33 rfl rfl ?_
        refine sh_iload_n (pc := 34) dX5_step_34 rfl rfl ?_
        refine sh_iconst (pc := 35) (v := 1) dX5_step_35 rfl ?_
        refine k_N3i (pc := 36) dX5_step_36 lk_X5_72 rfl h (fun v9 I7 h => ?_)
        refine k_istore (pc := 39) [some (.inr (b + 1)), some (.inl x1), some (.inl (I1 (b + 2) x1)), some (.inl (I1 (b + 4) x1)), some (.inl v9)] dX5_step_39 rfl (by decide) ?_
        refine sh_iload_n (pc := 41) dX5_step_41 rfl rfl ?_
        refine sh_iload_n (pc := 42) dX5_step_42 rfl rfl ?_
        refine k_N2i (pc := 43) dX5_step_43 lk_X5_76 rfl h (fun v12 I10 h => ?_)
        obtain ⟨hb_13, h⟩ := h
        refine sh_if_eq (pc := 46) (tgt := 60) dX5_step_46 (by decide) hb_13  (fun q_14 => ?_) (fun q_14 => ?_)
        · replace h := h.1 q_14
          refine sh_aload_n (pc := 60) dX5_step_60 rfl rfl ?_
          refine sh_dup (pc := 61) dX5_step_61 ?_
          refine sh_getI (pc := 62) (g := 11) dX5_step_62 fl_X5_46 rfl (is_R hb) rfl ?_
          refine sh_iconst (pc := 65) (v := 1) dX5_step_65 rfl ?_
          refine sh_iadd (pc := 66) dX5_step_66 ?_
          refine k_putI (pc := 67) (g := 11) dX5_step_67 fl_X5_46 rfl (is_R hb) rfl ?_
          refine sh_goto (pc := 70) (tgt := 91) dX5_step_70 (by decide) ?_
          exact k_vret dX5_step_91 rfl h
        · replace h := h.2 q_14
          refine sh_aload_n (pc := 49) dX5_step_49 rfl rfl ?_
          refine sh_iload (pc := 50) dX5_step_50 rfl ?_
          refine k_V1i (pc := 52) (is_R hb) dX5_step_52 lk_X5_57 rfl h (fun v17 I15 h => ?_)
          refine sh_bipush (pc := 55) (v := (-5)) dX5_step_55 (by decide) ?_
          obtain ⟨hb_18, h⟩ := h
          refine sh_icmp_eq (pc := 57) (tgt := 73) dX5_step_57 (by decide) hb_18 (bd_lit (by decide)) (fun q_19 => ?_) (fun q_19 => ?_)
          · replace h := h.1 q_19
            refine sh_aload_n (pc := 73) dX5_step_73 rfl rfl ?_
            refine sh_getR (pc := 74) dX5_step_74 fl_X5_9 rfl (is_R hb) (pt_R0 hb) ?_
            refine sh_iload_n (pc := 77) dX5_step_77 rfl rfl ?_
            refine sh_iload (pc := 78) dX5_step_78 rfl ?_
            refine sh_iast (pc := 80) dX5_step_80 (is_P2 hb) (by decide) hi_4  ?_
            refine sh_aload_n (pc := 81) dX5_step_81 rfl rfl ?_
            refine sh_dup (pc := 82) dX5_step_82 ?_
            refine k_getI (pc := 83) (g := 10) (I15 (b + 1) 10) dX5_step_83 fl_X5_43 rfl (is_R hb) rfl (by simp [sh_u]) ?_
            refine sh_iconst (pc := 86) (v := 1) dX5_step_86 rfl ?_
            refine sh_iadd (pc := 87) dX5_step_87 ?_
            refine k_putI (pc := 88) (g := 10) dX5_step_88 fl_X5_43 rfl (is_R hb) rfl ?_
            exact k_vret dX5_step_91 rfl h
          · replace h := h.2 q_19
            refine sh_aload_n (pc := 60) dX5_step_60 rfl rfl ?_
            refine sh_dup (pc := 61) dX5_step_61 ?_
            refine sh_getI (pc := 62) (g := 11) dX5_step_62 fl_X5_46 rfl (is_R hb) rfl ?_
            refine sh_iconst (pc := 65) (v := 1) dX5_step_65 rfl ?_
            refine sh_iadd (pc := 66) dX5_step_66 ?_
            refine k_putI (pc := 67) (g := 11) dX5_step_67 fl_X5_46 rfl (is_R hb) rfl ?_
            refine sh_goto (pc := 70) (tgt := 91) dX5_step_70 (by decide) ?_
            exact k_vret dX5_step_91 rfl h
      · replace h := h.2 q_6
        exact k_vret dX5_step_18 rfl h
  · skip
    refine sh_if_eq (pc := 5) (tgt := 18) dX5_step_5 (by decide) (bd_lit (by decide)) (fun qz => ?_) (fun qz => ?_)
    · skip
      exact k_vret dX5_step_18 rfl h
    · exact absurd qz (by decide)
set_option maxRecDepth 100000 in
set_option maxHeartbeats 4000000 in
theorem eX5_handOver {b : Nat} (hb : sh_isP b) {x1 : Int} {x2 : Int} {I : sh_Mem} {Q : sh_Mem → Prop} (h : (cc mX5_has [.inr (b + 1), .inl x1] I (qi fun v3 I1 => ((v3 = 1 ∧ (cc mX5_has [.inr (b + 1), .inl (I1 (b + 1) 8)] I1 (qi fun v6 I4 => ((v6 = 1 ∧ ((0 ≤ x1 ∧ x1 < (6 : Int)) ∧ ((0 ≤ (I4 (b + 1) 8) ∧ (I4 (b + 1) 8) < (6 : Int)) ∧ Q (sh_u (sh_u (sh_u (sh_u (sh_u I4 (b + 6) x1 ((I4 (b + 6) x1) + 1)) (b + 7) (I4 (b + 1) 8) ((I4 (b + 7) (I4 (b + 1) 8)) + 1)) (b + 5) (I4 (b + 1) 8) x2) (b + 1) 8 x1) (b + 1) 9 ((I4 (b + 1) 9) + 1))))) ∨ (v6 = 0 ∧ Q I4))))) ∨ (v3 = 0 ∧ Q I1))))) : cc mX5_handOver [.inr (b + 1), .inl x1, .inl x2] I (qv Q) := by
  refine sh_call cd_X5_handOver.2.2.2 (Nat.le_of_ble_eq_true rfl) ?_
  show kk mX5_handOver 0 [some (.inr (b + 1)), some (.inl x1), some (.inl x2)] [] I (qv Q)
  refine sh_aload_n (pc := 0) dX5_handOver_0 rfl rfl ?_
  refine sh_iload_n (pc := 1) dX5_handOver_1 rfl rfl ?_
  refine k_V1i (pc := 2) (is_R hb) dX5_handOver_2 lk_X5_61 rfl h (fun v3 I1 h => ?_)
  rcases h with ⟨rfl, h⟩ | ⟨rfl, h⟩
  · skip
    refine sh_if_eq (pc := 5) (tgt := 19) dX5_handOver_5 (by decide) (bd_lit (by decide)) (fun qz => ?_) (fun qz => ?_)
    · exact absurd qz (by decide)
    · skip
      refine sh_aload_n (pc := 8) dX5_handOver_8 rfl rfl ?_
      refine sh_aload_n (pc := 9) dX5_handOver_9 rfl rfl ?_
      refine sh_getI (pc := 10) (g := 8) dX5_handOver_10 fl_X5_37 rfl (is_R hb) rfl ?_
      refine k_V1i (pc := 13) (is_R hb) dX5_handOver_13 lk_X5_61 rfl h (fun v6 I4 h => ?_)
      rcases h with ⟨rfl, h⟩ | ⟨rfl, h⟩
      · skip
        refine sh_if_ne (pc := 16) (tgt := 20) dX5_handOver_16 (by decide) (bd_lit (by decide)) (fun qz => ?_) (fun qz => ?_)
        · skip
          refine sh_aload_n (pc := 20) dX5_handOver_20 rfl rfl ?_
          refine sh_getR (pc := 21) dX5_handOver_21 fl_X5_24 rfl (is_R hb) (pt_R4 hb) ?_
          refine sh_iload_n (pc := 24) dX5_handOver_24 rfl rfl ?_
          refine sh_dup2 (pc := 25) dX5_handOver_25 ?_
          obtain ⟨hi_7, h⟩ := h
          refine sh_iald (pc := 26) dX5_handOver_26 (is_P6 hb) (by decide) hi_7 ?_
          refine sh_iconst (pc := 27) (v := 1) dX5_handOver_27 rfl ?_
          refine sh_iadd (pc := 28) dX5_handOver_28 ?_
          refine sh_iast (pc := 29) dX5_handOver_29 (is_P6 hb) (by decide) hi_7  ?_
          refine sh_aload_n (pc := 30) dX5_handOver_30 rfl rfl ?_
          refine sh_getR (pc := 31) dX5_handOver_31 fl_X5_27 rfl (is_R hb) (pt_R5 hb) ?_
          refine sh_aload_n (pc := 34) dX5_handOver_34 rfl rfl ?_
          refine k_getI (pc := 35) (g := 8) (I4 (b + 1) 8) dX5_handOver_35 fl_X5_37 rfl (is_R hb) rfl (by simp [sh_u]) ?_
          refine sh_dup2 (pc := 38) dX5_handOver_38 ?_
          obtain ⟨hi_8, h⟩ := h
          refine k_iald (pc := 39) (I4 (b + 7) (I4 (b + 1) 8)) dX5_handOver_39 (is_P7 hb) (by decide) hi_8 (by simp [sh_u]) ?_
          refine sh_iconst (pc := 40) (v := 1) dX5_handOver_40 rfl ?_
          refine sh_iadd (pc := 41) dX5_handOver_41 ?_
          refine sh_iast (pc := 42) dX5_handOver_42 (is_P7 hb) (by decide) hi_8  ?_
          refine sh_aload_n (pc := 43) dX5_handOver_43 rfl rfl ?_
          refine sh_getR (pc := 44) dX5_handOver_44 fl_X5_21 rfl (is_R hb) (pt_R3 hb) ?_
          refine sh_aload_n (pc := 47) dX5_handOver_47 rfl rfl ?_
          refine k_getI (pc := 48) (g := 8) (I4 (b + 1) 8) dX5_handOver_48 fl_X5_37 rfl (is_R hb) rfl (by simp [sh_u]) ?_
          refine sh_iload_n (pc := 51) dX5_handOver_51 rfl rfl ?_
          refine sh_iast (pc := 52) dX5_handOver_52 (is_P5 hb) (by decide) hi_8  ?_
          refine sh_aload_n (pc := 53) dX5_handOver_53 rfl rfl ?_
          refine sh_iload_n (pc := 54) dX5_handOver_54 rfl rfl ?_
          refine k_putI (pc := 55) (g := 8) dX5_handOver_55 fl_X5_37 rfl (is_R hb) rfl ?_
          refine sh_aload_n (pc := 58) dX5_handOver_58 rfl rfl ?_
          refine sh_dup (pc := 59) dX5_handOver_59 ?_
          refine k_getI (pc := 60) (g := 9) (I4 (b + 1) 9) dX5_handOver_60 fl_X5_40 rfl (is_R hb) rfl (by simp [sh_u]) ?_
          refine sh_iconst (pc := 63) (v := 1) dX5_handOver_63 rfl ?_
          refine sh_iadd (pc := 64) dX5_handOver_64 ?_
          refine k_putI (pc := 65) (g := 9) dX5_handOver_65 fl_X5_40 rfl (is_R hb) rfl ?_
          exact k_vret dX5_handOver_68 rfl h
        · exact absurd qz (by decide)
      · skip
        refine sh_if_ne (pc := 16) (tgt := 20) dX5_handOver_16 (by decide) (bd_lit (by decide)) (fun qz => ?_) (fun qz => ?_)
        · exact absurd qz (by decide)
        · skip
          exact k_vret dX5_handOver_19 rfl h
  · skip
    refine sh_if_eq (pc := 5) (tgt := 19) dX5_handOver_5 (by decide) (bd_lit (by decide)) (fun qz => ?_) (fun qz => ?_)
    · skip
      exact k_vret dX5_handOver_19 rfl h
    · exact absurd qz (by decide)
set_option maxRecDepth 100000 in
set_option maxHeartbeats 4000000 in
theorem eX5_shortenRespites {b : Nat} (hb : sh_isP b) {I : sh_Mem} {Q : sh_Mem → Prop} (h : kk mX5_shortenRespites 2 [some (.inr (b + 1)), some (.inl 0)] [] I (qv Q)) : cc mX5_shortenRespites [.inr (b + 1)] I (qv Q) := by
  refine sh_call cd_X5_shortenRespites.2.2.2 (Nat.le_of_ble_eq_true rfl) ?_
  show kk mX5_shortenRespites 0 [some (.inr (b + 1)), none] [] I (qv Q)
  refine sh_iconst (pc := 0) (v := 0) dX5_shortenRespites_0 rfl ?_
  refine k_istore_n (pc := 1) [some (.inr (b + 1)), some (.inl 0)] dX5_shortenRespites_1 rfl rfl (by decide) ?_
  exact sh_O.locals h (sub_some (sub_some sub_nil))
set_option maxRecDepth 100000 in
set_option maxHeartbeats 4000000 in
theorem lX5_shortenRespites_2 {b : Nat} (hb : sh_isP b) {y1 : Int} {I : sh_Mem} {Q : sh_Mem → Prop} (h : (sh_Bd y1 ∧ (sh_Bd (I (b + 1) 7) ∧ (((I (b + 1) 7) ≤ y1 → Q I) ∧ (y1 < (I (b + 1) 7) → ((6 ≤ y1 → Q I) ∧ (y1 < 6 → ((0 ≤ y1 ∧ y1 < (6 : Int)) ∧ (sh_Bd (I (b + 5) y1) ∧ (((I (b + 5) y1) ≤ 0 → kk mX5_shortenRespites 2 [some (.inr (b + 1)), some (.inl (y1 + 1))] [] I (qv Q)) ∧ (0 < (I (b + 5) y1) → kk mX5_shortenRespites 2 [some (.inr (b + 1)), some (.inl (y1 + 1))] [] (sh_u I (b + 5) y1 ((I (b + 5) y1) - 1)) (qv Q)))))))))))) : kk mX5_shortenRespites 2 [some (.inr (b + 1)), some (.inl y1)] [] I (qv Q) := by
  refine sh_iload_n (pc := 2) dX5_shortenRespites_2 rfl rfl ?_
  refine sh_aload_n (pc := 3) dX5_shortenRespites_3 rfl rfl ?_
  refine sh_getI (pc := 4) (g := 7) dX5_shortenRespites_4 fl_X5_33 rfl (is_R hb) rfl ?_
  obtain ⟨hb_1, h⟩ := h
  obtain ⟨hb_2, h⟩ := h
  refine sh_icmp_ge (pc := 7) (tgt := 41) dX5_shortenRespites_7 (by decide) hb_1 hb_2 (fun q_3 => ?_) (fun q_3 => ?_)
  · replace h := h.1 q_3
    exact k_vret dX5_shortenRespites_41 rfl h
  · replace h := h.2 q_3
    refine sh_iload_n (pc := 10) dX5_shortenRespites_10 rfl rfl ?_
    refine sh_bipush (pc := 11) (v := 6) dX5_shortenRespites_11 (by decide) ?_
    refine sh_icmp_ge (pc := 13) (tgt := 41) dX5_shortenRespites_13 (by decide) hb_1 (bd_lit (by decide)) (fun q_4 => ?_) (fun q_4 => ?_)
    · replace h := h.1 q_4
      exact k_vret dX5_shortenRespites_41 rfl h
    · replace h := h.2 q_4
      refine sh_aload_n (pc := 16) dX5_shortenRespites_16 rfl rfl ?_
      refine sh_getR (pc := 17) dX5_shortenRespites_17 fl_X5_21 rfl (is_R hb) (pt_R3 hb) ?_
      refine sh_iload_n (pc := 20) dX5_shortenRespites_20 rfl rfl ?_
      obtain ⟨hi_5, h⟩ := h
      refine sh_iald (pc := 21) dX5_shortenRespites_21 (is_P5 hb) (by decide) hi_5 ?_
      obtain ⟨hb_6, h⟩ := h
      refine sh_if_le (pc := 22) (tgt := 35) dX5_shortenRespites_22 (by decide) hb_6  (fun q_7 => ?_) (fun q_7 => ?_)
      · replace h := h.1 q_7
        refine k_iinc (pc := 35) [some (.inr (b + 1)), some (.inl (y1 + 1))] dX5_shortenRespites_35 rfl rfl (by decide) ?_
        refine sh_goto (pc := 38) (tgt := 2) dX5_shortenRespites_38 (by decide) ?_
        exact sh_O.locals h (sub_some (sub_some sub_nil))
      · replace h := h.2 q_7
        refine sh_aload_n (pc := 25) dX5_shortenRespites_25 rfl rfl ?_
        refine sh_getR (pc := 26) dX5_shortenRespites_26 fl_X5_21 rfl (is_R hb) (pt_R3 hb) ?_
        refine sh_iload_n (pc := 29) dX5_shortenRespites_29 rfl rfl ?_
        refine sh_dup2 (pc := 30) dX5_shortenRespites_30 ?_
        refine sh_iald (pc := 31) dX5_shortenRespites_31 (is_P5 hb) (by decide) hi_5 ?_
        refine sh_iconst (pc := 32) (v := 1) dX5_shortenRespites_32 rfl ?_
        refine sh_isub (pc := 33) dX5_shortenRespites_33 ?_
        refine sh_iast (pc := 34) dX5_shortenRespites_34 (is_P5 hb) (by decide) hi_5  ?_
        refine k_iinc (pc := 35) [some (.inr (b + 1)), some (.inl (y1 + 1))] dX5_shortenRespites_35 rfl rfl (by decide) ?_
        refine sh_goto (pc := 38) (tgt := 2) dX5_shortenRespites_38 (by decide) ?_
        exact sh_O.locals h (sub_some (sub_some sub_nil))
set_option maxRecDepth 100000 in
set_option maxHeartbeats 4000000 in
theorem eX5_addToAccounts {b : Nat} (hb : sh_isP b) {I : sh_Mem} {Q : sh_Mem → Prop} (h : kk mX5_addToAccounts 2 [some (.inr (b + 1)), some (.inl 0)] [] I (qv Q)) : cc mX5_addToAccounts [.inr (b + 1)] I (qv Q) := by
  refine sh_call cd_X5_addToAccounts.2.2.2 (Nat.le_of_ble_eq_true rfl) ?_
  show kk mX5_addToAccounts 0 [some (.inr (b + 1)), none] [] I (qv Q)
  refine sh_iconst (pc := 0) (v := 0) dX5_addToAccounts_0 rfl ?_
  refine k_istore_n (pc := 1) [some (.inr (b + 1)), some (.inl 0)] dX5_addToAccounts_1 rfl rfl (by decide) ?_
  exact sh_O.locals h (sub_some (sub_some sub_nil))
set_option maxRecDepth 100000 in
set_option maxHeartbeats 4000000 in
theorem lX5_addToAccounts_2 {b : Nat} (hb : sh_isP b) {y1 : Int} {I : sh_Mem} {Q : sh_Mem → Prop} (h : (sh_Bd y1 ∧ (sh_Bd (I (b + 1) 7) ∧ (((I (b + 1) 7) ≤ y1 → Q I) ∧ (y1 < (I (b + 1) 7) → ((6 ≤ y1 → Q I) ∧ (y1 < 6 → (sh_Bd (I (b + 1) 8) ∧ ((y1 = (I (b + 1) 8) → kk mX5_addToAccounts 2 [some (.inr (b + 1)), some (.inl (y1 + 1))] [] I (qv Q)) ∧ (¬ y1 = (I (b + 1) 8) → ((0 ≤ y1 ∧ y1 < (6 : Int)) ∧ kk mX5_addToAccounts 2 [some (.inr (b + 1)), some (.inl (y1 + 1))] [] (sh_u I (b + 8) y1 ((I (b + 8) y1) + 1)) (qv Q)))))))))))) : kk mX5_addToAccounts 2 [some (.inr (b + 1)), some (.inl y1)] [] I (qv Q) := by
  refine sh_iload_n (pc := 2) dX5_addToAccounts_2 rfl rfl ?_
  refine sh_aload_n (pc := 3) dX5_addToAccounts_3 rfl rfl ?_
  refine sh_getI (pc := 4) (g := 7) dX5_addToAccounts_4 fl_X5_33 rfl (is_R hb) rfl ?_
  obtain ⟨hb_1, h⟩ := h
  obtain ⟨hb_2, h⟩ := h
  refine sh_icmp_ge (pc := 7) (tgt := 40) dX5_addToAccounts_7 (by decide) hb_1 hb_2 (fun q_3 => ?_) (fun q_3 => ?_)
  · replace h := h.1 q_3
    exact k_vret dX5_addToAccounts_40 rfl h
  · replace h := h.2 q_3
    refine sh_iload_n (pc := 10) dX5_addToAccounts_10 rfl rfl ?_
    refine sh_bipush (pc := 11) (v := 6) dX5_addToAccounts_11 (by decide) ?_
    refine sh_icmp_ge (pc := 13) (tgt := 40) dX5_addToAccounts_13 (by decide) hb_1 (bd_lit (by decide)) (fun q_4 => ?_) (fun q_4 => ?_)
    · replace h := h.1 q_4
      exact k_vret dX5_addToAccounts_40 rfl h
    · replace h := h.2 q_4
      refine sh_iload_n (pc := 16) dX5_addToAccounts_16 rfl rfl ?_
      refine sh_aload_n (pc := 17) dX5_addToAccounts_17 rfl rfl ?_
      refine sh_getI (pc := 18) (g := 8) dX5_addToAccounts_18 fl_X5_37 rfl (is_R hb) rfl ?_
      obtain ⟨hb_5, h⟩ := h
      refine sh_icmp_eq (pc := 21) (tgt := 34) dX5_addToAccounts_21 (by decide) hb_1 hb_5 (fun q_6 => ?_) (fun q_6 => ?_)
      · replace h := h.1 q_6
        refine k_iinc (pc := 34) [some (.inr (b + 1)), some (.inl (y1 + 1))] dX5_addToAccounts_34 rfl rfl (by decide) ?_
        refine sh_goto (pc := 37) (tgt := 2) dX5_addToAccounts_37 (by decide) ?_
        exact sh_O.locals h (sub_some (sub_some sub_nil))
      · replace h := h.2 q_6
        refine sh_aload_n (pc := 24) dX5_addToAccounts_24 rfl rfl ?_
        refine sh_getR (pc := 25) dX5_addToAccounts_25 fl_X5_30 rfl (is_R hb) (pt_R6 hb) ?_
        refine sh_iload_n (pc := 28) dX5_addToAccounts_28 rfl rfl ?_
        refine sh_dup2 (pc := 29) dX5_addToAccounts_29 ?_
        obtain ⟨hi_7, h⟩ := h
        refine sh_iald (pc := 30) dX5_addToAccounts_30 (is_P8 hb) (by decide) hi_7 ?_
        refine sh_iconst (pc := 31) (v := 1) dX5_addToAccounts_31 rfl ?_
        refine sh_iadd (pc := 32) dX5_addToAccounts_32 ?_
        refine sh_iast (pc := 33) dX5_addToAccounts_33 (is_P8 hb) (by decide) hi_7  ?_
        refine k_iinc (pc := 34) [some (.inr (b + 1)), some (.inl (y1 + 1))] dX5_addToAccounts_34 rfl rfl (by decide) ?_
        refine sh_goto (pc := 37) (tgt := 2) dX5_addToAccounts_37 (by decide) ?_
        exact sh_O.locals h (sub_some (sub_some sub_nil))
set_option maxRecDepth 100000 in
set_option maxHeartbeats 4000000 in
theorem eX5_spin {b : Nat} (hb : sh_isP b) {I : sh_Mem} {Q : sh_Mem → Prop} (h : kk mX5_spin 2 [some (.inr (b + 1)), some (.inl 0), none, none] [] I (qv Q)) : cc mX5_spin [.inr (b + 1)] I (qv Q) := by
  refine sh_call cd_X5_spin.2.2.2 (Nat.le_of_ble_eq_true rfl) ?_
  show kk mX5_spin 0 [some (.inr (b + 1)), none, none, none] [] I (qv Q)
  refine sh_iconst (pc := 0) (v := 0) dX5_spin_0 rfl ?_
  refine k_istore_n (pc := 1) [some (.inr (b + 1)), some (.inl 0), none, none] dX5_spin_1 rfl rfl (by decide) ?_
  exact sh_O.locals h (sub_some (sub_some (sub_none (sub_none sub_nil))))
set_option maxRecDepth 100000 in
set_option maxHeartbeats 4000000 in
theorem lX5_spin_2 {b : Nat} (hb : sh_isP b) {y1 : Int} {I : sh_Mem} {Q : sh_Mem → Prop} (h : (sh_Bd y1 ∧ (sh_Bd (I (b + 1) 7) ∧ (((I (b + 1) 7) ≤ y1 → Q I) ∧ (y1 < (I (b + 1) 7) → ((6 ≤ y1 → Q I) ∧ (y1 < 6 → ((0 ≤ y1 ∧ y1 < (6 : Int)) ∧ ((0 ≤ (I (b + 2) y1) ∧ (I (b + 2) y1) < 2147483648) ∧ (sh_Bd (I (b + 4) y1) ∧ (((I (b + 4) y1) = 4 → kk mX5_spin 2 [some (.inr (b + 1)), some (.inl (y1 + 1)), none, none] [] (sh_u I (b + 2) y1 ((((((I (b + 2) y1) % 10) * 10) + 10) - 1) - ((I (b + 2) y1) / 10))) (qv Q)) ∧ (¬ (I (b + 4) y1) = 4 → ((0 ≤ ((I (b + 4) y1) + 1) ∧ ((I (b + 4) y1) + 1) < 2147483648) ∧ kk mX5_spin 2 [some (.inr (b + 1)), some (.inl (y1 + 1)), none, none] [] (sh_u (sh_u I (b + 2) y1 ((((((I (b + 2) y1) % 10) * 10) + 10) - 1) - ((I (b + 2) y1) / 10))) (b + 4) y1 (((I (b + 4) y1) + 1) % 4)) (qv Q)))))))))))))) : kk mX5_spin 2 [some (.inr (b + 1)), some (.inl y1), none, none] [] I (qv Q) := by
  refine sh_iload_n (pc := 2) dX5_spin_2 rfl rfl ?_
  refine sh_aload_n (pc := 3) dX5_spin_3 rfl rfl ?_
  refine sh_getI (pc := 4) (g := 7) dX5_spin_4 fl_X5_33 rfl (is_R hb) rfl ?_
  obtain ⟨hb_1, h⟩ := h
  obtain ⟨hb_2, h⟩ := h
  refine sh_icmp_ge (pc := 7) (tgt := 85) dX5_spin_7 (by decide) hb_1 hb_2 (fun q_3 => ?_) (fun q_3 => ?_)
  · replace h := h.1 q_3
    exact k_vret dX5_spin_85 rfl h
  · replace h := h.2 q_3
    refine sh_iload_n (pc := 10) dX5_spin_10 rfl rfl ?_
    refine sh_bipush (pc := 11) (v := 6) dX5_spin_11 (by decide) ?_
    refine sh_icmp_ge (pc := 13) (tgt := 85) dX5_spin_13 (by decide) hb_1 (bd_lit (by decide)) (fun q_4 => ?_) (fun q_4 => ?_)
    · replace h := h.1 q_4
      exact k_vret dX5_spin_85 rfl h
    · replace h := h.2 q_4
      refine sh_aload_n (pc := 16) dX5_spin_16 rfl rfl ?_
      refine sh_getR (pc := 17) dX5_spin_17 fl_X5_9 rfl (is_R hb) (pt_R0 hb) ?_
      refine sh_iload_n (pc := 20) dX5_spin_20 rfl rfl ?_
      obtain ⟨hi_5, h⟩ := h
      refine sh_iald (pc := 21) dX5_spin_21 (is_P2 hb) (by decide) hi_5 ?_
      refine sh_bipush (pc := 22) (v := 10) dX5_spin_22 (by decide) ?_
      obtain ⟨hn_6, h⟩ := h
      refine sh_idiv (pc := 24) dX5_spin_24 hn_6.1 hn_6.2 (by decide) (by decide) ?_
      refine k_istore_n (pc := 25) [some (.inr (b + 1)), some (.inl y1), some (.inl ((I (b + 2) y1) / 10)), none] dX5_spin_25 rfl rfl (by decide) ?_
      refine sh_aload_n (pc := 26) dX5_spin_26 rfl rfl ?_
      refine sh_getR (pc := 27) dX5_spin_27 fl_X5_9 rfl (is_R hb) (pt_R0 hb) ?_
      refine sh_iload_n (pc := 30) dX5_spin_30 rfl rfl ?_
      refine sh_iald (pc := 31) dX5_spin_31 (is_P2 hb) (by decide) hi_5 ?_
      refine sh_bipush (pc := 32) (v := 10) dX5_spin_32 (by decide) ?_
      refine sh_irem (pc := 34) dX5_spin_34 hn_6.1 hn_6.2 (by decide) (by decide) ?_
      refine k_istore_n (pc := 35) [some (.inr (b + 1)), some (.inl y1), some (.inl ((I (b + 2) y1) / 10)), some (.inl ((I (b + 2) y1) % 10))] dX5_spin_35 rfl rfl (by decide) ?_
      refine sh_aload_n (pc := 36) dX5_spin_36 rfl rfl ?_
      refine sh_getR (pc := 37) dX5_spin_37 fl_X5_9 rfl (is_R hb) (pt_R0 hb) ?_
      refine sh_iload_n (pc := 40) dX5_spin_40 rfl rfl ?_
      refine sh_iload_n (pc := 41) dX5_spin_41 rfl rfl ?_
      refine sh_bipush (pc := 42) (v := 10) dX5_spin_42 (by decide) ?_
      refine sh_imul (pc := 44) dX5_spin_44 ?_
      refine sh_bipush (pc := 45) (v := 10) dX5_spin_45 (by decide) ?_
      refine sh_iadd (pc := 47) dX5_spin_47 ?_
      refine sh_iconst (pc := 48) (v := 1) dX5_spin_48 rfl ?_
      refine sh_isub (pc := 49) dX5_spin_49 ?_
      refine sh_iload_n (pc := 50) dX5_spin_50 rfl rfl ?_
      refine sh_isub (pc := 51) dX5_spin_51 ?_
      refine sh_iast (pc := 52) dX5_spin_52 (is_P2 hb) (by decide) hi_5  ?_
      refine sh_aload_n (pc := 53) dX5_spin_53 rfl rfl ?_
      refine sh_getR (pc := 54) dX5_spin_54 fl_X5_18 rfl (is_R hb) (pt_R2 hb) ?_
      refine sh_iload_n (pc := 57) dX5_spin_57 rfl rfl ?_
      refine k_iald (pc := 58) (I (b + 4) y1) dX5_spin_58 (is_P4 hb) (by decide) hi_5 (by simp [sh_u]) ?_
      refine sh_iconst (pc := 59) (v := 4) dX5_spin_59 rfl ?_
      obtain ⟨hb_7, h⟩ := h
      refine sh_icmp_eq (pc := 60) (tgt := 79) dX5_spin_60 (by decide) hb_7 (bd_lit (by decide)) (fun q_8 => ?_) (fun q_8 => ?_)
      · replace h := h.1 q_8
        refine k_iinc (pc := 79) [some (.inr (b + 1)), some (.inl (y1 + 1)), some (.inl ((I (b + 2) y1) / 10)), some (.inl ((I (b + 2) y1) % 10))] dX5_spin_79 rfl rfl (by decide) ?_
        refine sh_goto (pc := 82) (tgt := 2) dX5_spin_82 (by decide) ?_
        exact sh_O.locals h (sub_some (sub_some (sub_none (sub_none sub_nil))))
      · replace h := h.2 q_8
        refine sh_aload_n (pc := 63) dX5_spin_63 rfl rfl ?_
        refine sh_getR (pc := 64) dX5_spin_64 fl_X5_18 rfl (is_R hb) (pt_R2 hb) ?_
        refine sh_iload_n (pc := 67) dX5_spin_67 rfl rfl ?_
        refine sh_aload_n (pc := 68) dX5_spin_68 rfl rfl ?_
        refine sh_getR (pc := 69) dX5_spin_69 fl_X5_18 rfl (is_R hb) (pt_R2 hb) ?_
        refine sh_iload_n (pc := 72) dX5_spin_72 rfl rfl ?_
        refine k_iald (pc := 73) (I (b + 4) y1) dX5_spin_73 (is_P4 hb) (by decide) hi_5 (by simp [sh_u]) ?_
        refine sh_iconst (pc := 74) (v := 1) dX5_spin_74 rfl ?_
        refine sh_iadd (pc := 75) dX5_spin_75 ?_
        refine sh_iconst (pc := 76) (v := 4) dX5_spin_76 rfl ?_
        obtain ⟨hn_9, h⟩ := h
        refine sh_irem (pc := 77) dX5_spin_77 hn_9.1 hn_9.2 (by decide) (by decide) ?_
        refine sh_iast (pc := 78) dX5_spin_78 (is_P4 hb) (by decide) hi_5  ?_
        refine k_iinc (pc := 79) [some (.inr (b + 1)), some (.inl (y1 + 1)), some (.inl ((I (b + 2) y1) / 10)), some (.inl ((I (b + 2) y1) % 10))] dX5_spin_79 rfl rfl (by decide) ?_
        refine sh_goto (pc := 82) (tgt := 2) dX5_spin_82 (by decide) ?_
        exact sh_O.locals h (sub_some (sub_some (sub_none (sub_none sub_nil))))
set_option maxRecDepth 100000 in
set_option maxHeartbeats 4000000 in
theorem eX3_copyFrom {b : Nat} (hb : sh_isP b) {c : Nat} (hc : sh_isP c) {I : sh_Mem} {Q : sh_Mem → Prop} (h : (cc mX6_copyRow [.inr (c + 10), .inr (b + 10)] I (qv fun I1 => (cc mX6_copyRow [.inr (c + 11), .inr (b + 11)] I1 (qv fun I3 => (cc mX6_copyRow [.inr (c + 12), .inr (b + 12)] I3 (qv fun I5 => (cc mX6_copyRow [.inr (c + 13), .inr (b + 13)] I5 (qv fun I7 => Q I7))))))))) : cc mX3_copyFrom [.inr (b + 9), .inr (c + 9)] I (qv Q) := by
  refine sh_call cd_X3_copyFrom.2.2.2 (Nat.le_of_ble_eq_true rfl) ?_
  show kk mX3_copyFrom 0 [some (.inr (b + 9)), some (.inr (c + 9))] [] I (qv Q)
  refine sh_aload_n (pc := 0) dX3_copyFrom_0 rfl rfl ?_
  refine sh_getR (pc := 1) dX3_copyFrom_1 fl_X3_9 rfl (is_L hc) (pt_L0 hc) ?_
  refine sh_aload_n (pc := 4) dX3_copyFrom_4 rfl rfl ?_
  refine sh_getR (pc := 5) dX3_copyFrom_5 fl_X3_9 rfl (is_L hb) (pt_L0 hb) ?_
  refine k_N2v (pc := 8) dX3_copyFrom_8 lk_X3_24 rfl h (fun I1 h => ?_)
  refine sh_aload_n (pc := 11) dX3_copyFrom_11 rfl rfl ?_
  refine sh_getR (pc := 12) dX3_copyFrom_12 fl_X3_15 rfl (is_L hc) (pt_L1 hc) ?_
  refine sh_aload_n (pc := 15) dX3_copyFrom_15 rfl rfl ?_
  refine sh_getR (pc := 16) dX3_copyFrom_16 fl_X3_15 rfl (is_L hb) (pt_L1 hb) ?_
  refine k_N2v (pc := 19) dX3_copyFrom_19 lk_X3_24 rfl h (fun I3 h => ?_)
  refine sh_aload_n (pc := 22) dX3_copyFrom_22 rfl rfl ?_
  refine sh_getR (pc := 23) dX3_copyFrom_23 fl_X3_18 rfl (is_L hc) (pt_L2 hc) ?_
  refine sh_aload_n (pc := 26) dX3_copyFrom_26 rfl rfl ?_
  refine sh_getR (pc := 27) dX3_copyFrom_27 fl_X3_18 rfl (is_L hb) (pt_L2 hb) ?_
  refine k_N2v (pc := 30) dX3_copyFrom_30 lk_X3_24 rfl h (fun I5 h => ?_)
  refine sh_aload_n (pc := 33) dX3_copyFrom_33 rfl rfl ?_
  refine sh_getR (pc := 34) dX3_copyFrom_34 fl_X3_21 rfl (is_L hc) (pt_L3 hc) ?_
  refine sh_aload_n (pc := 37) dX3_copyFrom_37 rfl rfl ?_
  refine sh_getR (pc := 38) dX3_copyFrom_38 fl_X3_21 rfl (is_L hb) (pt_L3 hb) ?_
  refine k_N2v (pc := 41) dX3_copyFrom_41 lk_X3_24 rfl h (fun I7 h => ?_)
  exact k_vret dX3_copyFrom_44 rfl h
set_option maxRecDepth 100000 in
set_option maxHeartbeats 4000000 in
theorem eX3_burning {b : Nat} (hb : sh_isP b) {I : sh_Mem} {Q : Int → sh_Mem → Prop} (h : kk mX3_burning 4 [some (.inr (b + 9)), some (.inl 0), some (.inl 0)] [] I (qi Q)) : cc mX3_burning [.inr (b + 9)] I (qi Q) := by
  refine sh_call cd_X3_burning.2.2.2 (Nat.le_of_ble_eq_true rfl) ?_
  show kk mX3_burning 0 [some (.inr (b + 9)), none, none] [] I (qi Q)
  refine sh_iconst (pc := 0) (v := 0) dX3_burning_0 rfl ?_
  refine k_istore_n (pc := 1) [some (.inr (b + 9)), some (.inl 0), none] dX3_burning_1 rfl rfl (by decide) ?_
  refine sh_iconst (pc := 2) (v := 0) dX3_burning_2 rfl ?_
  refine k_istore_n (pc := 3) [some (.inr (b + 9)), some (.inl 0), some (.inl 0)] dX3_burning_3 rfl rfl (by decide) ?_
  exact sh_O.locals h (sub_some (sub_some (sub_some sub_nil)))
set_option maxRecDepth 100000 in
set_option maxHeartbeats 4000000 in
theorem lX3_burning_4 {b : Nat} (hb : sh_isP b) {y1 : Int} {y2 : Int} {I : sh_Mem} {Q : Int → sh_Mem → Prop} (h : (sh_Bd y2 ∧ ((3 ≤ y2 → Q y1 I) ∧ (y2 < 3 → ((0 ≤ y2 ∧ y2 < (3 : Int)) ∧ kk mX3_burning 4 [some (.inr (b + 9)), some (.inl (y1 + (I (b + 13) y2))), some (.inl (y2 + 1))] [] I (qi Q)))))) : kk mX3_burning 4 [some (.inr (b + 9)), some (.inl y1), some (.inl y2)] [] I (qi Q) := by
  refine sh_iload_n (pc := 4) dX3_burning_4 rfl rfl ?_
  refine sh_iconst (pc := 5) (v := 3) dX3_burning_5 rfl ?_
  obtain ⟨hb_1, h⟩ := h
  refine sh_icmp_ge (pc := 6) (tgt := 24) dX3_burning_6 (by decide) hb_1 (bd_lit (by decide)) (fun q_2 => ?_) (fun q_2 => ?_)
  · replace h := h.1 q_2
    refine sh_iload_n (pc := 24) dX3_burning_24 rfl rfl ?_
    exact k_iret dX3_burning_25 rfl h
  · replace h := h.2 q_2
    refine sh_iload_n (pc := 9) dX3_burning_9 rfl rfl ?_
    refine sh_aload_n (pc := 10) dX3_burning_10 rfl rfl ?_
    refine sh_getR (pc := 11) dX3_burning_11 fl_X3_21 rfl (is_L hb) (pt_L3 hb) ?_
    refine sh_iload_n (pc := 14) dX3_burning_14 rfl rfl ?_
    obtain ⟨hi_3, h⟩ := h
    refine sh_iald (pc := 15) dX3_burning_15 (is_P13 hb) (by decide) hi_3 ?_
    refine sh_iadd (pc := 16) dX3_burning_16 ?_
    refine k_istore_n (pc := 17) [some (.inr (b + 9)), some (.inl (y1 + (I (b + 13) y2))), some (.inl y2)] dX3_burning_17 rfl rfl (by decide) ?_
    refine k_iinc (pc := 18) [some (.inr (b + 9)), some (.inl (y1 + (I (b + 13) y2))), some (.inl (y2 + 1))] dX3_burning_18 rfl rfl (by decide) ?_
    refine sh_goto (pc := 21) (tgt := 4) dX3_burning_21 (by decide) ?_
    exact sh_O.locals h (sub_some (sub_some (sub_some sub_nil)))
set_option maxRecDepth 100000 in
set_option maxHeartbeats 4000000 in
theorem eX3_switchTo {b : Nat} (hb : sh_isP b) {x1 : Int} {x2 : Int} {I : sh_Mem} {Q : Int → sh_Mem → Prop} (h : (cc mX6_replace [.inr (b + 13), .inl x1, .inl x2, .inl 0, .inl 1] I (qi fun v3 I1 => (sh_Bd v3 ∧ ((0 ≤ v3 → (cc mX3_burning [.inr (b + 9)] I1 (qi fun v8 I6 => Q v8 I6))) ∧ (v3 < 0 → Q v3 I1)))))) : cc mX3_switchTo [.inr (b + 9), .inl x1, .inl x2] I (qi Q) := by
  refine sh_call cd_X3_switchTo.2.2.2 (Nat.le_of_ble_eq_true rfl) ?_
  show kk mX3_switchTo 0 [some (.inr (b + 9)), some (.inl x1), some (.inl x2), none] [] I (qi Q)
  refine sh_aload_n (pc := 0) dX3_switchTo_0 rfl rfl ?_
  refine sh_getR (pc := 1) dX3_switchTo_1 fl_X3_21 rfl (is_L hb) (pt_L3 hb) ?_
  refine sh_iload_n (pc := 4) dX3_switchTo_4 rfl rfl ?_
  refine sh_iload_n (pc := 5) dX3_switchTo_5 rfl rfl ?_
  refine sh_iconst (pc := 6) (v := 0) dX3_switchTo_6 rfl ?_
  refine sh_iconst (pc := 7) (v := 1) dX3_switchTo_7 rfl ?_
  refine k_N5i (pc := 8) dX3_switchTo_8 lk_X3_28 rfl h (fun v3 I1 h => ?_)
  refine k_istore_n (pc := 11) [some (.inr (b + 9)), some (.inl x1), some (.inl x2), some (.inl v3)] dX3_switchTo_11 rfl rfl (by decide) ?_
  refine sh_iload_n (pc := 12) dX3_switchTo_12 rfl rfl ?_
  obtain ⟨hb_4, h⟩ := h
  refine sh_if_ge (pc := 13) (tgt := 20) dX3_switchTo_13 (by decide) hb_4  (fun q_5 => ?_) (fun q_5 => ?_)
  · replace h := h.1 q_5
    refine sh_aload_n (pc := 20) dX3_switchTo_20 rfl rfl ?_
    refine k_V0i (pc := 21) (is_L hb) dX3_switchTo_21 lk_X3_32 rfl h (fun v8 I6 h => ?_)
    exact k_iret dX3_switchTo_24 rfl h
  · replace h := h.2 q_5
    refine sh_iload_n (pc := 16) dX3_switchTo_16 rfl rfl ?_
    refine sh_goto (pc := 17) (tgt := 24) dX3_switchTo_17 (by decide) ?_
    exact k_iret dX3_switchTo_24 rfl h
set_option maxRecDepth 100000 in
set_option maxHeartbeats 4000000 in
theorem eX3_adjust {b : Nat} (hb : sh_isP b) {x1 : Int} {x2 : Int} {x3 : Int} {I : sh_Mem} {Q : Int → sh_Mem → Prop} (h : (cc mX6_isLamp [.inl x1] I (qi fun v3 I1 => ((v3 = 1 ∧ (sh_Bd x2 ∧ ((x2 = 0 → (cc mX6_replace [.inr (b + 10), .inl x1, .inl x3, .inl 0, .inl 3] I1 (qi fun v7 I5 => Q v7 I5))) ∧ ((x2 = 1 → (cc mX6_replace [.inr (b + 11), .inl x1, .inl x3, .inl 1, .inl 4] I1 (qi fun v11 I9 => Q v11 I9))) ∧ ((x2 = 2 → (cc mX6_replace [.inr (b + 12), .inl x1, .inl x3, .inl 0, .inl 9] I1 (qi fun v15 I13 => Q v15 I13))) ∧ ((x2 < 0 ∨ 2 < x2) → Q (-2) I1)))))) ∨ (v3 = 0 ∧ Q (-1) I1))))) : cc mX3_adjust [.inr (b + 9), .inl x1, .inl x2, .inl x3] I (qi Q) := by
  refine sh_call cd_X3_adjust.2.2.2 (Nat.le_of_ble_eq_true rfl) ?_
  show kk mX3_adjust 0 [some (.inr (b + 9)), some (.inl x1), some (.inl x2), some (.inl x3)] [] I (qi Q)
  refine sh_iload_n (pc := 0) dX3_adjust_0 rfl rfl ?_
  refine k_N1i (pc := 1) dX3_adjust_1 lk_X3_36 rfl h (fun v3 I1 h => ?_)
  rcases h with ⟨rfl, h⟩ | ⟨rfl, h⟩
  · skip
    refine sh_if_ne (pc := 4) (tgt := 9) dX3_adjust_4 (by decide) (bd_lit (by decide)) (fun qz => ?_) (fun qz => ?_)
    · skip
      refine sh_iload_n (pc := 9) dX3_adjust_9 rfl rfl ?_
      obtain ⟨hb_4, h⟩ := h
      by_cases q_8 : x2 = 0
      · refine sh_tableIn (pc := 10) (k := 0) (tgt := 36) dX3_adjust_10 q_8 (bd_lit (by decide)) (by decide) (by decide) rfl (by decide) ?_
        replace h := h.1 q_8
        refine sh_aload_n (pc := 36) dX3_adjust_36 rfl rfl ?_
        refine sh_getR (pc := 37) dX3_adjust_37 fl_X3_9 rfl (is_L hb) (pt_L0 hb) ?_
        refine sh_iload_n (pc := 40) dX3_adjust_40 rfl rfl ?_
        refine sh_iload_n (pc := 41) dX3_adjust_41 rfl rfl ?_
        refine sh_iconst (pc := 42) (v := 0) dX3_adjust_42 rfl ?_
        refine sh_iconst (pc := 43) (v := 3) dX3_adjust_43 rfl ?_
        refine k_N5i (pc := 44) dX3_adjust_44 lk_X3_28 rfl h (fun v7 I5 h => ?_)
        exact k_iret dX3_adjust_47 rfl h
      replace h := h.2
      by_cases q_12 : x2 = 1
      · refine sh_tableIn (pc := 10) (k := 1) (tgt := 48) dX3_adjust_10 q_12 (bd_lit (by decide)) (by decide) (by decide) rfl (by decide) ?_
        replace h := h.1 q_12
        refine sh_aload_n (pc := 48) dX3_adjust_48 rfl rfl ?_
        refine sh_getR (pc := 49) dX3_adjust_49 fl_X3_15 rfl (is_L hb) (pt_L1 hb) ?_
        refine sh_iload_n (pc := 52) dX3_adjust_52 rfl rfl ?_
        refine sh_iload_n (pc := 53) dX3_adjust_53 rfl rfl ?_
        refine sh_iconst (pc := 54) (v := 1) dX3_adjust_54 rfl ?_
        refine sh_iconst (pc := 55) (v := 4) dX3_adjust_55 rfl ?_
        refine k_N5i (pc := 56) dX3_adjust_56 lk_X3_28 rfl h (fun v11 I9 h => ?_)
        exact k_iret dX3_adjust_59 rfl h
      replace h := h.2
      by_cases q_16 : x2 = 2
      · refine sh_tableIn (pc := 10) (k := 2) (tgt := 60) dX3_adjust_10 q_16 (bd_lit (by decide)) (by decide) (by decide) rfl (by decide) ?_
        replace h := h.1 q_16
        refine sh_aload_n (pc := 60) dX3_adjust_60 rfl rfl ?_
        refine sh_getR (pc := 61) dX3_adjust_61 fl_X3_18 rfl (is_L hb) (pt_L2 hb) ?_
        refine sh_iload_n (pc := 64) dX3_adjust_64 rfl rfl ?_
        refine sh_iload_n (pc := 65) dX3_adjust_65 rfl rfl ?_
        refine sh_iconst (pc := 66) (v := 0) dX3_adjust_66 rfl ?_
        refine sh_bipush (pc := 67) (v := 9) dX3_adjust_67 (by decide) ?_
        refine k_N5i (pc := 69) dX3_adjust_69 lk_X3_28 rfl h (fun v15 I13 h => ?_)
        exact k_iret dX3_adjust_72 rfl h
      replace h := h.2
      have q_17 : x2 < 0 ∨ 2 < x2 := by omega
      refine sh_tableOut (pc := 10) (tgt := 73) dX3_adjust_10 hb_4 q_17 (by decide) ?_
      replace h := h q_17
      refine sh_bipush (pc := 73) (v := (-2)) dX3_adjust_73 (by decide) ?_
      exact k_iret dX3_adjust_75 rfl h
    · exact absurd qz (by decide)
  · skip
    refine sh_if_ne (pc := 4) (tgt := 9) dX3_adjust_4 (by decide) (bd_lit (by decide)) (fun qz => ?_) (fun qz => ?_)
    · exact absurd qz (by decide)
    · skip
      refine sh_iconst (pc := 7) (v := (-1)) dX3_adjust_7 rfl ?_
      exact k_iret dX3_adjust_8 rfl h
set_option maxRecDepth 100000 in
set_option maxHeartbeats 4000000 in
theorem eX3_swingAtTurn {b : Nat} (hb : sh_isP b) {x1 : Int} {I : sh_Mem} {Q : sh_Mem → Prop} (h : kk mX3_swingAtTurn 2 [some (.inr (b + 9)), some (.inl x1), some (.inl 0)] [] I (qv Q)) : cc mX3_swingAtTurn [.inr (b + 9), .inl x1] I (qv Q) := by
  refine sh_call cd_X3_swingAtTurn.2.2.2 (Nat.le_of_ble_eq_true rfl) ?_
  show kk mX3_swingAtTurn 0 [some (.inr (b + 9)), some (.inl x1), none] [] I (qv Q)
  refine sh_iconst (pc := 0) (v := 0) dX3_swingAtTurn_0 rfl ?_
  refine k_istore_n (pc := 1) [some (.inr (b + 9)), some (.inl x1), some (.inl 0)] dX3_swingAtTurn_1 rfl rfl (by decide) ?_
  exact sh_O.locals h (sub_some (sub_some (sub_some sub_nil)))
set_option maxRecDepth 100000 in
set_option maxHeartbeats 4000000 in
theorem lX3_swingAtTurn_2 {b : Nat} (hb : sh_isP b) {y1 : Int} {y2 : Int} {I : sh_Mem} {Q : sh_Mem → Prop} (h : (sh_Bd y2 ∧ ((3 ≤ y2 → Q I) ∧ (y2 < 3 → ((0 ≤ y2 ∧ y2 < (3 : Int)) ∧ (sh_Bd (I (b + 12) y2) ∧ (((I (b + 12) y2) = 0 → kk mX3_swingAtTurn 2 [some (.inr (b + 9)), some (.inl y1), some (.inl (y2 + 1))] [] I (qv Q)) ∧ (¬ (I (b + 12) y2) = 0 → ((0 ≤ y1 ∧ y1 < 2147483648) ∧ ((0 < (I (b + 12) y2) ∧ (I (b + 12) y2) < 2147483648) ∧ (sh_Bd (y1 % (I (b + 12) y2)) ∧ ((¬ (y1 % (I (b + 12) y2)) = 0 → kk mX3_swingAtTurn 2 [some (.inr (b + 9)), some (.inl y1), some (.inl (y2 + 1))] [] I (qv Q)) ∧ ((y1 % (I (b + 12) y2)) = 0 → ((0 ≤ ((I (b + 10) y2) + 1) ∧ ((I (b + 10) y2) + 1) < 2147483648) ∧ kk mX3_swingAtTurn 2 [some (.inr (b + 9)), some (.inl y1), some (.inl (y2 + 1))] [] (sh_u I (b + 10) y2 (((I (b + 10) y2) + 1) % 4)) (qv Q))))))))))))))) : kk mX3_swingAtTurn 2 [some (.inr (b + 9)), some (.inl y1), some (.inl y2)] [] I (qv Q) := by
  refine sh_iload_n (pc := 2) dX3_swingAtTurn_2 rfl rfl ?_
  refine sh_iconst (pc := 3) (v := 3) dX3_swingAtTurn_3 rfl ?_
  obtain ⟨hb_1, h⟩ := h
  refine sh_icmp_ge (pc := 4) (tgt := 49) dX3_swingAtTurn_4 (by decide) hb_1 (bd_lit (by decide)) (fun q_2 => ?_) (fun q_2 => ?_)
  · replace h := h.1 q_2
    exact k_vret dX3_swingAtTurn_49 rfl h
  · replace h := h.2 q_2
    refine sh_aload_n (pc := 7) dX3_swingAtTurn_7 rfl rfl ?_
    refine sh_getR (pc := 8) dX3_swingAtTurn_8 fl_X3_18 rfl (is_L hb) (pt_L2 hb) ?_
    refine sh_iload_n (pc := 11) dX3_swingAtTurn_11 rfl rfl ?_
    obtain ⟨hi_3, h⟩ := h
    refine sh_iald (pc := 12) dX3_swingAtTurn_12 (is_P12 hb) (by decide) hi_3 ?_
    obtain ⟨hb_4, h⟩ := h
    refine sh_if_eq (pc := 13) (tgt := 43) dX3_swingAtTurn_13 (by decide) hb_4  (fun q_5 => ?_) (fun q_5 => ?_)
    · replace h := h.1 q_5
      refine k_iinc (pc := 43) [some (.inr (b + 9)), some (.inl y1), some (.inl (y2 + 1))] dX3_swingAtTurn_43 rfl rfl (by decide) ?_
      refine sh_goto (pc := 46) (tgt := 2) dX3_swingAtTurn_46 (by decide) ?_
      exact sh_O.locals h (sub_some (sub_some (sub_some sub_nil)))
    · replace h := h.2 q_5
      refine sh_iload_n (pc := 16) dX3_swingAtTurn_16 rfl rfl ?_
      refine sh_aload_n (pc := 17) dX3_swingAtTurn_17 rfl rfl ?_
      refine sh_getR (pc := 18) dX3_swingAtTurn_18 fl_X3_18 rfl (is_L hb) (pt_L2 hb) ?_
      refine sh_iload_n (pc := 21) dX3_swingAtTurn_21 rfl rfl ?_
      refine sh_iald (pc := 22) dX3_swingAtTurn_22 (is_P12 hb) (by decide) hi_3 ?_
      obtain ⟨hn_6, h⟩ := h
      obtain ⟨hp_7, h⟩ := h
      refine sh_irem (pc := 23) dX3_swingAtTurn_23 hn_6.1 hn_6.2 hp_7.1 hp_7.2 ?_
      obtain ⟨hb_8, h⟩ := h
      refine sh_if_ne (pc := 24) (tgt := 43) dX3_swingAtTurn_24 (by decide) hb_8  (fun q_9 => ?_) (fun q_9 => ?_)
      · replace h := h.1 q_9
        refine k_iinc (pc := 43) [some (.inr (b + 9)), some (.inl y1), some (.inl (y2 + 1))] dX3_swingAtTurn_43 rfl rfl (by decide) ?_
        refine sh_goto (pc := 46) (tgt := 2) dX3_swingAtTurn_46 (by decide) ?_
        exact sh_O.locals h (sub_some (sub_some (sub_some sub_nil)))
      · replace h := h.2 q_9
        refine sh_aload_n (pc := 27) dX3_swingAtTurn_27 rfl rfl ?_
        refine sh_getR (pc := 28) dX3_swingAtTurn_28 fl_X3_9 rfl (is_L hb) (pt_L0 hb) ?_
        refine sh_iload_n (pc := 31) dX3_swingAtTurn_31 rfl rfl ?_
        refine sh_aload_n (pc := 32) dX3_swingAtTurn_32 rfl rfl ?_
        refine sh_getR (pc := 33) dX3_swingAtTurn_33 fl_X3_9 rfl (is_L hb) (pt_L0 hb) ?_
        refine sh_iload_n (pc := 36) dX3_swingAtTurn_36 rfl rfl ?_
        refine sh_iald (pc := 37) dX3_swingAtTurn_37 (is_P10 hb) (by decide) hi_3 ?_
        refine sh_iconst (pc := 38) (v := 1) dX3_swingAtTurn_38 rfl ?_
        refine sh_iadd (pc := 39) dX3_swingAtTurn_39 ?_
        refine sh_iconst (pc := 40) (v := 4) dX3_swingAtTurn_40 rfl ?_
        obtain ⟨hn_10, h⟩ := h
        refine sh_irem (pc := 41) dX3_swingAtTurn_41 hn_10.1 hn_10.2 (by decide) (by decide) ?_
        refine sh_iast (pc := 42) dX3_swingAtTurn_42 (is_P10 hb) (by decide) hi_3  ?_
        refine k_iinc (pc := 43) [some (.inr (b + 9)), some (.inl y1), some (.inl (y2 + 1))] dX3_swingAtTurn_43 rfl rfl (by decide) ?_
        refine sh_goto (pc := 46) (tgt := 2) dX3_swingAtTurn_46 (by decide) ?_
        exact sh_O.locals h (sub_some (sub_some (sub_some sub_nil)))
set_option maxRecDepth 100000 in
set_option maxHeartbeats 4000000 in
theorem eX4_copyFrom {b : Nat} (hb : sh_isP b) {c : Nat} (hc : sh_isP c) {I : sh_Mem} {Q : sh_Mem → Prop} (h : (cc mX5_copyFrom [.inr (b + 1), .inr (c + 1)] I (qv fun I1 => (cc mX3_copyFrom [.inr (b + 9), .inr (c + 9)] I1 (qv fun I3 => (cc mX6_copyRow [.inr (c + 14), .inr (b + 14)] I3 (qv fun I5 => Q (sh_u (sh_u I5 b 3 (I5 c 3)) b 4 (I5 c 4))))))))) : cc mX4_copyFrom [.inr b, .inr c] I (qv Q) := by
  refine sh_call cd_X4_copyFrom.2.2.2 (Nat.le_of_ble_eq_true rfl) ?_
  show kk mX4_copyFrom 0 [some (.inr b), some (.inr c)] [] I (qv Q)
  refine sh_aload_n (pc := 0) dX4_copyFrom_0 rfl rfl ?_
  refine sh_getR (pc := 1) dX4_copyFrom_1 fl_X4_12 rfl (is_P hb) (pt_P0 hb) ?_
  refine sh_aload_n (pc := 4) dX4_copyFrom_4 rfl rfl ?_
  refine sh_getR (pc := 5) dX4_copyFrom_5 fl_X4_12 rfl (is_P hc) (pt_P0 hc) ?_
  refine k_V1v (pc := 8) (is_R hb) dX4_copyFrom_8 lk_X4_36 rfl h (fun I1 h => ?_)
  refine sh_aload_n (pc := 11) dX4_copyFrom_11 rfl rfl ?_
  refine sh_getR (pc := 12) dX4_copyFrom_12 fl_X4_21 rfl (is_P hb) (pt_P1 hb) ?_
  refine sh_aload_n (pc := 15) dX4_copyFrom_15 rfl rfl ?_
  refine sh_getR (pc := 16) dX4_copyFrom_16 fl_X4_21 rfl (is_P hc) (pt_P1 hc) ?_
  refine k_V1v (pc := 19) (is_L hb) dX4_copyFrom_19 lk_X4_40 rfl h (fun I3 h => ?_)
  refine sh_aload_n (pc := 22) dX4_copyFrom_22 rfl rfl ?_
  refine sh_getR (pc := 23) dX4_copyFrom_23 fl_X4_25 rfl (is_P hc) (pt_P2 hc) ?_
  refine sh_aload_n (pc := 26) dX4_copyFrom_26 rfl rfl ?_
  refine sh_getR (pc := 27) dX4_copyFrom_27 fl_X4_25 rfl (is_P hb) (pt_P2 hb) ?_
  refine k_N2v (pc := 30) dX4_copyFrom_30 lk_X4_43 rfl h (fun I5 h => ?_)
  refine sh_aload_n (pc := 33) dX4_copyFrom_33 rfl rfl ?_
  refine sh_aload_n (pc := 34) dX4_copyFrom_34 rfl rfl ?_
  refine sh_getI (pc := 35) (g := 3) dX4_copyFrom_35 fl_X4_29 rfl (is_P hc) rfl ?_
  refine k_putI (pc := 38) (g := 3) dX4_copyFrom_38 fl_X4_29 rfl (is_P hb) rfl ?_
  refine sh_aload_n (pc := 41) dX4_copyFrom_41 rfl rfl ?_
  refine sh_aload_n (pc := 42) dX4_copyFrom_42 rfl rfl ?_
  refine k_getI (pc := 43) (g := 4) (I5 c 4) dX4_copyFrom_43 fl_X4_33 rfl (is_P hc) rfl (by simp [sh_u]) ?_
  refine k_putI (pc := 46) (g := 4) dX4_copyFrom_46 fl_X4_33 rfl (is_P hb) rfl ?_
  exact k_vret dX4_copyFrom_49 rfl h
set_option maxRecDepth 100000 in
set_option maxHeartbeats 4000000 in
theorem eX4_takeTurns {b : Nat} (hb : sh_isP b) {x1 : Int} {I : sh_Mem} {Q : Int → sh_Mem → Prop} (h : (sh_Bd x1 ∧ ((x1 < 1 → Q (-2) I) ∧ (1 ≤ x1 → ((x1 ≤ 99 → (sh_Bd ((I b 3) + x1) ∧ ((((I b 3) + x1) ≤ 99999 → kk mX4_takeTurns 38 [some (.inr b), some (.inl x1), some (.inl (I (b + 1) 9)), some (.inl 0)] [] I (qi Q)) ∧ (99999 < ((I b 3) + x1) → Q (-3) I)))) ∧ (99 < x1 → Q (-2) I)))))) : cc mX4_takeTurns [.inr b, .inl x1] I (qi Q) := by
  refine sh_call cd_X4_takeTurns.2.2.2 (Nat.le_of_ble_eq_true rfl) ?_
  show kk mX4_takeTurns 0 [some (.inr b), some (.inl x1), none, none] [] I (qi Q)
  refine sh_iload_n (pc := 0) dX4_takeTurns_0 rfl rfl ?_
  refine sh_iconst (pc := 1) (v := 1) dX4_takeTurns_1 rfl ?_
  obtain ⟨hb_1, h⟩ := h
  refine sh_icmp_lt (pc := 2) (tgt := 11) dX4_takeTurns_2 (by decide) hb_1 (bd_lit (by decide)) (fun q_2 => ?_) (fun q_2 => ?_)
  · replace h := h.1 q_2
    refine sh_bipush (pc := 11) (v := (-2)) dX4_takeTurns_11 (by decide) ?_
    exact k_iret dX4_takeTurns_13 rfl h
  · replace h := h.2 q_2
    refine sh_iload_n (pc := 5) dX4_takeTurns_5 rfl rfl ?_
    refine sh_bipush (pc := 6) (v := 99) dX4_takeTurns_6 (by decide) ?_
    refine sh_icmp_le (pc := 8) (tgt := 14) dX4_takeTurns_8 (by decide) hb_1 (bd_lit (by decide)) (fun q_3 => ?_) (fun q_3 => ?_)
    · replace h := h.1 q_3
      refine sh_aload_n (pc := 14) dX4_takeTurns_14 rfl rfl ?_
      refine sh_getI (pc := 15) (g := 3) dX4_takeTurns_15 fl_X4_29 rfl (is_P hb) rfl ?_
      refine sh_iload_n (pc := 18) dX4_takeTurns_18 rfl rfl ?_
      refine sh_iadd (pc := 19) dX4_takeTurns_19 ?_
      refine sh_ldc (pc := 20) (v := 99999) dX4_takeTurns_20 wl_X4_47 ?_
      obtain ⟨hb_4, h⟩ := h
      refine sh_icmp_le (pc := 22) (tgt := 28) dX4_takeTurns_22 (by decide) hb_4 (bd_lit (by decide)) (fun q_5 => ?_) (fun q_5 => ?_)
      · replace h := h.1 q_5
        refine sh_aload_n (pc := 28) dX4_takeTurns_28 rfl rfl ?_
        refine sh_getR (pc := 29) dX4_takeTurns_29 fl_X4_12 rfl (is_P hb) (pt_P0 hb) ?_
        refine sh_getI (pc := 32) (g := 9) dX4_takeTurns_32 fl_X4_48 rfl (is_R hb) rfl ?_
        refine k_istore_n (pc := 35) [some (.inr b), some (.inl x1), some (.inl (I (b + 1) 9)), none] dX4_takeTurns_35 rfl rfl (by decide) ?_
        refine sh_iconst (pc := 36) (v := 0) dX4_takeTurns_36 rfl ?_
        refine k_istore_n (pc := 37) [some (.inr b), some (.inl x1), some (.inl (I (b + 1) 9)), some (.inl 0)] dX4_takeTurns_37 rfl rfl (by decide) ?_
        exact sh_O.locals h (sub_some (sub_some (sub_some (sub_some sub_nil))))
      · replace h := h.2 q_5
        refine sh_bipush (pc := 25) (v := (-3)) dX4_takeTurns_25 (by decide) ?_
        exact k_iret dX4_takeTurns_27 rfl h
    · replace h := h.2 q_3
      refine sh_bipush (pc := 11) (v := (-2)) dX4_takeTurns_11 (by decide) ?_
      exact k_iret dX4_takeTurns_13 rfl h
set_option maxRecDepth 100000 in
set_option maxHeartbeats 4000000 in
theorem lX4_takeTurns_38 {b : Nat} (hb : sh_isP b) {y1 : Int} {y2 : Int} {y3 : Int} {I : sh_Mem} {Q : Int → sh_Mem → Prop} (h : (sh_Bd y3 ∧ (sh_Bd y1 ∧ ((y1 ≤ y3 → Q ((I (b + 1) 9) - y2) I) ∧ (y3 < y1 → (cc mX4_takeTurn [.inr b] I (qi fun v6 I4 => kk mX4_takeTurns 38 [some (.inr b), some (.inl y1), some (.inl y2), some (.inl (y3 + 1))] [] I4 (qi Q)))))))) : kk mX4_takeTurns 38 [some (.inr b), some (.inl y1), some (.inl y2), some (.inl y3)] [] I (qi Q) := by
  refine sh_iload_n (pc := 38) dX4_takeTurns_38 rfl rfl ?_
  refine sh_iload_n (pc := 39) dX4_takeTurns_39 rfl rfl ?_
  obtain ⟨hb_1, h⟩ := h
  obtain ⟨hb_2, h⟩ := h
  refine sh_icmp_ge (pc := 40) (tgt := 54) dX4_takeTurns_40 (by decide) hb_1 hb_2 (fun q_3 => ?_) (fun q_3 => ?_)
  · replace h := h.1 q_3
    refine sh_aload_n (pc := 54) dX4_takeTurns_54 rfl rfl ?_
    refine sh_getR (pc := 55) dX4_takeTurns_55 fl_X4_12 rfl (is_P hb) (pt_P0 hb) ?_
    refine sh_getI (pc := 58) (g := 9) dX4_takeTurns_58 fl_X4_48 rfl (is_R hb) rfl ?_
    refine sh_iload_n (pc := 61) dX4_takeTurns_61 rfl rfl ?_
    refine sh_isub (pc := 62) dX4_takeTurns_62 ?_
    exact k_iret dX4_takeTurns_63 rfl h
  · replace h := h.2 q_3
    refine sh_aload_n (pc := 43) dX4_takeTurns_43 rfl rfl ?_
    refine k_V0i (pc := 44) (is_P hb) dX4_takeTurns_44 lk_X4_51 rfl h (fun v6 I4 h => ?_)
    refine sh_pop (pc := 47) dX4_takeTurns_47 ?_
    refine k_iinc (pc := 48) [some (.inr b), some (.inl y1), some (.inl y2), some (.inl (y3 + 1))] dX4_takeTurns_48 rfl rfl (by decide) ?_
    refine sh_goto (pc := 51) (tgt := 38) dX4_takeTurns_51 (by decide) ?_
    exact sh_O.locals h (sub_some (sub_some (sub_some (sub_some sub_nil))))
set_option maxRecDepth 100000 in
set_option maxHeartbeats 4000000 in
theorem eX4_takeTurn {b : Nat} (hb : sh_isP b) {I : sh_Mem} {Q : Int → sh_Mem → Prop} (h : (cc mX5_stepAll [.inr (b + 1)] I (qv fun I1 => (cc mX4_firstCaught [.inr b] I1 (qi fun v5 I3 => (sh_Bd v5 ∧ ((v5 = (-5) → (cc mX5_shortenRespites [.inr (b + 1)] I3 (qv fun I8 => (cc mX5_addToAccounts [.inr (b + 1)] I8 (qv fun I10 => (cc mX3_swingAtTurn [.inr (b + 9), .inl ((I10 b 3) + 1)] (sh_u I10 b 3 ((I10 b 3) + 1)) (qv fun I12 => (sh_Bd (I12 (b + 14) 1) ∧ (((I12 (b + 14) 1) = 0 → kk mX4_takeTurn 109 [none, some (.inl v5)] [] I12 (qi Q)) ∧ (¬ (I12 (b + 14) 1) = 0 → ((0 ≤ (I12 b 3) ∧ (I12 b 3) < 2147483648) ∧ ((0 < (I12 (b + 14) 1) ∧ (I12 (b + 14) 1) < 2147483648) ∧ (sh_Bd ((I12 b 3) % (I12 (b + 14) 1)) ∧ ((¬ ((I12 b 3) % (I12 (b + 14) 1)) = 0 → kk mX4_takeTurn 109 [none, some (.inl v5)] [] I12 (qi Q)) ∧ (((I12 b 3) % (I12 (b + 14) 1)) = 0 → (cc mX5_spin [.inr (b + 1)] I12 (qv fun I20 => kk mX4_takeTurn 109 [none, some (.inl v5)] [] (sh_u I20 b 4 ((I20 b 4) + 1)) (qi Q)))))))))))))))))) ∧ (¬ v5 = (-5) → (cc mX5_handOver [.inr (b + 1), .inl v5, .inl ((I3 (b + 14) 0) + 1)] I3 (qv fun I22 => (cc mX5_shortenRespites [.inr (b + 1)] I22 (qv fun I24 => (cc mX5_addToAccounts [.inr (b + 1)] I24 (qv fun I26 => (cc mX3_swingAtTurn [.inr (b + 9), .inl ((I26 b 3) + 1)] (sh_u I26 b 3 ((I26 b 3) + 1)) (qv fun I28 => (sh_Bd (I28 (b + 14) 1) ∧ (((I28 (b + 14) 1) = 0 → kk mX4_takeTurn 109 [none, some (.inl v5)] [] I28 (qi Q)) ∧ (¬ (I28 (b + 14) 1) = 0 → ((0 ≤ (I28 b 3) ∧ (I28 b 3) < 2147483648) ∧ ((0 < (I28 (b + 14) 1) ∧ (I28 (b + 14) 1) < 2147483648) ∧ (sh_Bd ((I28 b 3) % (I28 (b + 14) 1)) ∧ ((¬ ((I28 b 3) % (I28 (b + 14) 1)) = 0 → kk mX4_takeTurn 109 [none, some (.inl v5)] [] I28 (qi Q)) ∧ (((I28 b 3) % (I28 (b + 14) 1)) = 0 → (cc mX5_spin [.inr (b + 1)] I28 (qv fun I36 => kk mX4_takeTurn 109 [none, some (.inl v5)] [] (sh_u I36 b 4 ((I36 b 4) + 1)) (qi Q))))))))))))))))))))))))))) : cc mX4_takeTurn [.inr b] I (qi Q) := by
  refine sh_call cd_X4_takeTurn.2.2.2 (Nat.le_of_ble_eq_true rfl) ?_
  show kk mX4_takeTurn 0 [some (.inr b), none] [] I (qi Q)
  refine sh_aload_n (pc := 0) dX4_takeTurn_0 rfl rfl ?_
  refine sh_getR (pc := 1) dX4_takeTurn_1 fl_X4_12 rfl (is_P hb) (pt_P0 hb) ?_
  refine k_V0v (pc := 4) (is_R hb) dX4_takeTurn_4 lk_X4_55 rfl h (fun I1 h => ?_)
  refine sh_aload_n (pc := 7) dX4_takeTurn_7 rfl rfl ?_
  refine k_V0i (pc := 8) (is_P hb) dX4_takeTurn_8 lk_X4_58 rfl h (fun v5 I3 h => ?_)
  refine k_istore_n (pc := 11) [some (.inr b), some (.inl v5)] dX4_takeTurn_11 rfl rfl (by decide) ?_
  refine sh_iload_n (pc := 12) dX4_takeTurn_12 rfl rfl ?_
  refine sh_bipush (pc := 13) (v := (-5)) dX4_takeTurn_13 (by decide) ?_
  obtain ⟨hb_6, h⟩ := h
  refine sh_icmp_eq (pc := 15) (tgt := 34) dX4_takeTurn_15 (by decide) hb_6 (bd_lit (by decide)) (fun q_7 => ?_) (fun q_7 => ?_)
  · replace h := h.1 q_7
    refine sh_aload_n (pc := 34) dX4_takeTurn_34 rfl rfl ?_
    refine sh_getR (pc := 35) dX4_takeTurn_35 fl_X4_12 rfl (is_P hb) (pt_P0 hb) ?_
    refine k_V0v (pc := 38) (is_R hb) dX4_takeTurn_38 lk_X4_66 rfl h (fun I8 h => ?_)
    refine sh_aload_n (pc := 41) dX4_takeTurn_41 rfl rfl ?_
    refine sh_getR (pc := 42) dX4_takeTurn_42 fl_X4_12 rfl (is_P hb) (pt_P0 hb) ?_
    refine k_V0v (pc := 45) (is_R hb) dX4_takeTurn_45 lk_X4_69 rfl h (fun I10 h => ?_)
    refine sh_aload_n (pc := 48) dX4_takeTurn_48 rfl rfl ?_
    refine sh_dup (pc := 49) dX4_takeTurn_49 ?_
    refine sh_getI (pc := 50) (g := 3) dX4_takeTurn_50 fl_X4_29 rfl (is_P hb) rfl ?_
    refine sh_iconst (pc := 53) (v := 1) dX4_takeTurn_53 rfl ?_
    refine sh_iadd (pc := 54) dX4_takeTurn_54 ?_
    refine k_putI (pc := 55) (g := 3) dX4_takeTurn_55 fl_X4_29 rfl (is_P hb) rfl ?_
    refine sh_aload_n (pc := 58) dX4_takeTurn_58 rfl rfl ?_
    refine sh_getR (pc := 59) dX4_takeTurn_59 fl_X4_21 rfl (is_P hb) (pt_P1 hb) ?_
    refine sh_aload_n (pc := 62) dX4_takeTurn_62 rfl rfl ?_
    refine k_getI (pc := 63) (g := 3) ((I10 b 3) + 1) dX4_takeTurn_63 fl_X4_29 rfl (is_P hb) rfl (by simp [sh_u]) ?_
    refine k_V1v (pc := 66) (is_L hb) dX4_takeTurn_66 lk_X4_72 rfl h (fun I12 h => ?_)
    refine sh_aload_n (pc := 69) dX4_takeTurn_69 rfl rfl ?_
    refine sh_getR (pc := 70) dX4_takeTurn_70 fl_X4_25 rfl (is_P hb) (pt_P2 hb) ?_
    refine sh_iconst (pc := 73) (v := 1) dX4_takeTurn_73 rfl ?_
    refine sh_iald (pc := 74) dX4_takeTurn_74 (is_P14 hb) (by decide) (by decide) ?_
    obtain ⟨hb_14, h⟩ := h
    refine sh_if_eq (pc := 75) (tgt := 109) dX4_takeTurn_75 (by decide) hb_14  (fun q_15 => ?_) (fun q_15 => ?_)
    · replace h := h.1 q_15
      exact sh_O.locals h (sub_none (sub_some sub_nil))
    · replace h := h.2 q_15
      refine sh_aload_n (pc := 78) dX4_takeTurn_78 rfl rfl ?_
      refine sh_getI (pc := 79) (g := 3) dX4_takeTurn_79 fl_X4_29 rfl (is_P hb) rfl ?_
      refine sh_aload_n (pc := 82) dX4_takeTurn_82 rfl rfl ?_
      refine sh_getR (pc := 83) dX4_takeTurn_83 fl_X4_25 rfl (is_P hb) (pt_P2 hb) ?_
      refine sh_iconst (pc := 86) (v := 1) dX4_takeTurn_86 rfl ?_
      refine sh_iald (pc := 87) dX4_takeTurn_87 (is_P14 hb) (by decide) (by decide) ?_
      obtain ⟨hn_16, h⟩ := h
      obtain ⟨hp_17, h⟩ := h
      refine sh_irem (pc := 88) dX4_takeTurn_88 hn_16.1 hn_16.2 hp_17.1 hp_17.2 ?_
      obtain ⟨hb_18, h⟩ := h
      refine sh_if_ne (pc := 89) (tgt := 109) dX4_takeTurn_89 (by decide) hb_18  (fun q_19 => ?_) (fun q_19 => ?_)
      · replace h := h.1 q_19
        exact sh_O.locals h (sub_none (sub_some sub_nil))
      · replace h := h.2 q_19
        refine sh_aload_n (pc := 92) dX4_takeTurn_92 rfl rfl ?_
        refine sh_getR (pc := 93) dX4_takeTurn_93 fl_X4_12 rfl (is_P hb) (pt_P0 hb) ?_
        refine k_V0v (pc := 96) (is_R hb) dX4_takeTurn_96 lk_X4_76 rfl h (fun I20 h => ?_)
        refine sh_aload_n (pc := 99) dX4_takeTurn_99 rfl rfl ?_
        refine sh_dup (pc := 100) dX4_takeTurn_100 ?_
        refine sh_getI (pc := 101) (g := 4) dX4_takeTurn_101 fl_X4_33 rfl (is_P hb) rfl ?_
        refine sh_iconst (pc := 104) (v := 1) dX4_takeTurn_104 rfl ?_
        refine sh_iadd (pc := 105) dX4_takeTurn_105 ?_
        refine k_putI (pc := 106) (g := 4) dX4_takeTurn_106 fl_X4_33 rfl (is_P hb) rfl ?_
        exact sh_O.locals h (sub_none (sub_some sub_nil))
  · replace h := h.2 q_7
    refine sh_aload_n (pc := 18) dX4_takeTurn_18 rfl rfl ?_
    refine sh_getR (pc := 19) dX4_takeTurn_19 fl_X4_12 rfl (is_P hb) (pt_P0 hb) ?_
    refine sh_iload_n (pc := 22) dX4_takeTurn_22 rfl rfl ?_
    refine sh_aload_n (pc := 23) dX4_takeTurn_23 rfl rfl ?_
    refine sh_getR (pc := 24) dX4_takeTurn_24 fl_X4_25 rfl (is_P hb) (pt_P2 hb) ?_
    refine sh_iconst (pc := 27) (v := 0) dX4_takeTurn_27 rfl ?_
    refine sh_iald (pc := 28) dX4_takeTurn_28 (is_P14 hb) (by decide) (by decide) ?_
    refine sh_iconst (pc := 29) (v := 1) dX4_takeTurn_29 rfl ?_
    refine sh_iadd (pc := 30) dX4_takeTurn_30 ?_
    refine k_V2v (pc := 31) (is_R hb) dX4_takeTurn_31 lk_X4_62 rfl h (fun I22 h => ?_)
    refine sh_aload_n (pc := 34) dX4_takeTurn_34 rfl rfl ?_
    refine sh_getR (pc := 35) dX4_takeTurn_35 fl_X4_12 rfl (is_P hb) (pt_P0 hb) ?_
    refine k_V0v (pc := 38) (is_R hb) dX4_takeTurn_38 lk_X4_66 rfl h (fun I24 h => ?_)
    refine sh_aload_n (pc := 41) dX4_takeTurn_41 rfl rfl ?_
    refine sh_getR (pc := 42) dX4_takeTurn_42 fl_X4_12 rfl (is_P hb) (pt_P0 hb) ?_
    refine k_V0v (pc := 45) (is_R hb) dX4_takeTurn_45 lk_X4_69 rfl h (fun I26 h => ?_)
    refine sh_aload_n (pc := 48) dX4_takeTurn_48 rfl rfl ?_
    refine sh_dup (pc := 49) dX4_takeTurn_49 ?_
    refine sh_getI (pc := 50) (g := 3) dX4_takeTurn_50 fl_X4_29 rfl (is_P hb) rfl ?_
    refine sh_iconst (pc := 53) (v := 1) dX4_takeTurn_53 rfl ?_
    refine sh_iadd (pc := 54) dX4_takeTurn_54 ?_
    refine k_putI (pc := 55) (g := 3) dX4_takeTurn_55 fl_X4_29 rfl (is_P hb) rfl ?_
    refine sh_aload_n (pc := 58) dX4_takeTurn_58 rfl rfl ?_
    refine sh_getR (pc := 59) dX4_takeTurn_59 fl_X4_21 rfl (is_P hb) (pt_P1 hb) ?_
    refine sh_aload_n (pc := 62) dX4_takeTurn_62 rfl rfl ?_
    refine k_getI (pc := 63) (g := 3) ((I26 b 3) + 1) dX4_takeTurn_63 fl_X4_29 rfl (is_P hb) rfl (by simp [sh_u]) ?_
    refine k_V1v (pc := 66) (is_L hb) dX4_takeTurn_66 lk_X4_72 rfl h (fun I28 h => ?_)
    refine sh_aload_n (pc := 69) dX4_takeTurn_69 rfl rfl ?_
    refine sh_getR (pc := 70) dX4_takeTurn_70 fl_X4_25 rfl (is_P hb) (pt_P2 hb) ?_
    refine sh_iconst (pc := 73) (v := 1) dX4_takeTurn_73 rfl ?_
    refine sh_iald (pc := 74) dX4_takeTurn_74 (is_P14 hb) (by decide) (by decide) ?_
    obtain ⟨hb_30, h⟩ := h
    refine sh_if_eq (pc := 75) (tgt := 109) dX4_takeTurn_75 (by decide) hb_30  (fun q_31 => ?_) (fun q_31 => ?_)
    · replace h := h.1 q_31
      exact sh_O.locals h (sub_none (sub_some sub_nil))
    · replace h := h.2 q_31
      refine sh_aload_n (pc := 78) dX4_takeTurn_78 rfl rfl ?_
      refine sh_getI (pc := 79) (g := 3) dX4_takeTurn_79 fl_X4_29 rfl (is_P hb) rfl ?_
      refine sh_aload_n (pc := 82) dX4_takeTurn_82 rfl rfl ?_
      refine sh_getR (pc := 83) dX4_takeTurn_83 fl_X4_25 rfl (is_P hb) (pt_P2 hb) ?_
      refine sh_iconst (pc := 86) (v := 1) dX4_takeTurn_86 rfl ?_
      refine sh_iald (pc := 87) dX4_takeTurn_87 (is_P14 hb) (by decide) (by decide) ?_
      obtain ⟨hn_32, h⟩ := h
      obtain ⟨hp_33, h⟩ := h
      refine sh_irem (pc := 88) dX4_takeTurn_88 hn_32.1 hn_32.2 hp_33.1 hp_33.2 ?_
      obtain ⟨hb_34, h⟩ := h
      refine sh_if_ne (pc := 89) (tgt := 109) dX4_takeTurn_89 (by decide) hb_34  (fun q_35 => ?_) (fun q_35 => ?_)
      · replace h := h.1 q_35
        exact sh_O.locals h (sub_none (sub_some sub_nil))
      · replace h := h.2 q_35
        refine sh_aload_n (pc := 92) dX4_takeTurn_92 rfl rfl ?_
        refine sh_getR (pc := 93) dX4_takeTurn_93 fl_X4_12 rfl (is_P hb) (pt_P0 hb) ?_
        refine k_V0v (pc := 96) (is_R hb) dX4_takeTurn_96 lk_X4_76 rfl h (fun I36 h => ?_)
        refine sh_aload_n (pc := 99) dX4_takeTurn_99 rfl rfl ?_
        refine sh_dup (pc := 100) dX4_takeTurn_100 ?_
        refine sh_getI (pc := 101) (g := 4) dX4_takeTurn_101 fl_X4_33 rfl (is_P hb) rfl ?_
        refine sh_iconst (pc := 104) (v := 1) dX4_takeTurn_104 rfl ?_
        refine sh_iadd (pc := 105) dX4_takeTurn_105 ?_
        refine k_putI (pc := 106) (g := 4) dX4_takeTurn_106 fl_X4_33 rfl (is_P hb) rfl ?_
        exact sh_O.locals h (sub_none (sub_some sub_nil))
set_option maxRecDepth 100000 in
set_option maxHeartbeats 4000000 in
theorem lX4_takeTurn_109 {b : Nat} (hb : sh_isP b) {y1 : Int} {I : sh_Mem} {Q : Int → sh_Mem → Prop} (h : (sh_Bd y1 ∧ ((y1 = (-5) → Q 0 I) ∧ (¬ y1 = (-5) → Q 1 I)))) : kk mX4_takeTurn 109 [none, some (.inl y1)] [] I (qi Q) := by
  refine sh_iload_n (pc := 109) dX4_takeTurn_109 rfl rfl ?_
  refine sh_bipush (pc := 110) (v := (-5)) dX4_takeTurn_110 (by decide) ?_
  obtain ⟨hb_1, h⟩ := h
  refine sh_icmp_eq (pc := 112) (tgt := 119) dX4_takeTurn_112 (by decide) hb_1 (bd_lit (by decide)) (fun q_2 => ?_) (fun q_2 => ?_)
  · replace h := h.1 q_2
    refine sh_iconst (pc := 119) (v := 0) dX4_takeTurn_119 rfl ?_
    exact k_zret dX4_takeTurn_120 rfl (Or.inl rfl) h
  · replace h := h.2 q_2
    refine sh_iconst (pc := 115) (v := 1) dX4_takeTurn_115 rfl ?_
    refine sh_goto (pc := 116) (tgt := 120) dX4_takeTurn_116 (by decide) ?_
    exact k_zret dX4_takeTurn_120 rfl (Or.inr rfl) h
set_option maxRecDepth 100000 in
set_option maxHeartbeats 4000000 in
theorem eX4_firstCaught {b : Nat} (hb : sh_isP b) {I : sh_Mem} {Q : Int → sh_Mem → Prop} (h : (cc mX5_has [.inr (b + 1), .inl (I (b + 1) 8)] I (qi fun v3 I1 => ((v3 = 1 ∧ ((0 ≤ (I1 (b + 1) 8) ∧ (I1 (b + 1) 8) < (6 : Int)) ∧ kk mX4_firstCaught 41 [some (.inr b), some (.inl (I1 (b + 2) (I1 (b + 1) 8))), some (.inl (-5)), some (.inl 0), none] [] I1 (qi Q))) ∨ (v3 = 0 ∧ Q (-5) I1))))) : cc mX4_firstCaught [.inr b] I (qi Q) := by
  refine sh_call cd_X4_firstCaught.2.2.2 (Nat.le_of_ble_eq_true rfl) ?_
  show kk mX4_firstCaught 0 [some (.inr b), none, none, none, none] [] I (qi Q)
  refine sh_aload_n (pc := 0) dX4_firstCaught_0 rfl rfl ?_
  refine sh_getR (pc := 1) dX4_firstCaught_1 fl_X4_12 rfl (is_P hb) (pt_P0 hb) ?_
  refine sh_aload_n (pc := 4) dX4_firstCaught_4 rfl rfl ?_
  refine sh_getR (pc := 5) dX4_firstCaught_5 fl_X4_12 rfl (is_P hb) (pt_P0 hb) ?_
  refine sh_getI (pc := 8) (g := 8) dX4_firstCaught_8 fl_X4_79 rfl (is_R hb) rfl ?_
  refine k_V1i (pc := 11) (is_R hb) dX4_firstCaught_11 lk_X4_82 rfl h (fun v3 I1 h => ?_)
  rcases h with ⟨rfl, h⟩ | ⟨rfl, h⟩
  · skip
    refine sh_if_ne (pc := 14) (tgt := 20) dX4_firstCaught_14 (by decide) (bd_lit (by decide)) (fun qz => ?_) (fun qz => ?_)
    · skip
      refine sh_aload_n (pc := 20) dX4_firstCaught_20 rfl rfl ?_
      refine sh_getR (pc := 21) dX4_firstCaught_21 fl_X4_12 rfl (is_P hb) (pt_P0 hb) ?_
      refine sh_getR (pc := 24) dX4_firstCaught_24 fl_X4_86 rfl (is_R hb) (pt_R0 hb) ?_
      refine sh_aload_n (pc := 27) dX4_firstCaught_27 rfl rfl ?_
      refine sh_getR (pc := 28) dX4_firstCaught_28 fl_X4_12 rfl (is_P hb) (pt_P0 hb) ?_
      refine sh_getI (pc := 31) (g := 8) dX4_firstCaught_31 fl_X4_79 rfl (is_R hb) rfl ?_
      obtain ⟨hi_4, h⟩ := h
      refine sh_iald (pc := 34) dX4_firstCaught_34 (is_P2 hb) (by decide) hi_4 ?_
      refine k_istore_n (pc := 35) [some (.inr b), some (.inl (I1 (b + 2) (I1 (b + 1) 8))), none, none, none] dX4_firstCaught_35 rfl rfl (by decide) ?_
      refine sh_bipush (pc := 36) (v := (-5)) dX4_firstCaught_36 (by decide) ?_
      refine k_istore_n (pc := 38) [some (.inr b), some (.inl (I1 (b + 2) (I1 (b + 1) 8))), some (.inl (-5)), none, none] dX4_firstCaught_38 rfl rfl (by decide) ?_
      refine sh_iconst (pc := 39) (v := 0) dX4_firstCaught_39 rfl ?_
      refine k_istore_n (pc := 40) [some (.inr b), some (.inl (I1 (b + 2) (I1 (b + 1) 8))), some (.inl (-5)), some (.inl 0), none] dX4_firstCaught_40 rfl rfl (by decide) ?_
      exact sh_O.locals h (sub_some (sub_some (sub_some (sub_some (sub_none sub_nil)))))
    · exact absurd qz (by decide)
  · skip
    refine sh_if_ne (pc := 14) (tgt := 20) dX4_firstCaught_14 (by decide) (bd_lit (by decide)) (fun qz => ?_) (fun qz => ?_)
    · exact absurd qz (by decide)
    · skip
      refine sh_bipush (pc := 17) (v := (-5)) dX4_firstCaught_17 (by decide) ?_
      exact k_iret dX4_firstCaught_19 rfl h
set_option maxRecDepth 100000 in
set_option maxHeartbeats 4000000 in
theorem lX4_firstCaught_41 {b : Nat} (hb : sh_isP b) {y1 : Int} {y2 : Int} {y3 : Int} {I : sh_Mem} {Q : Int → sh_Mem → Prop} (h : (sh_Bd y3 ∧ ((3 ≤ y3 → Q y2 I) ∧ (y3 < 3 → (cc mX4_shadowerOf [.inr b, .inl y1, .inl y3] I (qi fun v5 I3 => (cc mX5_has [.inr (b + 1), .inl v5] I3 (qi fun v8 I6 => ((v8 = 1 ∧ ((0 ≤ v5 ∧ v5 < (6 : Int)) ∧ (sh_Bd (I6 (b + 5) v5) ∧ ((¬ (I6 (b + 5) v5) = 0 → kk mX4_firstCaught 41 [some (.inr b), some (.inl y1), some (.inl y2), some (.inl (y3 + 1)), none] [] I6 (qi Q)) ∧ ((I6 (b + 5) v5) = 0 → (sh_Bd y2 ∧ ((y2 = (-5) → kk mX4_firstCaught 41 [some (.inr b), some (.inl y1), some (.inl v5), some (.inl (y3 + 1)), none] [] I6 (qi Q)) ∧ (¬ y2 = (-5) → (sh_Bd v5 ∧ ((y2 ≤ v5 → kk mX4_firstCaught 41 [some (.inr b), some (.inl y1), some (.inl y2), some (.inl (y3 + 1)), none] [] I6 (qi Q)) ∧ (v5 < y2 → kk mX4_firstCaught 41 [some (.inr b), some (.inl y1), some (.inl v5), some (.inl (y3 + 1)), none] [] I6 (qi Q)))))))))))) ∨ (v8 = 0 ∧ kk mX4_firstCaught 41 [some (.inr b), some (.inl y1), some (.inl y2), some (.inl (y3 + 1)), none] [] I6 (qi Q))))))))))) : kk mX4_firstCaught 41 [some (.inr b), some (.inl y1), some (.inl y2), some (.inl y3), none] [] I (qi Q) := by
  refine sh_iload_n (pc := 41) dX4_firstCaught_41 rfl rfl ?_
  refine sh_iconst (pc := 42) (v := 3) dX4_firstCaught_42 rfl ?_
  obtain ⟨hb_1, h⟩ := h
  refine sh_icmp_ge (pc := 43) (tgt := 100) dX4_firstCaught_43 (by decide) hb_1 (bd_lit (by decide)) (fun q_2 => ?_) (fun q_2 => ?_)
  · replace h := h.1 q_2
    refine sh_iload_n (pc := 100) dX4_firstCaught_100 rfl rfl ?_
    exact k_iret dX4_firstCaught_101 rfl h
  · replace h := h.2 q_2
    refine sh_aload_n (pc := 46) dX4_firstCaught_46 rfl rfl ?_
    refine sh_iload_n (pc := 47) dX4_firstCaught_47 rfl rfl ?_
    refine sh_iload_n (pc := 48) dX4_firstCaught_48 rfl rfl ?_
    refine k_V2i (pc := 49) (is_P hb) dX4_firstCaught_49 lk_X4_89 rfl h (fun v5 I3 h => ?_)
    refine k_istore (pc := 52) [some (.inr b), some (.inl y1), some (.inl y2), some (.inl y3), some (.inl v5)] dX4_firstCaught_52 rfl (by decide) ?_
    refine sh_aload_n (pc := 54) dX4_firstCaught_54 rfl rfl ?_
    refine sh_getR (pc := 55) dX4_firstCaught_55 fl_X4_12 rfl (is_P hb) (pt_P0 hb) ?_
    refine sh_iload (pc := 58) dX4_firstCaught_58 rfl ?_
    refine k_V1i (pc := 60) (is_R hb) dX4_firstCaught_60 lk_X4_82 rfl h (fun v8 I6 h => ?_)
    rcases h with ⟨rfl, h⟩ | ⟨rfl, h⟩
    · skip
      refine sh_if_eq (pc := 63) (tgt := 94) dX4_firstCaught_63 (by decide) (bd_lit (by decide)) (fun qz => ?_) (fun qz => ?_)
      · exact absurd qz (by decide)
      · skip
        refine sh_aload_n (pc := 66) dX4_firstCaught_66 rfl rfl ?_
        refine sh_getR (pc := 67) dX4_firstCaught_67 fl_X4_12 rfl (is_P hb) (pt_P0 hb) ?_
        refine sh_getR (pc := 70) dX4_firstCaught_70 fl_X4_93 rfl (is_R hb) (pt_R3 hb) ?_
        refine sh_iload (pc := 73) dX4_firstCaught_73 rfl ?_
        obtain ⟨hi_9, h⟩ := h
        refine sh_iald (pc := 75) dX4_firstCaught_75 (is_P5 hb) (by decide) hi_9 ?_
        obtain ⟨hb_10, h⟩ := h
        refine sh_if_ne (pc := 76) (tgt := 94) dX4_firstCaught_76 (by decide) hb_10  (fun q_11 => ?_) (fun q_11 => ?_)
        · replace h := h.1 q_11
          refine k_iinc (pc := 94) [some (.inr b), some (.inl y1), some (.inl y2), some (.inl (y3 + 1)), some (.inl v5)] dX4_firstCaught_94 rfl rfl (by decide) ?_
          refine sh_goto (pc := 97) (tgt := 41) dX4_firstCaught_97 (by decide) ?_
          exact sh_O.locals h (sub_some (sub_some (sub_some (sub_some (sub_none sub_nil)))))
        · replace h := h.2 q_11
          refine sh_iload_n (pc := 79) dX4_firstCaught_79 rfl rfl ?_
          refine sh_bipush (pc := 80) (v := (-5)) dX4_firstCaught_80 (by decide) ?_
          obtain ⟨hb_12, h⟩ := h
          refine sh_icmp_eq (pc := 82) (tgt := 91) dX4_firstCaught_82 (by decide) hb_12 (bd_lit (by decide)) (fun q_13 => ?_) (fun q_13 => ?_)
          · replace h := h.1 q_13
            refine sh_iload (pc := 91) dX4_firstCaught_91 rfl ?_
            refine k_istore_n (pc := 93) [some (.inr b), some (.inl y1), some (.inl v5), some (.inl y3), some (.inl v5)] dX4_firstCaught_93 rfl rfl (by decide) ?_
            refine k_iinc (pc := 94) [some (.inr b), some (.inl y1), some (.inl v5), some (.inl (y3 + 1)), some (.inl v5)] dX4_firstCaught_94 rfl rfl (by decide) ?_
            refine sh_goto (pc := 97) (tgt := 41) dX4_firstCaught_97 (by decide) ?_
            exact sh_O.locals h (sub_some (sub_some (sub_some (sub_some (sub_none sub_nil)))))
          · replace h := h.2 q_13
            refine sh_iload (pc := 85) dX4_firstCaught_85 rfl ?_
            refine sh_iload_n (pc := 87) dX4_firstCaught_87 rfl rfl ?_
            obtain ⟨hb_14, h⟩ := h
            refine sh_icmp_ge (pc := 88) (tgt := 94) dX4_firstCaught_88 (by decide) hb_14 hb_12 (fun q_15 => ?_) (fun q_15 => ?_)
            · replace h := h.1 q_15
              refine k_iinc (pc := 94) [some (.inr b), some (.inl y1), some (.inl y2), some (.inl (y3 + 1)), some (.inl v5)] dX4_firstCaught_94 rfl rfl (by decide) ?_
              refine sh_goto (pc := 97) (tgt := 41) dX4_firstCaught_97 (by decide) ?_
              exact sh_O.locals h (sub_some (sub_some (sub_some (sub_some (sub_none sub_nil)))))
            · replace h := h.2 q_15
              refine sh_iload (pc := 91) dX4_firstCaught_91 rfl ?_
              refine k_istore_n (pc := 93) [some (.inr b), some (.inl y1), some (.inl v5), some (.inl y3), some (.inl v5)] dX4_firstCaught_93 rfl rfl (by decide) ?_
              refine k_iinc (pc := 94) [some (.inr b), some (.inl y1), some (.inl v5), some (.inl (y3 + 1)), some (.inl v5)] dX4_firstCaught_94 rfl rfl (by decide) ?_
              refine sh_goto (pc := 97) (tgt := 41) dX4_firstCaught_97 (by decide) ?_
              exact sh_O.locals h (sub_some (sub_some (sub_some (sub_some (sub_none sub_nil)))))
    · skip
      refine sh_if_eq (pc := 63) (tgt := 94) dX4_firstCaught_63 (by decide) (bd_lit (by decide)) (fun qz => ?_) (fun qz => ?_)
      · skip
        refine k_iinc (pc := 94) [some (.inr b), some (.inl y1), some (.inl y2), some (.inl (y3 + 1)), some (.inl v5)] dX4_firstCaught_94 rfl rfl (by decide) ?_
        refine sh_goto (pc := 97) (tgt := 41) dX4_firstCaught_97 (by decide) ?_
        exact sh_O.locals h (sub_some (sub_some (sub_some (sub_some (sub_none sub_nil)))))
      · exact absurd qz (by decide)
set_option maxRecDepth 100000 in
set_option maxHeartbeats 4000000 in
theorem eX4_catcherStandsInShadowOf {b : Nat} (hb : sh_isP b) {x1 : Int} {I : sh_Mem} {Q : Int → sh_Mem → Prop} (h : (cc mX5_has [.inr (b + 1), .inl (I (b + 1) 8)] I (qi fun v3 I1 => ((v3 = 1 ∧ ((0 ≤ (I1 (b + 1) 8) ∧ (I1 (b + 1) 8) < (6 : Int)) ∧ kk mX4_catcherStandsInShadowOf 37 [some (.inr b), some (.inl x1), some (.inl (I1 (b + 2) (I1 (b + 1) 8))), some (.inl 0)] [] I1 (qi Q))) ∨ (v3 = 0 ∧ Q 0 I1))))) : cc mX4_catcherStandsInShadowOf [.inr b, .inl x1] I (qi Q) := by
  refine sh_call cd_X4_catcherStandsInShadowOf.2.2.2 (Nat.le_of_ble_eq_true rfl) ?_
  show kk mX4_catcherStandsInShadowOf 0 [some (.inr b), some (.inl x1), none, none] [] I (qi Q)
  refine sh_aload_n (pc := 0) dX4_catcherStandsInShadowOf_0 rfl rfl ?_
  refine sh_getR (pc := 1) dX4_catcherStandsInShadowOf_1 fl_X4_12 rfl (is_P hb) (pt_P0 hb) ?_
  refine sh_aload_n (pc := 4) dX4_catcherStandsInShadowOf_4 rfl rfl ?_
  refine sh_getR (pc := 5) dX4_catcherStandsInShadowOf_5 fl_X4_12 rfl (is_P hb) (pt_P0 hb) ?_
  refine sh_getI (pc := 8) (g := 8) dX4_catcherStandsInShadowOf_8 fl_X4_79 rfl (is_R hb) rfl ?_
  refine k_V1i (pc := 11) (is_R hb) dX4_catcherStandsInShadowOf_11 lk_X4_82 rfl h (fun v3 I1 h => ?_)
  rcases h with ⟨rfl, h⟩ | ⟨rfl, h⟩
  · skip
    refine sh_if_ne (pc := 14) (tgt := 19) dX4_catcherStandsInShadowOf_14 (by decide) (bd_lit (by decide)) (fun qz => ?_) (fun qz => ?_)
    · skip
      refine sh_aload_n (pc := 19) dX4_catcherStandsInShadowOf_19 rfl rfl ?_
      refine sh_getR (pc := 20) dX4_catcherStandsInShadowOf_20 fl_X4_12 rfl (is_P hb) (pt_P0 hb) ?_
      refine sh_getR (pc := 23) dX4_catcherStandsInShadowOf_23 fl_X4_86 rfl (is_R hb) (pt_R0 hb) ?_
      refine sh_aload_n (pc := 26) dX4_catcherStandsInShadowOf_26 rfl rfl ?_
      refine sh_getR (pc := 27) dX4_catcherStandsInShadowOf_27 fl_X4_12 rfl (is_P hb) (pt_P0 hb) ?_
      refine sh_getI (pc := 30) (g := 8) dX4_catcherStandsInShadowOf_30 fl_X4_79 rfl (is_R hb) rfl ?_
      obtain ⟨hi_4, h⟩ := h
      refine sh_iald (pc := 33) dX4_catcherStandsInShadowOf_33 (is_P2 hb) (by decide) hi_4 ?_
      refine k_istore_n (pc := 34) [some (.inr b), some (.inl x1), some (.inl (I1 (b + 2) (I1 (b + 1) 8))), none] dX4_catcherStandsInShadowOf_34 rfl rfl (by decide) ?_
      refine sh_iconst (pc := 35) (v := 0) dX4_catcherStandsInShadowOf_35 rfl ?_
      refine k_istore_n (pc := 36) [some (.inr b), some (.inl x1), some (.inl (I1 (b + 2) (I1 (b + 1) 8))), some (.inl 0)] dX4_catcherStandsInShadowOf_36 rfl rfl (by decide) ?_
      exact sh_O.locals h (sub_some (sub_some (sub_some (sub_some sub_nil))))
    · exact absurd qz (by decide)
  · skip
    refine sh_if_ne (pc := 14) (tgt := 19) dX4_catcherStandsInShadowOf_14 (by decide) (bd_lit (by decide)) (fun qz => ?_) (fun qz => ?_)
    · exact absurd qz (by decide)
    · skip
      refine sh_iconst (pc := 17) (v := 0) dX4_catcherStandsInShadowOf_17 rfl ?_
      exact k_zret dX4_catcherStandsInShadowOf_18 rfl (Or.inl rfl) h
set_option maxRecDepth 100000 in
set_option maxHeartbeats 4000000 in
theorem lX4_catcherStandsInShadowOf_37 {b : Nat} (hb : sh_isP b) {y1 : Int} {y2 : Int} {y3 : Int} {I : sh_Mem} {Q : Int → sh_Mem → Prop} (h : (sh_Bd y3 ∧ ((3 ≤ y3 → Q 0 I) ∧ (y3 < 3 → (cc mX4_isInShadow [.inr b, .inl y2, .inl y1, .inl y3] I (qi fun v5 I3 => ((v5 = 1 ∧ Q 1 I3) ∨ (v5 = 0 ∧ kk mX4_catcherStandsInShadowOf 37 [some (.inr b), some (.inl y1), some (.inl y2), some (.inl (y3 + 1))] [] I3 (qi Q))))))))) : kk mX4_catcherStandsInShadowOf 37 [some (.inr b), some (.inl y1), some (.inl y2), some (.inl y3)] [] I (qi Q) := by
  refine sh_iload_n (pc := 37) dX4_catcherStandsInShadowOf_37 rfl rfl ?_
  refine sh_iconst (pc := 38) (v := 3) dX4_catcherStandsInShadowOf_38 rfl ?_
  obtain ⟨hb_1, h⟩ := h
  refine sh_icmp_ge (pc := 39) (tgt := 60) dX4_catcherStandsInShadowOf_39 (by decide) hb_1 (bd_lit (by decide)) (fun q_2 => ?_) (fun q_2 => ?_)
  · replace h := h.1 q_2
    refine sh_iconst (pc := 60) (v := 0) dX4_catcherStandsInShadowOf_60 rfl ?_
    exact k_zret dX4_catcherStandsInShadowOf_61 rfl (Or.inl rfl) h
  · replace h := h.2 q_2
    refine sh_aload_n (pc := 42) dX4_catcherStandsInShadowOf_42 rfl rfl ?_
    refine sh_iload_n (pc := 43) dX4_catcherStandsInShadowOf_43 rfl rfl ?_
    refine sh_iload_n (pc := 44) dX4_catcherStandsInShadowOf_44 rfl rfl ?_
    refine sh_iload_n (pc := 45) dX4_catcherStandsInShadowOf_45 rfl rfl ?_
    refine k_V3i (pc := 46) (is_P hb) dX4_catcherStandsInShadowOf_46 lk_X4_96 rfl h (fun v5 I3 h => ?_)
    rcases h with ⟨rfl, h⟩ | ⟨rfl, h⟩
    · skip
      refine sh_if_eq (pc := 49) (tgt := 54) dX4_catcherStandsInShadowOf_49 (by decide) (bd_lit (by decide)) (fun qz => ?_) (fun qz => ?_)
      · exact absurd qz (by decide)
      · skip
        refine sh_iconst (pc := 52) (v := 1) dX4_catcherStandsInShadowOf_52 rfl ?_
        exact k_zret dX4_catcherStandsInShadowOf_53 rfl (Or.inr rfl) h
    · skip
      refine sh_if_eq (pc := 49) (tgt := 54) dX4_catcherStandsInShadowOf_49 (by decide) (bd_lit (by decide)) (fun qz => ?_) (fun qz => ?_)
      · skip
        refine k_iinc (pc := 54) [some (.inr b), some (.inl y1), some (.inl y2), some (.inl (y3 + 1))] dX4_catcherStandsInShadowOf_54 rfl rfl (by decide) ?_
        refine sh_goto (pc := 57) (tgt := 37) dX4_catcherStandsInShadowOf_57 (by decide) ?_
        exact sh_O.locals h (sub_some (sub_some (sub_some (sub_some sub_nil))))
      · exact absurd qz (by decide)
set_option maxRecDepth 100000 in
set_option maxHeartbeats 4000000 in
theorem eX4_isInShadow {b : Nat} (hb : sh_isP b) {x1 : Int} {x2 : Int} {x3 : Int} {I : sh_Mem} {Q : Int → sh_Mem → Prop} (h : (cc mX5_has [.inr (b + 1), .inl x2] I (qi fun v3 I1 => ((v3 = 1 ∧ (cc mX6_isLamp [.inl x3] I1 (qi fun v6 I4 => ((v6 = 1 ∧ ((0 ≤ x2 ∧ x2 < (6 : Int)) ∧ ((0 ≤ x3 ∧ x3 < (3 : Int)) ∧ (cc mX6_opposite [.inl (I4 (b + 10) x3)] I4 (qi fun v11 I9 => (cc mX6_distanceAlong [.inl (I4 (b + 2) x2), .inl x1, .inl v11] I9 (qi fun v14 I12 => (sh_Bd v14 ∧ ((v14 ≤ 0 → Q 0 I12) ∧ (0 < v14 → (cc mX4_shadowLength [.inr b, .inl x2, .inl x3] I12 (qi fun v19 I17 => (sh_Bd v19 ∧ ((v19 < v14 → Q 0 I17) ∧ (v14 ≤ v19 → Q 1 I17))))))))))))))) ∨ (v6 = 0 ∧ Q 0 I4))))) ∨ (v3 = 0 ∧ Q 0 I1))))) : cc mX4_isInShadow [.inr b, .inl x1, .inl x2, .inl x3] I (qi Q) := by
  refine sh_call cd_X4_isInShadow.2.2.2 (Nat.le_of_ble_eq_true rfl) ?_
  show kk mX4_isInShadow 0 [some (.inr b), some (.inl x1), some (.inl x2), some (.inl x3), none] [] I (qi Q)
  refine sh_aload_n (pc := 0) dX4_isInShadow_0 rfl rfl ?_
  refine sh_getR (pc := 1) dX4_isInShadow_1 fl_X4_12 rfl (is_P hb) (pt_P0 hb) ?_
  refine sh_iload_n (pc := 4) dX4_isInShadow_4 rfl rfl ?_
  refine k_V1i (pc := 5) (is_R hb) dX4_isInShadow_5 lk_X4_82 rfl h (fun v3 I1 h => ?_)
  rcases h with ⟨rfl, h⟩ | ⟨rfl, h⟩
  · skip
    refine sh_if_eq (pc := 8) (tgt := 18) dX4_isInShadow_8 (by decide) (bd_lit (by decide)) (fun qz => ?_) (fun qz => ?_)
    · exact absurd qz (by decide)
    · skip
      refine sh_iload_n (pc := 11) dX4_isInShadow_11 rfl rfl ?_
      refine k_N1i (pc := 12) dX4_isInShadow_12 lk_X4_100 rfl h (fun v6 I4 h => ?_)
      rcases h with ⟨rfl, h⟩ | ⟨rfl, h⟩
      · skip
        refine sh_if_ne (pc := 15) (tgt := 20) dX4_isInShadow_15 (by decide) (bd_lit (by decide)) (fun qz => ?_) (fun qz => ?_)
        · skip
          refine sh_aload_n (pc := 20) dX4_isInShadow_20 rfl rfl ?_
          refine sh_getR (pc := 21) dX4_isInShadow_21 fl_X4_12 rfl (is_P hb) (pt_P0 hb) ?_
          refine sh_getR (pc := 24) dX4_isInShadow_24 fl_X4_86 rfl (is_R hb) (pt_R0 hb) ?_
          refine sh_iload_n (pc := 27) dX4_isInShadow_27 rfl rfl ?_
          obtain ⟨hi_7, h⟩ := h
          refine sh_iald (pc := 28) dX4_isInShadow_28 (is_P2 hb) (by decide) hi_7 ?_
          refine sh_iload_n (pc := 29) dX4_isInShadow_29 rfl rfl ?_
          refine sh_aload_n (pc := 30) dX4_isInShadow_30 rfl rfl ?_
          refine sh_getR (pc := 31) dX4_isInShadow_31 fl_X4_21 rfl (is_P hb) (pt_P1 hb) ?_
          refine sh_getR (pc := 34) dX4_isInShadow_34 fl_X4_103 rfl (is_L hb) (pt_L0 hb) ?_
          refine sh_iload_n (pc := 37) dX4_isInShadow_37 rfl rfl ?_
          obtain ⟨hi_8, h⟩ := h
          refine sh_iald (pc := 38) dX4_isInShadow_38 (is_P10 hb) (by decide) hi_8 ?_
          refine k_N1i (pc := 39) dX4_isInShadow_39 lk_X4_106 rfl h (fun v11 I9 h => ?_)
          refine k_N3i (pc := 42) dX4_isInShadow_42 lk_X4_110 rfl h (fun v14 I12 h => ?_)
          refine k_istore (pc := 45) [some (.inr b), some (.inl x1), some (.inl x2), some (.inl x3), some (.inl v14)] dX4_isInShadow_45 rfl (by decide) ?_
          refine sh_iload (pc := 47) dX4_isInShadow_47 rfl ?_
          obtain ⟨hb_15, h⟩ := h
          refine sh_if_le (pc := 49) (tgt := 67) dX4_isInShadow_49 (by decide) hb_15  (fun q_16 => ?_) (fun q_16 => ?_)
          · replace h := h.1 q_16
            refine sh_iconst (pc := 67) (v := 0) dX4_isInShadow_67 rfl ?_
            exact k_zret dX4_isInShadow_68 rfl (Or.inl rfl) h
          · replace h := h.2 q_16
            refine sh_iload (pc := 52) dX4_isInShadow_52 rfl ?_
            refine sh_aload_n (pc := 54) dX4_isInShadow_54 rfl rfl ?_
            refine sh_iload_n (pc := 55) dX4_isInShadow_55 rfl rfl ?_
            refine sh_iload_n (pc := 56) dX4_isInShadow_56 rfl rfl ?_
            refine k_V2i (pc := 57) (is_P hb) dX4_isInShadow_57 lk_X4_114 rfl h (fun v19 I17 h => ?_)
            obtain ⟨hb_20, h⟩ := h
            refine sh_icmp_gt (pc := 60) (tgt := 67) dX4_isInShadow_60 (by decide) hb_15 hb_20 (fun q_21 => ?_) (fun q_21 => ?_)
            · replace h := h.1 q_21
              refine sh_iconst (pc := 67) (v := 0) dX4_isInShadow_67 rfl ?_
              exact k_zret dX4_isInShadow_68 rfl (Or.inl rfl) h
            · replace h := h.2 q_21
              refine sh_iconst (pc := 63) (v := 1) dX4_isInShadow_63 rfl ?_
              refine sh_goto (pc := 64) (tgt := 68) dX4_isInShadow_64 (by decide) ?_
              exact k_zret dX4_isInShadow_68 rfl (Or.inr rfl) h
        · exact absurd qz (by decide)
      · skip
        refine sh_if_ne (pc := 15) (tgt := 20) dX4_isInShadow_15 (by decide) (bd_lit (by decide)) (fun qz => ?_) (fun qz => ?_)
        · exact absurd qz (by decide)
        · skip
          refine sh_iconst (pc := 18) (v := 0) dX4_isInShadow_18 rfl ?_
          exact k_zret dX4_isInShadow_19 rfl (Or.inl rfl) h
  · skip
    refine sh_if_eq (pc := 8) (tgt := 18) dX4_isInShadow_8 (by decide) (bd_lit (by decide)) (fun qz => ?_) (fun qz => ?_)
    · skip
      refine sh_iconst (pc := 18) (v := 0) dX4_isInShadow_18 rfl ?_
      exact k_zret dX4_isInShadow_19 rfl (Or.inl rfl) h
    · exact absurd qz (by decide)
set_option maxRecDepth 100000 in
set_option maxHeartbeats 4000000 in
theorem eX4_shadowLength {b : Nat} (hb : sh_isP b) {x1 : Int} {x2 : Int} {I : sh_Mem} {Q : Int → sh_Mem → Prop} (h : (cc mX5_has [.inr (b + 1), .inl x1] I (qi fun v3 I1 => ((v3 = 1 ∧ (cc mX6_isLamp [.inl x2] I1 (qi fun v6 I4 => ((v6 = 1 ∧ ((0 ≤ x2 ∧ x2 < (3 : Int)) ∧ (sh_Bd (I4 (b + 13) x2) ∧ ((¬ (I4 (b + 13) x2) = 0 → ((0 ≤ x1 ∧ x1 < (6 : Int)) ∧ (cc mX6_opposite [.inl (I4 (b + 10) x2)] I4 (qi fun v13 I11 => (cc mX6_cellsToEdge [.inl (I4 (b + 2) x1), .inl v13] I11 (qi fun v16 I14 => (sh_Bd ((I11 (b + 3) x1) * (I11 (b + 11) x2)) ∧ (sh_Bd v16 ∧ kk mX4_shadowLength 89 [some (.inr b), none, none, some (.inl (I4 (b + 2) x1)), some (.inl v13), some (.inl (min ((I11 (b + 3) x1) * (I11 (b + 11) x2)) v16)), some (.inl 0), none] [] I14 (qi Q))))))))) ∧ ((I4 (b + 13) x2) = 0 → Q 0 I4))))) ∨ (v6 = 0 ∧ Q 0 I4))))) ∨ (v3 = 0 ∧ Q 0 I1))))) : cc mX4_shadowLength [.inr b, .inl x1, .inl x2] I (qi Q) := by
  refine sh_call cd_X4_shadowLength.2.2.2 (Nat.le_of_ble_eq_true rfl) ?_
  show kk mX4_shadowLength 0 [some (.inr b), some (.inl x1), some (.inl x2), none, none, none, none, none] [] I (qi Q)
  refine sh_aload_n (pc := 0) dX4_shadowLength_0 rfl rfl ?_
  refine sh_getR (pc := 1) dX4_shadowLength_1 fl_X4_12 rfl (is_P hb) (pt_P0 hb) ?_
  refine sh_iload_n (pc := 4) dX4_shadowLength_4 rfl rfl ?_
  refine k_V1i (pc := 5) (is_R hb) dX4_shadowLength_5 lk_X4_82 rfl h (fun v3 I1 h => ?_)
  rcases h with ⟨rfl, h⟩ | ⟨rfl, h⟩
  · skip
    refine sh_if_eq (pc := 8) (tgt := 30) dX4_shadowLength_8 (by decide) (bd_lit (by decide)) (fun qz => ?_) (fun qz => ?_)
    · exact absurd qz (by decide)
    · skip
      refine sh_iload_n (pc := 11) dX4_shadowLength_11 rfl rfl ?_
      refine k_N1i (pc := 12) dX4_shadowLength_12 lk_X4_100 rfl h (fun v6 I4 h => ?_)
      rcases h with ⟨rfl, h⟩ | ⟨rfl, h⟩
      · skip
        refine sh_if_eq (pc := 15) (tgt := 30) dX4_shadowLength_15 (by decide) (bd_lit (by decide)) (fun qz => ?_) (fun qz => ?_)
        · exact absurd qz (by decide)
        · skip
          refine sh_aload_n (pc := 18) dX4_shadowLength_18 rfl rfl ?_
          refine sh_getR (pc := 19) dX4_shadowLength_19 fl_X4_21 rfl (is_P hb) (pt_P1 hb) ?_
          refine sh_getR (pc := 22) dX4_shadowLength_22 fl_X4_117 rfl (is_L hb) (pt_L3 hb) ?_
          refine sh_iload_n (pc := 25) dX4_shadowLength_25 rfl rfl ?_
          obtain ⟨hi_7, h⟩ := h
          refine sh_iald (pc := 26) dX4_shadowLength_26 (is_P13 hb) (by decide) hi_7 ?_
          obtain ⟨hb_8, h⟩ := h
          refine sh_if_ne (pc := 27) (tgt := 32) dX4_shadowLength_27 (by decide) hb_8  (fun q_9 => ?_) (fun q_9 => ?_)
          · replace h := h.1 q_9
            refine sh_aload_n (pc := 32) dX4_shadowLength_32 rfl rfl ?_
            refine sh_getR (pc := 33) dX4_shadowLength_33 fl_X4_12 rfl (is_P hb) (pt_P0 hb) ?_
            refine sh_getR (pc := 36) dX4_shadowLength_36 fl_X4_86 rfl (is_R hb) (pt_R0 hb) ?_
            refine sh_iload_n (pc := 39) dX4_shadowLength_39 rfl rfl ?_
            obtain ⟨hi_10, h⟩ := h
            refine sh_iald (pc := 40) dX4_shadowLength_40 (is_P2 hb) (by decide) hi_10 ?_
            refine k_istore_n (pc := 41) [some (.inr b), some (.inl x1), some (.inl x2), some (.inl (I4 (b + 2) x1)), none, none, none, none] dX4_shadowLength_41 rfl rfl (by decide) ?_
            refine sh_aload_n (pc := 42) dX4_shadowLength_42 rfl rfl ?_
            refine sh_getR (pc := 43) dX4_shadowLength_43 fl_X4_21 rfl (is_P hb) (pt_P1 hb) ?_
            refine sh_getR (pc := 46) dX4_shadowLength_46 fl_X4_103 rfl (is_L hb) (pt_L0 hb) ?_
            refine sh_iload_n (pc := 49) dX4_shadowLength_49 rfl rfl ?_
            refine sh_iald (pc := 50) dX4_shadowLength_50 (is_P10 hb) (by decide) hi_7 ?_
            refine k_N1i (pc := 51) dX4_shadowLength_51 lk_X4_106 rfl h (fun v13 I11 h => ?_)
            refine k_istore (pc := 54) [some (.inr b), some (.inl x1), some (.inl x2), some (.inl (I4 (b + 2) x1)), some (.inl v13), none, none, none] dX4_shadowLength_54 rfl (by decide) ?_
            refine sh_aload_n (pc := 56) dX4_shadowLength_56 rfl rfl ?_
            refine sh_getR (pc := 57) dX4_shadowLength_57 fl_X4_12 rfl (is_P hb) (pt_P0 hb) ?_
            refine sh_getR (pc := 60) dX4_shadowLength_60 fl_X4_120 rfl (is_R hb) (pt_R1 hb) ?_
            refine sh_iload_n (pc := 63) dX4_shadowLength_63 rfl rfl ?_
            refine sh_iald (pc := 64) dX4_shadowLength_64 (is_P3 hb) (by decide) hi_10 ?_
            refine sh_aload_n (pc := 65) dX4_shadowLength_65 rfl rfl ?_
            refine sh_getR (pc := 66) dX4_shadowLength_66 fl_X4_21 rfl (is_P hb) (pt_P1 hb) ?_
            refine sh_getR (pc := 69) dX4_shadowLength_69 fl_X4_123 rfl (is_L hb) (pt_L1 hb) ?_
            refine sh_iload_n (pc := 72) dX4_shadowLength_72 rfl rfl ?_
            refine sh_iald (pc := 73) dX4_shadowLength_73 (is_P11 hb) (by decide) hi_7 ?_
            refine sh_imul (pc := 74) dX4_shadowLength_74 ?_
            refine sh_iload_n (pc := 75) dX4_shadowLength_75 rfl rfl ?_
            refine sh_iload (pc := 76) dX4_shadowLength_76 rfl ?_
            refine k_N2i (pc := 78) dX4_shadowLength_78 lk_X4_126 rfl h (fun v16 I14 h => ?_)
            obtain ⟨hb_17, h⟩ := h
            obtain ⟨hb_18, h⟩ := h
            refine sh_min (pc := 81) dX4_shadowLength_81 wm_X4_129 wmin_1 wmin_2 wmin_3 (by decide) (by decide) (by simp) hb_17 hb_18 ?_
            refine k_istore (pc := 84) [some (.inr b), some (.inl x1), some (.inl x2), some (.inl (I4 (b + 2) x1)), some (.inl v13), some (.inl (min ((I11 (b + 3) x1) * (I11 (b + 11) x2)) v16)), none, none] dX4_shadowLength_84 rfl (by decide) ?_
            refine sh_iconst (pc := 86) (v := 0) dX4_shadowLength_86 rfl ?_
            refine k_istore (pc := 87) [some (.inr b), some (.inl x1), some (.inl x2), some (.inl (I4 (b + 2) x1)), some (.inl v13), some (.inl (min ((I11 (b + 3) x1) * (I11 (b + 11) x2)) v16)), some (.inl 0), none] dX4_shadowLength_87 rfl (by decide) ?_
            exact sh_O.locals h (sub_some (sub_none (sub_none (sub_some (sub_some (sub_some (sub_some (sub_none sub_nil))))))))
          · replace h := h.2 q_9
            refine sh_iconst (pc := 30) (v := 0) dX4_shadowLength_30 rfl ?_
            exact k_iret dX4_shadowLength_31 rfl h
      · skip
        refine sh_if_eq (pc := 15) (tgt := 30) dX4_shadowLength_15 (by decide) (bd_lit (by decide)) (fun qz => ?_) (fun qz => ?_)
        · skip
          refine sh_iconst (pc := 30) (v := 0) dX4_shadowLength_30 rfl ?_
          exact k_iret dX4_shadowLength_31 rfl h
        · exact absurd qz (by decide)
  · skip
    refine sh_if_eq (pc := 8) (tgt := 30) dX4_shadowLength_8 (by decide) (bd_lit (by decide)) (fun qz => ?_) (fun qz => ?_)
    · skip
      refine sh_iconst (pc := 30) (v := 0) dX4_shadowLength_30 rfl ?_
      exact k_iret dX4_shadowLength_31 rfl h
    · exact absurd qz (by decide)
set_option maxRecDepth 100000 in
set_option maxHeartbeats 4000000 in
theorem lX4_shadowLength_89 {b : Nat} (hb : sh_isP b) {y3 : Int} {y4 : Int} {y5 : Int} {y6 : Int} {I : sh_Mem} {Q : Int → sh_Mem → Prop} (h : (sh_Bd y6 ∧ (sh_Bd (I (b + 1) 7) ∧ (((I (b + 1) 7) ≤ y6 → Q y5 I) ∧ (y6 < (I (b + 1) 7) → ((6 ≤ y6 → Q y5 I) ∧ (y6 < 6 → ((0 ≤ y6 ∧ y6 < (6 : Int)) ∧ (cc mX6_distanceAlong [.inl y3, .inl (I (b + 2) y6), .inl y4] I (qi fun v8 I6 => (sh_Bd v8 ∧ ((v8 ≤ 0 → kk mX4_shadowLength 89 [some (.inr b), none, none, some (.inl y3), some (.inl y4), some (.inl y5), some (.inl (y6 + 1)), none] [] I6 (qi Q)) ∧ (0 < v8 → (sh_Bd y5 ∧ ((y5 ≤ v8 → kk mX4_shadowLength 89 [some (.inr b), none, none, some (.inl y3), some (.inl y4), some (.inl y5), some (.inl (y6 + 1)), none] [] I6 (qi Q)) ∧ (v8 < y5 → kk mX4_shadowLength 89 [some (.inr b), none, none, some (.inl y3), some (.inl y4), some (.inl v8), some (.inl (y6 + 1)), none] [] I6 (qi Q))))))))))))))))) : kk mX4_shadowLength 89 [some (.inr b), none, none, some (.inl y3), some (.inl y4), some (.inl y5), some (.inl y6), none] [] I (qi Q) := by
  refine sh_iload (pc := 89) dX4_shadowLength_89 rfl ?_
  refine sh_aload_n (pc := 91) dX4_shadowLength_91 rfl rfl ?_
  refine sh_getR (pc := 92) dX4_shadowLength_92 fl_X4_12 rfl (is_P hb) (pt_P0 hb) ?_
  refine sh_getI (pc := 95) (g := 7) dX4_shadowLength_95 fl_X4_134 rfl (is_R hb) rfl ?_
  obtain ⟨hb_1, h⟩ := h
  obtain ⟨hb_2, h⟩ := h
  refine sh_icmp_ge (pc := 98) (tgt := 148) dX4_shadowLength_98 (by decide) hb_1 hb_2 (fun q_3 => ?_) (fun q_3 => ?_)
  · replace h := h.1 q_3
    refine sh_iload (pc := 148) dX4_shadowLength_148 rfl ?_
    exact k_iret dX4_shadowLength_150 rfl h
  · replace h := h.2 q_3
    refine sh_iload (pc := 101) dX4_shadowLength_101 rfl ?_
    refine sh_bipush (pc := 103) (v := 6) dX4_shadowLength_103 (by decide) ?_
    refine sh_icmp_ge (pc := 105) (tgt := 148) dX4_shadowLength_105 (by decide) hb_1 (bd_lit (by decide)) (fun q_4 => ?_) (fun q_4 => ?_)
    · replace h := h.1 q_4
      refine sh_iload (pc := 148) dX4_shadowLength_148 rfl ?_
      exact k_iret dX4_shadowLength_150 rfl h
    · replace h := h.2 q_4
      refine sh_iload_n (pc := 108) dX4_shadowLength_108 rfl rfl ?_
      refine sh_aload_n (pc := 109) dX4_shadowLength_109 rfl rfl ?_
      refine sh_getR (pc := 110) dX4_shadowLength_110 fl_X4_12 rfl (is_P hb) (pt_P0 hb) ?_
      refine sh_getR (pc := 113) dX4_shadowLength_113 fl_X4_86 rfl (is_R hb) (pt_R0 hb) ?_
      refine sh_iload (pc := 116) dX4_shadowLength_116 rfl ?_
      obtain ⟨hi_5, h⟩ := h
      refine sh_iald (pc := 118) dX4_shadowLength_118 (is_P2 hb) (by decide) hi_5 ?_
      refine sh_iload (pc := 119) dX4_shadowLength_119 rfl ?_
      refine k_N3i (pc := 121) dX4_shadowLength_121 lk_X4_110 rfl h (fun v8 I6 h => ?_)
      refine k_istore (pc := 124) [some (.inr b), none, none, some (.inl y3), some (.inl y4), some (.inl y5), some (.inl y6), some (.inl v8)] dX4_shadowLength_124 rfl (by decide) ?_
      refine sh_iload (pc := 126) dX4_shadowLength_126 rfl ?_
      obtain ⟨hb_9, h⟩ := h
      refine sh_if_le (pc := 128) (tgt := 142) dX4_shadowLength_128 (by decide) hb_9  (fun q_10 => ?_) (fun q_10 => ?_)
      · replace h := h.1 q_10
        refine k_iinc (pc := 142) [some (.inr b), none, none, some (.inl y3), some (.inl y4), some (.inl y5), some (.inl (y6 + 1)), some (.inl v8)] dX4_shadowLength_142 rfl rfl (by decide) ?_
        refine sh_goto (pc := 145) (tgt := 89) dX4_shadowLength_145 (by decide) ?_
        exact sh_O.locals h (sub_some (sub_none (sub_none (sub_some (sub_some (sub_some (sub_some (sub_none sub_nil))))))))
      · replace h := h.2 q_10
        refine sh_iload (pc := 131) dX4_shadowLength_131 rfl ?_
        refine sh_iload (pc := 133) dX4_shadowLength_133 rfl ?_
        obtain ⟨hb_11, h⟩ := h
        refine sh_icmp_ge (pc := 135) (tgt := 142) dX4_shadowLength_135 (by decide) hb_9 hb_11 (fun q_12 => ?_) (fun q_12 => ?_)
        · replace h := h.1 q_12
          refine k_iinc (pc := 142) [some (.inr b), none, none, some (.inl y3), some (.inl y4), some (.inl y5), some (.inl (y6 + 1)), some (.inl v8)] dX4_shadowLength_142 rfl rfl (by decide) ?_
          refine sh_goto (pc := 145) (tgt := 89) dX4_shadowLength_145 (by decide) ?_
          exact sh_O.locals h (sub_some (sub_none (sub_none (sub_some (sub_some (sub_some (sub_some (sub_none sub_nil))))))))
        · replace h := h.2 q_12
          refine sh_iload (pc := 138) dX4_shadowLength_138 rfl ?_
          refine k_istore (pc := 140) [some (.inr b), none, none, some (.inl y3), some (.inl y4), some (.inl v8), some (.inl y6), some (.inl v8)] dX4_shadowLength_140 rfl (by decide) ?_
          refine k_iinc (pc := 142) [some (.inr b), none, none, some (.inl y3), some (.inl y4), some (.inl v8), some (.inl (y6 + 1)), some (.inl v8)] dX4_shadowLength_142 rfl rfl (by decide) ?_
          refine sh_goto (pc := 145) (tgt := 89) dX4_shadowLength_145 (by decide) ?_
          exact sh_O.locals h (sub_some (sub_none (sub_none (sub_some (sub_some (sub_some (sub_some (sub_none sub_nil))))))))
set_option maxRecDepth 100000 in
set_option maxHeartbeats 4000000 in
theorem eX4_shadowEnd {b : Nat} (hb : sh_isP b) {x1 : Int} {x2 : Int} {I : sh_Mem} {Q : Int → sh_Mem → Prop} (h : (cc mX4_shadowLength [.inr b, .inl x1, .inl x2] I (qi fun v3 I1 => (sh_Bd v3 ∧ ((v3 = 0 → Q (-5) I1) ∧ (¬ v3 = 0 → (cc mX5_has [.inr (b + 1), .inl x1] I1 (qi fun v8 I6 => ((v8 = 1 ∧ (cc mX6_isLamp [.inl x2] I6 (qi fun v11 I9 => ((v11 = 1 ∧ ((0 ≤ x1 ∧ x1 < (6 : Int)) ∧ ((0 ≤ x2 ∧ x2 < (3 : Int)) ∧ (cc mX6_opposite [.inl (I9 (b + 10) x2)] I9 (qi fun v16 I14 => (cc mX6_cellAlong [.inl (I9 (b + 2) x1), .inl v16, .inl v3] I14 (qi fun v19 I17 => Q v19 I17))))))) ∨ (v11 = 0 ∧ Q (-5) I9))))) ∨ (v8 = 0 ∧ Q (-5) I6)))))))))) : cc mX4_shadowEnd [.inr b, .inl x1, .inl x2] I (qi Q) := by
  refine sh_call cd_X4_shadowEnd.2.2.2 (Nat.le_of_ble_eq_true rfl) ?_
  show kk mX4_shadowEnd 0 [some (.inr b), some (.inl x1), some (.inl x2), none] [] I (qi Q)
  refine sh_aload_n (pc := 0) dX4_shadowEnd_0 rfl rfl ?_
  refine sh_iload_n (pc := 1) dX4_shadowEnd_1 rfl rfl ?_
  refine sh_iload_n (pc := 2) dX4_shadowEnd_2 rfl rfl ?_
  refine k_V2i (pc := 3) (is_P hb) dX4_shadowEnd_3 lk_X4_114 rfl h (fun v3 I1 h => ?_)
  refine k_istore_n (pc := 6) [some (.inr b), some (.inl x1), some (.inl x2), some (.inl v3)] dX4_shadowEnd_6 rfl rfl (by decide) ?_
  refine sh_iload_n (pc := 7) dX4_shadowEnd_7 rfl rfl ?_
  obtain ⟨hb_4, h⟩ := h
  refine sh_if_eq (pc := 8) (tgt := 29) dX4_shadowEnd_8 (by decide) hb_4  (fun q_5 => ?_) (fun q_5 => ?_)
  · replace h := h.1 q_5
    refine sh_bipush (pc := 29) (v := (-5)) dX4_shadowEnd_29 (by decide) ?_
    exact k_iret dX4_shadowEnd_31 rfl h
  · replace h := h.2 q_5
    refine sh_aload_n (pc := 11) dX4_shadowEnd_11 rfl rfl ?_
    refine sh_getR (pc := 12) dX4_shadowEnd_12 fl_X4_12 rfl (is_P hb) (pt_P0 hb) ?_
    refine sh_iload_n (pc := 15) dX4_shadowEnd_15 rfl rfl ?_
    refine k_V1i (pc := 16) (is_R hb) dX4_shadowEnd_16 lk_X4_82 rfl h (fun v8 I6 h => ?_)
    rcases h with ⟨rfl, h⟩ | ⟨rfl, h⟩
    · skip
      refine sh_if_eq (pc := 19) (tgt := 29) dX4_shadowEnd_19 (by decide) (bd_lit (by decide)) (fun qz => ?_) (fun qz => ?_)
      · exact absurd qz (by decide)
      · skip
        refine sh_iload_n (pc := 22) dX4_shadowEnd_22 rfl rfl ?_
        refine k_N1i (pc := 23) dX4_shadowEnd_23 lk_X4_100 rfl h (fun v11 I9 h => ?_)
        rcases h with ⟨rfl, h⟩ | ⟨rfl, h⟩
        · skip
          refine sh_if_ne (pc := 26) (tgt := 32) dX4_shadowEnd_26 (by decide) (bd_lit (by decide)) (fun qz => ?_) (fun qz => ?_)
          · skip
            refine sh_aload_n (pc := 32) dX4_shadowEnd_32 rfl rfl ?_
            refine sh_getR (pc := 33) dX4_shadowEnd_33 fl_X4_12 rfl (is_P hb) (pt_P0 hb) ?_
            refine sh_getR (pc := 36) dX4_shadowEnd_36 fl_X4_86 rfl (is_R hb) (pt_R0 hb) ?_
            refine sh_iload_n (pc := 39) dX4_shadowEnd_39 rfl rfl ?_
            obtain ⟨hi_12, h⟩ := h
            refine sh_iald (pc := 40) dX4_shadowEnd_40 (is_P2 hb) (by decide) hi_12 ?_
            refine sh_aload_n (pc := 41) dX4_shadowEnd_41 rfl rfl ?_
            refine sh_getR (pc := 42) dX4_shadowEnd_42 fl_X4_21 rfl (is_P hb) (pt_P1 hb) ?_
            refine sh_getR (pc := 45) dX4_shadowEnd_45 fl_X4_103 rfl (is_L hb) (pt_L0 hb) ?_
            refine sh_iload_n (pc := 48) dX4_shadowEnd_48 rfl rfl ?_
            obtain ⟨hi_13, h⟩ := h
            refine sh_iald (pc := 49) dX4_shadowEnd_49 (is_P10 hb) (by decide) hi_13 ?_
            refine k_N1i (pc := 50) dX4_shadowEnd_50 lk_X4_106 rfl h (fun v16 I14 h => ?_)
            refine sh_iload_n (pc := 53) dX4_shadowEnd_53 rfl rfl ?_
            refine k_N3i (pc := 54) dX4_shadowEnd_54 lk_X4_137 rfl h (fun v19 I17 h => ?_)
            exact k_iret dX4_shadowEnd_57 rfl h
          · exact absurd qz (by decide)
        · skip
          refine sh_if_ne (pc := 26) (tgt := 32) dX4_shadowEnd_26 (by decide) (bd_lit (by decide)) (fun qz => ?_) (fun qz => ?_)
          · exact absurd qz (by decide)
          · skip
            refine sh_bipush (pc := 29) (v := (-5)) dX4_shadowEnd_29 (by decide) ?_
            exact k_iret dX4_shadowEnd_31 rfl h
    · skip
      refine sh_if_eq (pc := 19) (tgt := 29) dX4_shadowEnd_19 (by decide) (bd_lit (by decide)) (fun qz => ?_) (fun qz => ?_)
      · skip
        refine sh_bipush (pc := 29) (v := (-5)) dX4_shadowEnd_29 (by decide) ?_
        exact k_iret dX4_shadowEnd_31 rfl h
      · exact absurd qz (by decide)
set_option maxRecDepth 100000 in
set_option maxHeartbeats 4000000 in
theorem eX4_hasShadow {b : Nat} (hb : sh_isP b) {x1 : Int} {I : sh_Mem} {Q : Int → sh_Mem → Prop} (h : kk mX4_hasShadow 2 [some (.inr b), some (.inl x1), some (.inl 0)] [] I (qi Q)) : cc mX4_hasShadow [.inr b, .inl x1] I (qi Q) := by
  refine sh_call cd_X4_hasShadow.2.2.2 (Nat.le_of_ble_eq_true rfl) ?_
  show kk mX4_hasShadow 0 [some (.inr b), some (.inl x1), none] [] I (qi Q)
  refine sh_iconst (pc := 0) (v := 0) dX4_hasShadow_0 rfl ?_
  refine k_istore_n (pc := 1) [some (.inr b), some (.inl x1), some (.inl 0)] dX4_hasShadow_1 rfl rfl (by decide) ?_
  exact sh_O.locals h (sub_some (sub_some (sub_some sub_nil)))
set_option maxRecDepth 100000 in
set_option maxHeartbeats 4000000 in
theorem lX4_hasShadow_2 {b : Nat} (hb : sh_isP b) {y1 : Int} {y2 : Int} {I : sh_Mem} {Q : Int → sh_Mem → Prop} (h : (sh_Bd y2 ∧ ((3 ≤ y2 → Q 0 I) ∧ (y2 < 3 → (cc mX4_shadowLength [.inr b, .inl y1, .inl y2] I (qi fun v5 I3 => (sh_Bd v5 ∧ ((v5 ≤ 0 → kk mX4_hasShadow 2 [some (.inr b), some (.inl y1), some (.inl (y2 + 1))] [] I3 (qi Q)) ∧ (0 < v5 → Q 1 I3))))))))) : kk mX4_hasShadow 2 [some (.inr b), some (.inl y1), some (.inl y2)] [] I (qi Q) := by
  refine sh_iload_n (pc := 2) dX4_hasShadow_2 rfl rfl ?_
  refine sh_iconst (pc := 3) (v := 3) dX4_hasShadow_3 rfl ?_
  obtain ⟨hb_1, h⟩ := h
  refine sh_icmp_ge (pc := 4) (tgt := 24) dX4_hasShadow_4 (by decide) hb_1 (bd_lit (by decide)) (fun q_2 => ?_) (fun q_2 => ?_)
  · replace h := h.1 q_2
    refine sh_iconst (pc := 24) (v := 0) dX4_hasShadow_24 rfl ?_
    exact k_zret dX4_hasShadow_25 rfl (Or.inl rfl) h
  · replace h := h.2 q_2
    refine sh_aload_n (pc := 7) dX4_hasShadow_7 rfl rfl ?_
    refine sh_iload_n (pc := 8) dX4_hasShadow_8 rfl rfl ?_
    refine sh_iload_n (pc := 9) dX4_hasShadow_9 rfl rfl ?_
    refine k_V2i (pc := 10) (is_P hb) dX4_hasShadow_10 lk_X4_114 rfl h (fun v5 I3 h => ?_)
    obtain ⟨hb_6, h⟩ := h
    refine sh_if_le (pc := 13) (tgt := 18) dX4_hasShadow_13 (by decide) hb_6  (fun q_7 => ?_) (fun q_7 => ?_)
    · replace h := h.1 q_7
      refine k_iinc (pc := 18) [some (.inr b), some (.inl y1), some (.inl (y2 + 1))] dX4_hasShadow_18 rfl rfl (by decide) ?_
      refine sh_goto (pc := 21) (tgt := 2) dX4_hasShadow_21 (by decide) ?_
      exact sh_O.locals h (sub_some (sub_some (sub_some sub_nil)))
    · replace h := h.2 q_7
      refine sh_iconst (pc := 16) (v := 1) dX4_hasShadow_16 rfl ?_
      exact k_zret dX4_hasShadow_17 rfl (Or.inr rfl) h
set_option maxRecDepth 100000 in
set_option maxHeartbeats 4000000 in
theorem eX4_runnersWithoutShadow {b : Nat} (hb : sh_isP b) {I : sh_Mem} {Q : Int → sh_Mem → Prop} (h : kk mX4_runnersWithoutShadow 4 [some (.inr b), some (.inl 0), some (.inl 0)] [] I (qi Q)) : cc mX4_runnersWithoutShadow [.inr b] I (qi Q) := by
  refine sh_call cd_X4_runnersWithoutShadow.2.2.2 (Nat.le_of_ble_eq_true rfl) ?_
  show kk mX4_runnersWithoutShadow 0 [some (.inr b), none, none] [] I (qi Q)
  refine sh_iconst (pc := 0) (v := 0) dX4_runnersWithoutShadow_0 rfl ?_
  refine k_istore_n (pc := 1) [some (.inr b), some (.inl 0), none] dX4_runnersWithoutShadow_1 rfl rfl (by decide) ?_
  refine sh_iconst (pc := 2) (v := 0) dX4_runnersWithoutShadow_2 rfl ?_
  refine k_istore_n (pc := 3) [some (.inr b), some (.inl 0), some (.inl 0)] dX4_runnersWithoutShadow_3 rfl rfl (by decide) ?_
  exact sh_O.locals h (sub_some (sub_some (sub_some sub_nil)))
set_option maxRecDepth 100000 in
set_option maxHeartbeats 4000000 in
theorem lX4_runnersWithoutShadow_4 {b : Nat} (hb : sh_isP b) {y1 : Int} {y2 : Int} {I : sh_Mem} {Q : Int → sh_Mem → Prop} (h : (sh_Bd y2 ∧ (sh_Bd (I (b + 1) 7) ∧ (((I (b + 1) 7) ≤ y2 → Q y1 I) ∧ (y2 < (I (b + 1) 7) → (cc mX4_hasShadow [.inr b, .inl y2] I (qi fun v6 I4 => ((v6 = 1 ∧ kk mX4_runnersWithoutShadow 4 [some (.inr b), some (.inl y1), some (.inl (y2 + 1))] [] I4 (qi Q)) ∨ (v6 = 0 ∧ kk mX4_runnersWithoutShadow 4 [some (.inr b), some (.inl (y1 + 1)), some (.inl (y2 + 1))] [] I4 (qi Q)))))))))) : kk mX4_runnersWithoutShadow 4 [some (.inr b), some (.inl y1), some (.inl y2)] [] I (qi Q) := by
  refine sh_iload_n (pc := 4) dX4_runnersWithoutShadow_4 rfl rfl ?_
  refine sh_aload_n (pc := 5) dX4_runnersWithoutShadow_5 rfl rfl ?_
  refine sh_getR (pc := 6) dX4_runnersWithoutShadow_6 fl_X4_12 rfl (is_P hb) (pt_P0 hb) ?_
  refine sh_getI (pc := 9) (g := 7) dX4_runnersWithoutShadow_9 fl_X4_134 rfl (is_R hb) rfl ?_
  obtain ⟨hb_1, h⟩ := h
  obtain ⟨hb_2, h⟩ := h
  refine sh_icmp_ge (pc := 12) (tgt := 32) dX4_runnersWithoutShadow_12 (by decide) hb_1 hb_2 (fun q_3 => ?_) (fun q_3 => ?_)
  · replace h := h.1 q_3
    refine sh_iload_n (pc := 32) dX4_runnersWithoutShadow_32 rfl rfl ?_
    exact k_iret dX4_runnersWithoutShadow_33 rfl h
  · replace h := h.2 q_3
    refine sh_aload_n (pc := 15) dX4_runnersWithoutShadow_15 rfl rfl ?_
    refine sh_iload_n (pc := 16) dX4_runnersWithoutShadow_16 rfl rfl ?_
    refine k_V1i (pc := 17) (is_P hb) dX4_runnersWithoutShadow_17 lk_X4_140 rfl h (fun v6 I4 h => ?_)
    rcases h with ⟨rfl, h⟩ | ⟨rfl, h⟩
    · skip
      refine sh_if_ne (pc := 20) (tgt := 26) dX4_runnersWithoutShadow_20 (by decide) (bd_lit (by decide)) (fun qz => ?_) (fun qz => ?_)
      · skip
        refine k_iinc (pc := 26) [some (.inr b), some (.inl y1), some (.inl (y2 + 1))] dX4_runnersWithoutShadow_26 rfl rfl (by decide) ?_
        refine sh_goto (pc := 29) (tgt := 4) dX4_runnersWithoutShadow_29 (by decide) ?_
        exact sh_O.locals h (sub_some (sub_some (sub_some sub_nil)))
      · exact absurd qz (by decide)
    · skip
      refine sh_if_ne (pc := 20) (tgt := 26) dX4_runnersWithoutShadow_20 (by decide) (bd_lit (by decide)) (fun qz => ?_) (fun qz => ?_)
      · exact absurd qz (by decide)
      · skip
        refine k_iinc (pc := 23) [some (.inr b), some (.inl (y1 + 1)), some (.inl y2)] dX4_runnersWithoutShadow_23 rfl rfl (by decide) ?_
        refine k_iinc (pc := 26) [some (.inr b), some (.inl (y1 + 1)), some (.inl (y2 + 1))] dX4_runnersWithoutShadow_26 rfl rfl (by decide) ?_
        refine sh_goto (pc := 29) (tgt := 4) dX4_runnersWithoutShadow_29 (by decide) ?_
        exact sh_O.locals h (sub_some (sub_some (sub_some sub_nil)))
set_option maxRecDepth 100000 in
set_option maxHeartbeats 4000000 in
theorem eX4_shadowerOf {b : Nat} (hb : sh_isP b) {x1 : Int} {x2 : Int} {I : sh_Mem} {Q : Int → sh_Mem → Prop} (h : (cc mX6_isCell [.inl x1] I (qi fun v3 I1 => ((v3 = 1 ∧ (cc mX6_isLamp [.inl x2] I1 (qi fun v6 I4 => ((v6 = 1 ∧ ((0 ≤ x2 ∧ x2 < (3 : Int)) ∧ (sh_Bd (I4 (b + 13) x2) ∧ ((¬ (I4 (b + 13) x2) = 0 → (cc mX6_cellsToEdge [.inl x1, .inl (I4 (b + 10) x2)] I4 (qi fun v12 I10 => kk mX4_shadowerOf 49 [some (.inr b), some (.inl x1), some (.inl x2), some (.inl (I4 (b + 10) x2)), some (.inl v12), some (.inl 1), none] [] I10 (qi Q)))) ∧ ((I4 (b + 13) x2) = 0 → Q (-5) I4))))) ∨ (v6 = 0 ∧ Q (-5) I4))))) ∨ (v3 = 0 ∧ Q (-5) I1))))) : cc mX4_shadowerOf [.inr b, .inl x1, .inl x2] I (qi Q) := by
  refine sh_call cd_X4_shadowerOf.2.2.2 (Nat.le_of_ble_eq_true rfl) ?_
  show kk mX4_shadowerOf 0 [some (.inr b), some (.inl x1), some (.inl x2), none, none, none, none] [] I (qi Q)
  refine sh_iload_n (pc := 0) dX4_shadowerOf_0 rfl rfl ?_
  refine k_N1i (pc := 1) dX4_shadowerOf_1 lk_X4_143 rfl h (fun v3 I1 h => ?_)
  rcases h with ⟨rfl, h⟩ | ⟨rfl, h⟩
  · skip
    refine sh_if_eq (pc := 4) (tgt := 26) dX4_shadowerOf_4 (by decide) (bd_lit (by decide)) (fun qz => ?_) (fun qz => ?_)
    · exact absurd qz (by decide)
    · skip
      refine sh_iload_n (pc := 7) dX4_shadowerOf_7 rfl rfl ?_
      refine k_N1i (pc := 8) dX4_shadowerOf_8 lk_X4_100 rfl h (fun v6 I4 h => ?_)
      rcases h with ⟨rfl, h⟩ | ⟨rfl, h⟩
      · skip
        refine sh_if_eq (pc := 11) (tgt := 26) dX4_shadowerOf_11 (by decide) (bd_lit (by decide)) (fun qz => ?_) (fun qz => ?_)
        · exact absurd qz (by decide)
        · skip
          refine sh_aload_n (pc := 14) dX4_shadowerOf_14 rfl rfl ?_
          refine sh_getR (pc := 15) dX4_shadowerOf_15 fl_X4_21 rfl (is_P hb) (pt_P1 hb) ?_
          refine sh_getR (pc := 18) dX4_shadowerOf_18 fl_X4_117 rfl (is_L hb) (pt_L3 hb) ?_
          refine sh_iload_n (pc := 21) dX4_shadowerOf_21 rfl rfl ?_
          obtain ⟨hi_7, h⟩ := h
          refine sh_iald (pc := 22) dX4_shadowerOf_22 (is_P13 hb) (by decide) hi_7 ?_
          obtain ⟨hb_8, h⟩ := h
          refine sh_if_ne (pc := 23) (tgt := 29) dX4_shadowerOf_23 (by decide) hb_8  (fun q_9 => ?_) (fun q_9 => ?_)
          · replace h := h.1 q_9
            refine sh_aload_n (pc := 29) dX4_shadowerOf_29 rfl rfl ?_
            refine sh_getR (pc := 30) dX4_shadowerOf_30 fl_X4_21 rfl (is_P hb) (pt_P1 hb) ?_
            refine sh_getR (pc := 33) dX4_shadowerOf_33 fl_X4_103 rfl (is_L hb) (pt_L0 hb) ?_
            refine sh_iload_n (pc := 36) dX4_shadowerOf_36 rfl rfl ?_
            refine sh_iald (pc := 37) dX4_shadowerOf_37 (is_P10 hb) (by decide) hi_7 ?_
            refine k_istore_n (pc := 38) [some (.inr b), some (.inl x1), some (.inl x2), some (.inl (I4 (b + 10) x2)), none, none, none] dX4_shadowerOf_38 rfl rfl (by decide) ?_
            refine sh_iload_n (pc := 39) dX4_shadowerOf_39 rfl rfl ?_
            refine sh_iload_n (pc := 40) dX4_shadowerOf_40 rfl rfl ?_
            refine k_N2i (pc := 41) dX4_shadowerOf_41 lk_X4_126 rfl h (fun v12 I10 h => ?_)
            refine k_istore (pc := 44) [some (.inr b), some (.inl x1), some (.inl x2), some (.inl (I4 (b + 10) x2)), some (.inl v12), none, none] dX4_shadowerOf_44 rfl (by decide) ?_
            refine sh_iconst (pc := 46) (v := 1) dX4_shadowerOf_46 rfl ?_
            refine k_istore (pc := 47) [some (.inr b), some (.inl x1), some (.inl x2), some (.inl (I4 (b + 10) x2)), some (.inl v12), some (.inl 1), none] dX4_shadowerOf_47 rfl (by decide) ?_
            exact sh_O.locals h (sub_some (sub_some (sub_some (sub_some (sub_some (sub_some (sub_none sub_nil)))))))
          · replace h := h.2 q_9
            refine sh_bipush (pc := 26) (v := (-5)) dX4_shadowerOf_26 (by decide) ?_
            exact k_iret dX4_shadowerOf_28 rfl h
      · skip
        refine sh_if_eq (pc := 11) (tgt := 26) dX4_shadowerOf_11 (by decide) (bd_lit (by decide)) (fun qz => ?_) (fun qz => ?_)
        · skip
          refine sh_bipush (pc := 26) (v := (-5)) dX4_shadowerOf_26 (by decide) ?_
          exact k_iret dX4_shadowerOf_28 rfl h
        · exact absurd qz (by decide)
  · skip
    refine sh_if_eq (pc := 4) (tgt := 26) dX4_shadowerOf_4 (by decide) (bd_lit (by decide)) (fun qz => ?_) (fun qz => ?_)
    · skip
      refine sh_bipush (pc := 26) (v := (-5)) dX4_shadowerOf_26 (by decide) ?_
      exact k_iret dX4_shadowerOf_28 rfl h
    · exact absurd qz (by decide)
set_option maxRecDepth 100000 in
set_option maxHeartbeats 4000000 in
theorem lX4_shadowerOf_49 {b : Nat} (hb : sh_isP b) {y1 : Int} {y2 : Int} {y3 : Int} {y4 : Int} {y5 : Int} {I : sh_Mem} {Q : Int → sh_Mem → Prop} (h : (sh_Bd y5 ∧ (sh_Bd y4 ∧ ((y4 < y5 → Q (-5) I) ∧ (y5 ≤ y4 → (cc mX6_cellAlong [.inl y1, .inl y3, .inl y5] I (qi fun v6 I4 => (cc mX5_standingOn [.inr (b + 1), .inl v6] I4 (qi fun v9 I7 => (cc mX5_has [.inr (b + 1), .inl v9] I7 (qi fun v12 I10 => ((v12 = 1 ∧ ((0 ≤ v9 ∧ v9 < (6 : Int)) ∧ ((0 ≤ y2 ∧ y2 < (3 : Int)) ∧ (sh_Bd ((I10 (b + 3) v9) * (I10 (b + 11) y2)) ∧ ((((I10 (b + 3) v9) * (I10 (b + 11) y2)) < y5 → Q (-5) I10) ∧ (y5 ≤ ((I10 (b + 3) v9) * (I10 (b + 11) y2)) → Q v9 I10)))))) ∨ (v12 = 0 ∧ kk mX4_shadowerOf 49 [some (.inr b), some (.inl y1), some (.inl y2), some (.inl y3), some (.inl y4), some (.inl (y5 + 1)), none] [] I10 (qi Q)))))))))))))) : kk mX4_shadowerOf 49 [some (.inr b), some (.inl y1), some (.inl y2), some (.inl y3), some (.inl y4), some (.inl y5), none] [] I (qi Q) := by
  refine sh_iload (pc := 49) dX4_shadowerOf_49 rfl ?_
  refine sh_iload (pc := 51) dX4_shadowerOf_51 rfl ?_
  obtain ⟨hb_1, h⟩ := h
  obtain ⟨hb_2, h⟩ := h
  refine sh_icmp_gt (pc := 53) (tgt := 123) dX4_shadowerOf_53 (by decide) hb_1 hb_2 (fun q_3 => ?_) (fun q_3 => ?_)
  · replace h := h.1 q_3
    refine sh_bipush (pc := 123) (v := (-5)) dX4_shadowerOf_123 (by decide) ?_
    exact k_iret dX4_shadowerOf_125 rfl h
  · replace h := h.2 q_3
    refine sh_aload_n (pc := 56) dX4_shadowerOf_56 rfl rfl ?_
    refine sh_getR (pc := 57) dX4_shadowerOf_57 fl_X4_12 rfl (is_P hb) (pt_P0 hb) ?_
    refine sh_iload_n (pc := 60) dX4_shadowerOf_60 rfl rfl ?_
    refine sh_iload_n (pc := 61) dX4_shadowerOf_61 rfl rfl ?_
    refine sh_iload (pc := 62) dX4_shadowerOf_62 rfl ?_
    refine k_N3i (pc := 64) dX4_shadowerOf_64 lk_X4_137 rfl h (fun v6 I4 h => ?_)
    refine k_V1i (pc := 67) (is_R hb) dX4_shadowerOf_67 lk_X4_146 rfl h (fun v9 I7 h => ?_)
    refine k_istore (pc := 70) [some (.inr b), some (.inl y1), some (.inl y2), some (.inl y3), some (.inl y4), some (.inl y5), some (.inl v9)] dX4_shadowerOf_70 rfl (by decide) ?_
    refine sh_aload_n (pc := 72) dX4_shadowerOf_72 rfl rfl ?_
    refine sh_getR (pc := 73) dX4_shadowerOf_73 fl_X4_12 rfl (is_P hb) (pt_P0 hb) ?_
    refine sh_iload (pc := 76) dX4_shadowerOf_76 rfl ?_
    refine k_V1i (pc := 78) (is_R hb) dX4_shadowerOf_78 lk_X4_82 rfl h (fun v12 I10 h => ?_)
    rcases h with ⟨rfl, h⟩ | ⟨rfl, h⟩
    · skip
      refine sh_if_eq (pc := 81) (tgt := 117) dX4_shadowerOf_81 (by decide) (bd_lit (by decide)) (fun qz => ?_) (fun qz => ?_)
      · exact absurd qz (by decide)
      · skip
        refine sh_iload (pc := 84) dX4_shadowerOf_84 rfl ?_
        refine sh_aload_n (pc := 86) dX4_shadowerOf_86 rfl rfl ?_
        refine sh_getR (pc := 87) dX4_shadowerOf_87 fl_X4_12 rfl (is_P hb) (pt_P0 hb) ?_
        refine sh_getR (pc := 90) dX4_shadowerOf_90 fl_X4_120 rfl (is_R hb) (pt_R1 hb) ?_
        refine sh_iload (pc := 93) dX4_shadowerOf_93 rfl ?_
        obtain ⟨hi_13, h⟩ := h
        refine sh_iald (pc := 95) dX4_shadowerOf_95 (is_P3 hb) (by decide) hi_13 ?_
        refine sh_aload_n (pc := 96) dX4_shadowerOf_96 rfl rfl ?_
        refine sh_getR (pc := 97) dX4_shadowerOf_97 fl_X4_21 rfl (is_P hb) (pt_P1 hb) ?_
        refine sh_getR (pc := 100) dX4_shadowerOf_100 fl_X4_123 rfl (is_L hb) (pt_L1 hb) ?_
        refine sh_iload_n (pc := 103) dX4_shadowerOf_103 rfl rfl ?_
        obtain ⟨hi_14, h⟩ := h
        refine sh_iald (pc := 104) dX4_shadowerOf_104 (is_P11 hb) (by decide) hi_14 ?_
        refine sh_imul (pc := 105) dX4_shadowerOf_105 ?_
        obtain ⟨hb_15, h⟩ := h
        refine sh_icmp_gt (pc := 106) (tgt := 114) dX4_shadowerOf_106 (by decide) hb_1 hb_15 (fun q_16 => ?_) (fun q_16 => ?_)
        · replace h := h.1 q_16
          refine sh_bipush (pc := 114) (v := (-5)) dX4_shadowerOf_114 (by decide) ?_
          exact k_iret dX4_shadowerOf_116 rfl h
        · replace h := h.2 q_16
          refine sh_iload (pc := 109) dX4_shadowerOf_109 rfl ?_
          refine sh_goto (pc := 111) (tgt := 116) dX4_shadowerOf_111 (by decide) ?_
          exact k_iret dX4_shadowerOf_116 rfl h
    · skip
      refine sh_if_eq (pc := 81) (tgt := 117) dX4_shadowerOf_81 (by decide) (bd_lit (by decide)) (fun qz => ?_) (fun qz => ?_)
      · skip
        refine k_iinc (pc := 117) [some (.inr b), some (.inl y1), some (.inl y2), some (.inl y3), some (.inl y4), some (.inl (y5 + 1)), some (.inl v9)] dX4_shadowerOf_117 rfl rfl (by decide) ?_
        refine sh_goto (pc := 120) (tgt := 49) dX4_shadowerOf_120 (by decide) ?_
        exact sh_O.locals h (sub_some (sub_some (sub_some (sub_some (sub_some (sub_some (sub_none sub_nil)))))))
      · exact absurd qz (by decide)
set_option maxRecDepth 100000 in
set_option maxHeartbeats 4000000 in
theorem eX4_darkenShadowsOf {b : Nat} (hb : sh_isP b) {x1 : Int} {I : sh_Mem} {Q : sh_Mem → Prop} (h : kk mX4_darkenShadowsOf 2 [some (.inr b), some (.inl x1), some (.inr 114), some (.inl 0)] [] I (qv Q)) : cc mX4_darkenShadowsOf [.inr b, .inl x1, .inr 114] I (qv Q) := by
  refine sh_call cd_X4_darkenShadowsOf.2.2.2 (Nat.le_of_ble_eq_true rfl) ?_
  show kk mX4_darkenShadowsOf 0 [some (.inr b), some (.inl x1), some (.inr 114), none] [] I (qv Q)
  refine sh_iconst (pc := 0) (v := 0) dX4_darkenShadowsOf_0 rfl ?_
  refine k_istore_n (pc := 1) [some (.inr b), some (.inl x1), some (.inr 114), some (.inl 0)] dX4_darkenShadowsOf_1 rfl rfl (by decide) ?_
  exact sh_O.locals h (sub_some (sub_some (sub_some (sub_some sub_nil))))
set_option maxRecDepth 100000 in
set_option maxHeartbeats 4000000 in
theorem lX4_darkenShadowsOf_2 {b : Nat} (hb : sh_isP b) {y1 : Int} {y3 : Int} {I : sh_Mem} {Q : sh_Mem → Prop} (h : (sh_Bd y3 ∧ ((3 ≤ y3 → Q I) ∧ (y3 < 3 → (cc mX4_darkenShadow [.inr b, .inl y1, .inl y3, .inr 114] I (qv fun I3 => kk mX4_darkenShadowsOf 2 [some (.inr b), some (.inl y1), some (.inr 114), some (.inl (y3 + 1))] [] I3 (qv Q))))))) : kk mX4_darkenShadowsOf 2 [some (.inr b), some (.inl y1), some (.inr 114), some (.inl y3)] [] I (qv Q) := by
  refine sh_iload_n (pc := 2) dX4_darkenShadowsOf_2 rfl rfl ?_
  refine sh_iconst (pc := 3) (v := 3) dX4_darkenShadowsOf_3 rfl ?_
  obtain ⟨hb_1, h⟩ := h
  refine sh_icmp_ge (pc := 4) (tgt := 20) dX4_darkenShadowsOf_4 (by decide) hb_1 (bd_lit (by decide)) (fun q_2 => ?_) (fun q_2 => ?_)
  · replace h := h.1 q_2
    exact k_vret dX4_darkenShadowsOf_20 rfl h
  · replace h := h.2 q_2
    refine sh_aload_n (pc := 7) dX4_darkenShadowsOf_7 rfl rfl ?_
    refine sh_iload_n (pc := 8) dX4_darkenShadowsOf_8 rfl rfl ?_
    refine sh_iload_n (pc := 9) dX4_darkenShadowsOf_9 rfl rfl ?_
    refine sh_aload_n (pc := 10) dX4_darkenShadowsOf_10 rfl rfl ?_
    refine k_V3v (pc := 11) (is_P hb) dX4_darkenShadowsOf_11 lk_X4_149 rfl h (fun I3 h => ?_)
    refine k_iinc (pc := 14) [some (.inr b), some (.inl y1), some (.inr 114), some (.inl (y3 + 1))] dX4_darkenShadowsOf_14 rfl rfl (by decide) ?_
    refine sh_goto (pc := 17) (tgt := 2) dX4_darkenShadowsOf_17 (by decide) ?_
    exact sh_O.locals h (sub_some (sub_some (sub_some (sub_some sub_nil))))
set_option maxRecDepth 100000 in
set_option maxHeartbeats 4000000 in
theorem eX4_darkenShadow {b : Nat} (hb : sh_isP b) {x1 : Int} {x2 : Int} {I : sh_Mem} {Q : sh_Mem → Prop} (h : (cc mX4_shadowLength [.inr b, .inl x1, .inl x2] I (qi fun v3 I1 => (sh_Bd v3 ∧ ((v3 = 0 → Q I1) ∧ (¬ v3 = 0 → (cc mX5_has [.inr (b + 1), .inl x1] I1 (qi fun v8 I6 => ((v8 = 1 ∧ (cc mX6_isLamp [.inl x2] I6 (qi fun v11 I9 => ((v11 = 1 ∧ ((0 ≤ x1 ∧ x1 < (6 : Int)) ∧ ((0 ≤ x2 ∧ x2 < (3 : Int)) ∧ (cc mX6_opposite [.inl (I9 (b + 10) x2)] I9 (qi fun v16 I14 => kk mX4_darkenShadow 60 [none, none, none, some (.inr 114), some (.inl v3), some (.inl (I9 (b + 2) x1)), some (.inl v16), some (.inl 1)] [] I14 (qv Q)))))) ∨ (v11 = 0 ∧ Q I9))))) ∨ (v8 = 0 ∧ Q I6)))))))))) : cc mX4_darkenShadow [.inr b, .inl x1, .inl x2, .inr 114] I (qv Q) := by
  refine sh_call cd_X4_darkenShadow.2.2.2 (Nat.le_of_ble_eq_true rfl) ?_
  show kk mX4_darkenShadow 0 [some (.inr b), some (.inl x1), some (.inl x2), some (.inr 114), none, none, none, none] [] I (qv Q)
  refine sh_aload_n (pc := 0) dX4_darkenShadow_0 rfl rfl ?_
  refine sh_iload_n (pc := 1) dX4_darkenShadow_1 rfl rfl ?_
  refine sh_iload_n (pc := 2) dX4_darkenShadow_2 rfl rfl ?_
  refine k_V2i (pc := 3) (is_P hb) dX4_darkenShadow_3 lk_X4_114 rfl h (fun v3 I1 h => ?_)
  refine k_istore (pc := 6) [some (.inr b), some (.inl x1), some (.inl x2), some (.inr 114), some (.inl v3), none, none, none] dX4_darkenShadow_6 rfl (by decide) ?_
  refine sh_iload (pc := 8) dX4_darkenShadow_8 rfl ?_
  obtain ⟨hb_4, h⟩ := h
  refine sh_if_eq (pc := 10) (tgt := 31) dX4_darkenShadow_10 (by decide) hb_4  (fun q_5 => ?_) (fun q_5 => ?_)
  · replace h := h.1 q_5
    exact k_vret dX4_darkenShadow_31 rfl h
  · replace h := h.2 q_5
    refine sh_aload_n (pc := 13) dX4_darkenShadow_13 rfl rfl ?_
    refine sh_getR (pc := 14) dX4_darkenShadow_14 fl_X4_12 rfl (is_P hb) (pt_P0 hb) ?_
    refine sh_iload_n (pc := 17) dX4_darkenShadow_17 rfl rfl ?_
    refine k_V1i (pc := 18) (is_R hb) dX4_darkenShadow_18 lk_X4_82 rfl h (fun v8 I6 h => ?_)
    rcases h with ⟨rfl, h⟩ | ⟨rfl, h⟩
    · skip
      refine sh_if_eq (pc := 21) (tgt := 31) dX4_darkenShadow_21 (by decide) (bd_lit (by decide)) (fun qz => ?_) (fun qz => ?_)
      · exact absurd qz (by decide)
      · skip
        refine sh_iload_n (pc := 24) dX4_darkenShadow_24 rfl rfl ?_
        refine k_N1i (pc := 25) dX4_darkenShadow_25 lk_X4_100 rfl h (fun v11 I9 h => ?_)
        rcases h with ⟨rfl, h⟩ | ⟨rfl, h⟩
        · skip
          refine sh_if_ne (pc := 28) (tgt := 32) dX4_darkenShadow_28 (by decide) (bd_lit (by decide)) (fun qz => ?_) (fun qz => ?_)
          · skip
            refine sh_aload_n (pc := 32) dX4_darkenShadow_32 rfl rfl ?_
            refine sh_getR (pc := 33) dX4_darkenShadow_33 fl_X4_12 rfl (is_P hb) (pt_P0 hb) ?_
            refine sh_getR (pc := 36) dX4_darkenShadow_36 fl_X4_86 rfl (is_R hb) (pt_R0 hb) ?_
            refine sh_iload_n (pc := 39) dX4_darkenShadow_39 rfl rfl ?_
            obtain ⟨hi_12, h⟩ := h
            refine sh_iald (pc := 40) dX4_darkenShadow_40 (is_P2 hb) (by decide) hi_12 ?_
            refine k_istore (pc := 41) [some (.inr b), some (.inl x1), some (.inl x2), some (.inr 114), some (.inl v3), some (.inl (I9 (b + 2) x1)), none, none] dX4_darkenShadow_41 rfl (by decide) ?_
            refine sh_aload_n (pc := 43) dX4_darkenShadow_43 rfl rfl ?_
            refine sh_getR (pc := 44) dX4_darkenShadow_44 fl_X4_21 rfl (is_P hb) (pt_P1 hb) ?_
            refine sh_getR (pc := 47) dX4_darkenShadow_47 fl_X4_103 rfl (is_L hb) (pt_L0 hb) ?_
            refine sh_iload_n (pc := 50) dX4_darkenShadow_50 rfl rfl ?_
            obtain ⟨hi_13, h⟩ := h
            refine sh_iald (pc := 51) dX4_darkenShadow_51 (is_P10 hb) (by decide) hi_13 ?_
            refine k_N1i (pc := 52) dX4_darkenShadow_52 lk_X4_106 rfl h (fun v16 I14 h => ?_)
            refine k_istore (pc := 55) [some (.inr b), some (.inl x1), some (.inl x2), some (.inr 114), some (.inl v3), some (.inl (I9 (b + 2) x1)), some (.inl v16), none] dX4_darkenShadow_55 rfl (by decide) ?_
            refine sh_iconst (pc := 57) (v := 1) dX4_darkenShadow_57 rfl ?_
            refine k_istore (pc := 58) [some (.inr b), some (.inl x1), some (.inl x2), some (.inr 114), some (.inl v3), some (.inl (I9 (b + 2) x1)), some (.inl v16), some (.inl 1)] dX4_darkenShadow_58 rfl (by decide) ?_
            exact sh_O.locals h (sub_none (sub_none (sub_none (sub_some (sub_some (sub_some (sub_some (sub_some sub_nil))))))))
          · exact absurd qz (by decide)
        · skip
          refine sh_if_ne (pc := 28) (tgt := 32) dX4_darkenShadow_28 (by decide) (bd_lit (by decide)) (fun qz => ?_) (fun qz => ?_)
          · exact absurd qz (by decide)
          · skip
            exact k_vret dX4_darkenShadow_31 rfl h
    · skip
      refine sh_if_eq (pc := 21) (tgt := 31) dX4_darkenShadow_21 (by decide) (bd_lit (by decide)) (fun qz => ?_) (fun qz => ?_)
      · skip
        exact k_vret dX4_darkenShadow_31 rfl h
      · exact absurd qz (by decide)
set_option maxRecDepth 100000 in
set_option maxHeartbeats 4000000 in
theorem lX4_darkenShadow_60 {b : Nat} (hb : sh_isP b) {y4 : Int} {y5 : Int} {y6 : Int} {y7 : Int} {I : sh_Mem} {Q : sh_Mem → Prop} (h : (sh_Bd y7 ∧ (sh_Bd y4 ∧ ((y4 < y7 → Q I) ∧ (y7 ≤ y4 → (cc mX6_cellAlong [.inl y5, .inl y6, .inl y7] I (qi fun v6 I4 => (cc mX0_darken [.inr 114, .inl v6] I4 (qv fun I7 => kk mX4_darkenShadow 60 [none, none, none, some (.inr 114), some (.inl y4), some (.inl y5), some (.inl y6), some (.inl (y7 + 1))] [] I7 (qv Q)))))))))) : kk mX4_darkenShadow 60 [none, none, none, some (.inr 114), some (.inl y4), some (.inl y5), some (.inl y6), some (.inl y7)] [] I (qv Q) := by
  refine sh_iload (pc := 60) dX4_darkenShadow_60 rfl ?_
  refine sh_iload (pc := 62) dX4_darkenShadow_62 rfl ?_
  obtain ⟨hb_1, h⟩ := h
  obtain ⟨hb_2, h⟩ := h
  refine sh_icmp_gt (pc := 64) (tgt := 86) dX4_darkenShadow_64 (by decide) hb_1 hb_2 (fun q_3 => ?_) (fun q_3 => ?_)
  · replace h := h.1 q_3
    exact k_vret dX4_darkenShadow_86 rfl h
  · replace h := h.2 q_3
    refine sh_aload_n (pc := 67) dX4_darkenShadow_67 rfl rfl ?_
    refine sh_iload (pc := 68) dX4_darkenShadow_68 rfl ?_
    refine sh_iload (pc := 70) dX4_darkenShadow_70 rfl ?_
    refine sh_iload (pc := 72) dX4_darkenShadow_72 rfl ?_
    refine k_N3i (pc := 74) dX4_darkenShadow_74 lk_X4_137 rfl h (fun v6 I4 h => ?_)
    refine k_V1v (pc := 77) is_114 dX4_darkenShadow_77 lk_X4_153 rfl h (fun I7 h => ?_)
    refine k_iinc (pc := 80) [none, none, none, some (.inr 114), some (.inl y4), some (.inl y5), some (.inl y6), some (.inl (y7 + 1))] dX4_darkenShadow_80 rfl rfl (by decide) ?_
    refine sh_goto (pc := 83) (tgt := 60) dX4_darkenShadow_83 (by decide) ?_
    exact sh_O.locals h (sub_none (sub_none (sub_none (sub_some (sub_some (sub_some (sub_some (sub_some sub_nil))))))))
set_option maxRecDepth 100000 in
set_option maxHeartbeats 4000000 in
theorem eX0_clear  {I : sh_Mem} {Q : sh_Mem → Prop} (h : kk mX0_clear 7 [some (.inr 114), some (.inl 0)] [] (sh_u I 114 4 0) (qv Q)) : cc mX0_clear [.inr 114] I (qv Q) := by
  refine sh_call cd_X0_clear.2.2.2 (Nat.le_of_ble_eq_true rfl) ?_
  show kk mX0_clear 0 [some (.inr 114), none] [] I (qv Q)
  refine sh_aload_n (pc := 0) dX0_clear_0 rfl rfl ?_
  refine sh_iconst (pc := 1) (v := 0) dX0_clear_1 rfl ?_
  refine k_putI (pc := 2) (g := 4) dX0_clear_2 fl_X0_25 rfl is_114 rfl ?_
  refine sh_iconst (pc := 5) (v := 0) dX0_clear_5 rfl ?_
  refine k_istore_n (pc := 6) [some (.inr 114), some (.inl 0)] dX0_clear_6 rfl rfl (by decide) ?_
  exact sh_O.locals h (sub_some (sub_some sub_nil))
set_option maxRecDepth 100000 in
set_option maxHeartbeats 4000000 in
theorem lX0_clear_7 {y1 : Int} {I : sh_Mem} {Q : sh_Mem → Prop} (h : (sh_Bd y1 ∧ ((100 ≤ y1 → Q I) ∧ (y1 < 100 → ((0 ≤ y1 ∧ y1 < (100 : Int)) ∧ kk mX0_clear 7 [some (.inr 114), some (.inl (y1 + 1))] [] (sh_u (sh_u I 115 y1 0) 116 y1 0) (qv Q)))))) : kk mX0_clear 7 [some (.inr 114), some (.inl y1)] [] I (qv Q) := by
  refine sh_iload_n (pc := 7) dX0_clear_7 rfl rfl ?_
  refine sh_bipush (pc := 8) (v := 100) dX0_clear_8 (by decide) ?_
  obtain ⟨hb_1, h⟩ := h
  refine sh_icmp_ge (pc := 10) (tgt := 33) dX0_clear_10 (by decide) hb_1 (bd_lit (by decide)) (fun q_2 => ?_) (fun q_2 => ?_)
  · replace h := h.1 q_2
    exact k_vret dX0_clear_33 rfl h
  · replace h := h.2 q_2
    refine sh_aload_n (pc := 13) dX0_clear_13 rfl rfl ?_
    refine sh_getR (pc := 14) dX0_clear_14 fl_X0_9 rfl is_114 pt_114_0 ?_
    refine sh_iload_n (pc := 17) dX0_clear_17 rfl rfl ?_
    refine sh_iconst (pc := 18) (v := 0) dX0_clear_18 rfl ?_
    obtain ⟨hi_3, h⟩ := h
    refine sh_bast (pc := 19) dX0_clear_19 is_115 (by decide) hi_3 (Or.inl rfl) ?_
    refine sh_aload_n (pc := 20) dX0_clear_20 rfl rfl ?_
    refine sh_getR (pc := 21) dX0_clear_21 fl_X0_15 rfl is_114 pt_114_1 ?_
    refine sh_iload_n (pc := 24) dX0_clear_24 rfl rfl ?_
    refine sh_iconst (pc := 25) (v := 0) dX0_clear_25 rfl ?_
    refine sh_bast (pc := 26) dX0_clear_26 is_116 (by decide) hi_3 (Or.inl rfl) ?_
    refine k_iinc (pc := 27) [some (.inr 114), some (.inl (y1 + 1))] dX0_clear_27 rfl rfl (by decide) ?_
    refine sh_goto (pc := 30) (tgt := 7) dX0_clear_30 (by decide) ?_
    exact sh_O.locals h (sub_some (sub_some sub_nil))
set_option maxRecDepth 100000 in
set_option maxHeartbeats 4000000 in
theorem eX0_darken {x1 : Int} {I : sh_Mem} {Q : sh_Mem → Prop} (h : (cc mX6_isCell [.inl x1] I (qi fun v3 I1 => ((v3 = 1 ∧ ((0 ≤ x1 ∧ x1 < (100 : Int)) ∧ Q (sh_u I1 115 x1 1))) ∨ (v3 = 0 ∧ Q I1))))) : cc mX0_darken [.inr 114, .inl x1] I (qv Q) := by
  refine sh_call cd_X0_darken.2.2.2 (Nat.le_of_ble_eq_true rfl) ?_
  show kk mX0_darken 0 [some (.inr 114), some (.inl x1)] [] I (qv Q)
  refine sh_iload_n (pc := 0) dX0_darken_0 rfl rfl ?_
  refine k_N1i (pc := 1) dX0_darken_1 lk_X0_29 rfl h (fun v3 I1 h => ?_)
  rcases h with ⟨rfl, h⟩ | ⟨rfl, h⟩
  · skip
    refine sh_if_eq (pc := 4) (tgt := 14) dX0_darken_4 (by decide) (bd_lit (by decide)) (fun qz => ?_) (fun qz => ?_)
    · exact absurd qz (by decide)
    · skip
      refine sh_aload_n (pc := 7) dX0_darken_7 rfl rfl ?_
      refine sh_getR (pc := 8) dX0_darken_8 fl_X0_9 rfl is_114 pt_114_0 ?_
      refine sh_iload_n (pc := 11) dX0_darken_11 rfl rfl ?_
      refine sh_iconst (pc := 12) (v := 1) dX0_darken_12 rfl ?_
      obtain ⟨hi_4, h⟩ := h
      refine sh_bast (pc := 13) dX0_darken_13 is_115 (by decide) hi_4 (Or.inr rfl) ?_
      exact k_vret dX0_darken_14 rfl h
  · skip
    refine sh_if_eq (pc := 4) (tgt := 14) dX0_darken_4 (by decide) (bd_lit (by decide)) (fun qz => ?_) (fun qz => ?_)
    · skip
      exact k_vret dX0_darken_14 rfl h
    · exact absurd qz (by decide)
set_option maxRecDepth 100000 in
set_option maxHeartbeats 4000000 in
theorem eX0_block {x1 : Int} {I : sh_Mem} {Q : sh_Mem → Prop} (h : (cc mX6_isCell [.inl x1] I (qi fun v3 I1 => ((v3 = 1 ∧ ((0 ≤ x1 ∧ x1 < (100 : Int)) ∧ Q (sh_u I1 116 x1 1))) ∨ (v3 = 0 ∧ Q I1))))) : cc mX0_block [.inr 114, .inl x1] I (qv Q) := by
  refine sh_call cd_X0_block.2.2.2 (Nat.le_of_ble_eq_true rfl) ?_
  show kk mX0_block 0 [some (.inr 114), some (.inl x1)] [] I (qv Q)
  refine sh_iload_n (pc := 0) dX0_block_0 rfl rfl ?_
  refine k_N1i (pc := 1) dX0_block_1 lk_X0_29 rfl h (fun v3 I1 h => ?_)
  rcases h with ⟨rfl, h⟩ | ⟨rfl, h⟩
  · skip
    refine sh_if_eq (pc := 4) (tgt := 14) dX0_block_4 (by decide) (bd_lit (by decide)) (fun qz => ?_) (fun qz => ?_)
    · exact absurd qz (by decide)
    · skip
      refine sh_aload_n (pc := 7) dX0_block_7 rfl rfl ?_
      refine sh_getR (pc := 8) dX0_block_8 fl_X0_15 rfl is_114 pt_114_1 ?_
      refine sh_iload_n (pc := 11) dX0_block_11 rfl rfl ?_
      refine sh_iconst (pc := 12) (v := 1) dX0_block_12 rfl ?_
      obtain ⟨hi_4, h⟩ := h
      refine sh_bast (pc := 13) dX0_block_13 is_116 (by decide) hi_4 (Or.inr rfl) ?_
      exact k_vret dX0_block_14 rfl h
  · skip
    refine sh_if_eq (pc := 4) (tgt := 14) dX0_block_4 (by decide) (bd_lit (by decide)) (fun qz => ?_) (fun qz => ?_)
    · skip
      exact k_vret dX0_block_14 rfl h
    · exact absurd qz (by decide)
set_option maxRecDepth 100000 in
set_option maxHeartbeats 4000000 in
theorem eX0_darkCells  {I : sh_Mem} {Q : Int → sh_Mem → Prop} (h : kk mX0_darkCells 4 [some (.inr 114), some (.inl 0), some (.inl 0)] [] I (qi Q)) : cc mX0_darkCells [.inr 114] I (qi Q) := by
  refine sh_call cd_X0_darkCells.2.2.2 (Nat.le_of_ble_eq_true rfl) ?_
  show kk mX0_darkCells 0 [some (.inr 114), none, none] [] I (qi Q)
  refine sh_iconst (pc := 0) (v := 0) dX0_darkCells_0 rfl ?_
  refine k_istore_n (pc := 1) [some (.inr 114), some (.inl 0), none] dX0_darkCells_1 rfl rfl (by decide) ?_
  refine sh_iconst (pc := 2) (v := 0) dX0_darkCells_2 rfl ?_
  refine k_istore_n (pc := 3) [some (.inr 114), some (.inl 0), some (.inl 0)] dX0_darkCells_3 rfl rfl (by decide) ?_
  exact sh_O.locals h (sub_some (sub_some (sub_some sub_nil)))
set_option maxRecDepth 100000 in
set_option maxHeartbeats 4000000 in
theorem lX0_darkCells_4 {y1 : Int} {y2 : Int} {I : sh_Mem} {Q : Int → sh_Mem → Prop} (h : (sh_Bd y2 ∧ ((100 ≤ y2 → Q y1 I) ∧ (y2 < 100 → ((0 ≤ y2 ∧ y2 < (100 : Int)) ∧ (sh_Bd (I 115 y2) ∧ (((I 115 y2) = 0 → kk mX0_darkCells 4 [some (.inr 114), some (.inl y1), some (.inl (y2 + 1))] [] I (qi Q)) ∧ (¬ (I 115 y2) = 0 → kk mX0_darkCells 4 [some (.inr 114), some (.inl (y1 + 1)), some (.inl (y2 + 1))] [] I (qi Q))))))))) : kk mX0_darkCells 4 [some (.inr 114), some (.inl y1), some (.inl y2)] [] I (qi Q) := by
  refine sh_iload_n (pc := 4) dX0_darkCells_4 rfl rfl ?_
  refine sh_bipush (pc := 5) (v := 100) dX0_darkCells_5 (by decide) ?_
  obtain ⟨hb_1, h⟩ := h
  refine sh_icmp_ge (pc := 7) (tgt := 28) dX0_darkCells_7 (by decide) hb_1 (bd_lit (by decide)) (fun q_2 => ?_) (fun q_2 => ?_)
  · replace h := h.1 q_2
    refine sh_iload_n (pc := 28) dX0_darkCells_28 rfl rfl ?_
    exact k_iret dX0_darkCells_29 rfl h
  · replace h := h.2 q_2
    refine sh_aload_n (pc := 10) dX0_darkCells_10 rfl rfl ?_
    refine sh_getR (pc := 11) dX0_darkCells_11 fl_X0_9 rfl is_114 pt_114_0 ?_
    refine sh_iload_n (pc := 14) dX0_darkCells_14 rfl rfl ?_
    obtain ⟨hi_3, h⟩ := h
    refine sh_bald (pc := 15) dX0_darkCells_15 is_115 (by decide) hi_3 ?_
    obtain ⟨hb_4, h⟩ := h
    refine sh_if_eq (pc := 16) (tgt := 22) dX0_darkCells_16 (by decide) hb_4  (fun q_5 => ?_) (fun q_5 => ?_)
    · replace h := h.1 q_5
      refine k_iinc (pc := 22) [some (.inr 114), some (.inl y1), some (.inl (y2 + 1))] dX0_darkCells_22 rfl rfl (by decide) ?_
      refine sh_goto (pc := 25) (tgt := 4) dX0_darkCells_25 (by decide) ?_
      exact sh_O.locals h (sub_some (sub_some (sub_some sub_nil)))
    · replace h := h.2 q_5
      refine k_iinc (pc := 19) [some (.inr 114), some (.inl (y1 + 1)), some (.inl y2)] dX0_darkCells_19 rfl rfl (by decide) ?_
      refine k_iinc (pc := 22) [some (.inr 114), some (.inl (y1 + 1)), some (.inl (y2 + 1))] dX0_darkCells_22 rfl rfl (by decide) ?_
      refine sh_goto (pc := 25) (tgt := 4) dX0_darkCells_25 (by decide) ?_
      exact sh_O.locals h (sub_some (sub_some (sub_some sub_nil)))
set_option maxRecDepth 100000 in
set_option maxHeartbeats 4000000 in
theorem eX0_stepsIntoTheDark {x1 : Int} {I : sh_Mem} {Q : Int → sh_Mem → Prop} (h : (cc mX0_enter [.inr 114, .inl x1, .inl 0] I (qv fun I1 => kk mX0_stepsIntoTheDark 8 [some (.inr 114), none, some (.inl 0), none, none] [] I1 (qi Q)))) : cc mX0_stepsIntoTheDark [.inr 114, .inl x1] I (qi Q) := by
  refine sh_call cd_X0_stepsIntoTheDark.2.2.2 (Nat.le_of_ble_eq_true rfl) ?_
  show kk mX0_stepsIntoTheDark 0 [some (.inr 114), some (.inl x1), none, none, none] [] I (qi Q)
  refine sh_aload_n (pc := 0) dX0_stepsIntoTheDark_0 rfl rfl ?_
  refine sh_iload_n (pc := 1) dX0_stepsIntoTheDark_1 rfl rfl ?_
  refine sh_iconst (pc := 2) (v := 0) dX0_stepsIntoTheDark_2 rfl ?_
  refine k_V2v (pc := 3) is_114 dX0_stepsIntoTheDark_3 lk_X0_33 rfl h (fun I1 h => ?_)
  refine sh_iconst (pc := 6) (v := 0) dX0_stepsIntoTheDark_6 rfl ?_
  refine k_istore_n (pc := 7) [some (.inr 114), some (.inl x1), some (.inl 0), none, none] dX0_stepsIntoTheDark_7 rfl rfl (by decide) ?_
  exact sh_O.locals h (sub_some (sub_none (sub_some (sub_none (sub_none sub_nil)))))
set_option maxRecDepth 100000 in
set_option maxHeartbeats 4000000 in
theorem lX0_stepsIntoTheDark_8 {y2 : Int} {I : sh_Mem} {Q : Int → sh_Mem → Prop} (h : (sh_Bd y2 ∧ (sh_Bd (I 114 4) ∧ (((I 114 4) ≤ y2 → Q (-5) I) ∧ (y2 < (I 114 4) → ((100 ≤ y2 → Q (-5) I) ∧ (y2 < 100 → ((0 ≤ y2 ∧ y2 < (100 : Int)) ∧ (cc mX6_isCell [.inl (I 118 y2)] I (qi fun v8 I6 => ((v8 = 1 ∧ ((0 ≤ (I 118 y2) ∧ (I 118 y2) < (100 : Int)) ∧ (sh_Bd (I6 115 (I 118 y2)) ∧ (((I6 115 (I 118 y2)) = 0 → kk mX0_stepsIntoTheDark 58 [some (.inr 114), none, some (.inl y2), some (.inl (I 118 y2)), some (.inl 0)] [] I6 (qi Q)) ∧ (¬ (I6 115 (I 118 y2)) = 0 → Q (I6 117 (I 118 y2)) I6))))) ∨ (v8 = 0 ∧ Q (-5) I6)))))))))))) : kk mX0_stepsIntoTheDark 8 [some (.inr 114), none, some (.inl y2), none, none] [] I (qi Q) := by
  refine sh_iload_n (pc := 8) dX0_stepsIntoTheDark_8 rfl rfl ?_
  refine sh_aload_n (pc := 9) dX0_stepsIntoTheDark_9 rfl rfl ?_
  refine sh_getI (pc := 10) (g := 4) dX0_stepsIntoTheDark_10 fl_X0_25 rfl is_114 rfl ?_
  obtain ⟨hb_1, h⟩ := h
  obtain ⟨hb_2, h⟩ := h
  refine sh_icmp_ge (pc := 13) (tgt := 104) dX0_stepsIntoTheDark_13 (by decide) hb_1 hb_2 (fun q_3 => ?_) (fun q_3 => ?_)
  · replace h := h.1 q_3
    refine sh_bipush (pc := 104) (v := (-5)) dX0_stepsIntoTheDark_104 (by decide) ?_
    exact k_iret dX0_stepsIntoTheDark_106 rfl h
  · replace h := h.2 q_3
    refine sh_iload_n (pc := 16) dX0_stepsIntoTheDark_16 rfl rfl ?_
    refine sh_bipush (pc := 17) (v := 100) dX0_stepsIntoTheDark_17 (by decide) ?_
    refine sh_icmp_ge (pc := 19) (tgt := 104) dX0_stepsIntoTheDark_19 (by decide) hb_1 (bd_lit (by decide)) (fun q_4 => ?_) (fun q_4 => ?_)
    · replace h := h.1 q_4
      refine sh_bipush (pc := 104) (v := (-5)) dX0_stepsIntoTheDark_104 (by decide) ?_
      exact k_iret dX0_stepsIntoTheDark_106 rfl h
    · replace h := h.2 q_4
      refine sh_aload_n (pc := 22) dX0_stepsIntoTheDark_22 rfl rfl ?_
      refine sh_getR (pc := 23) dX0_stepsIntoTheDark_23 fl_X0_22 rfl is_114 pt_114_3 ?_
      refine sh_iload_n (pc := 26) dX0_stepsIntoTheDark_26 rfl rfl ?_
      obtain ⟨hi_5, h⟩ := h
      refine sh_iald (pc := 27) dX0_stepsIntoTheDark_27 is_118 (by decide) hi_5 ?_
      refine k_istore_n (pc := 28) [some (.inr 114), none, some (.inl y2), some (.inl (I 118 y2)), none] dX0_stepsIntoTheDark_28 rfl rfl (by decide) ?_
      refine sh_iload_n (pc := 29) dX0_stepsIntoTheDark_29 rfl rfl ?_
      refine k_N1i (pc := 30) dX0_stepsIntoTheDark_30 lk_X0_29 rfl h (fun v8 I6 h => ?_)
      rcases h with ⟨rfl, h⟩ | ⟨rfl, h⟩
      · skip
        refine sh_if_ne (pc := 33) (tgt := 39) dX0_stepsIntoTheDark_33 (by decide) (bd_lit (by decide)) (fun qz => ?_) (fun qz => ?_)
        · skip
          refine sh_aload_n (pc := 39) dX0_stepsIntoTheDark_39 rfl rfl ?_
          refine sh_getR (pc := 40) dX0_stepsIntoTheDark_40 fl_X0_9 rfl is_114 pt_114_0 ?_
          refine sh_iload_n (pc := 43) dX0_stepsIntoTheDark_43 rfl rfl ?_
          obtain ⟨hi_9, h⟩ := h
          refine sh_bald (pc := 44) dX0_stepsIntoTheDark_44 is_115 (by decide) hi_9 ?_
          obtain ⟨hb_10, h⟩ := h
          refine sh_if_eq (pc := 45) (tgt := 55) dX0_stepsIntoTheDark_45 (by decide) hb_10  (fun q_11 => ?_) (fun q_11 => ?_)
          · replace h := h.1 q_11
            refine sh_iconst (pc := 55) (v := 0) dX0_stepsIntoTheDark_55 rfl ?_
            refine k_istore (pc := 56) [some (.inr 114), none, some (.inl y2), some (.inl (I 118 y2)), some (.inl 0)] dX0_stepsIntoTheDark_56 rfl (by decide) ?_
            exact sh_O.locals h (sub_some (sub_none (sub_some (sub_some (sub_some sub_nil)))))
          · replace h := h.2 q_11
            refine sh_aload_n (pc := 48) dX0_stepsIntoTheDark_48 rfl rfl ?_
            refine sh_getR (pc := 49) dX0_stepsIntoTheDark_49 fl_X0_18 rfl is_114 pt_114_2 ?_
            refine sh_iload_n (pc := 52) dX0_stepsIntoTheDark_52 rfl rfl ?_
            refine sh_iald (pc := 53) dX0_stepsIntoTheDark_53 is_117 (by decide) hi_9 ?_
            exact k_iret dX0_stepsIntoTheDark_54 rfl h
        · exact absurd qz (by decide)
      · skip
        refine sh_if_ne (pc := 33) (tgt := 39) dX0_stepsIntoTheDark_33 (by decide) (bd_lit (by decide)) (fun qz => ?_) (fun qz => ?_)
        · exact absurd qz (by decide)
        · skip
          refine sh_bipush (pc := 36) (v := (-5)) dX0_stepsIntoTheDark_36 (by decide) ?_
          exact k_iret dX0_stepsIntoTheDark_38 rfl h
set_option maxRecDepth 100000 in
set_option maxHeartbeats 4000000 in
theorem lX0_stepsIntoTheDark_58 {y2 : Int} {y3 : Int} {y4 : Int} {I : sh_Mem} {Q : Int → sh_Mem → Prop} (h : (sh_Bd y4 ∧ ((4 ≤ y4 → kk mX0_stepsIntoTheDark 8 [some (.inr 114), none, some (.inl (y2 + 1)), none, none] [] I (qi Q)) ∧ (y4 < 4 → (cc mX6_cellsToEdge [.inl y3, .inl y4] I (qi fun v5 I3 => (sh_Bd v5 ∧ ((v5 ≤ 0 → kk mX0_stepsIntoTheDark 58 [some (.inr 114), none, some (.inl y2), some (.inl y3), some (.inl (y4 + 1))] [] I3 (qi Q)) ∧ (0 < v5 → (cc mX6_cellAlong [.inl y3, .inl y4, .inl 1] I3 (qi fun v10 I8 => ((0 ≤ y3 ∧ y3 < (100 : Int)) ∧ (cc mX0_enter [.inr 114, .inl v10, .inl ((I8 117 y3) + 1)] I8 (qv fun I12 => kk mX0_stepsIntoTheDark 58 [some (.inr 114), none, some (.inl y2), some (.inl y3), some (.inl (y4 + 1))] [] I12 (qi Q))))))))))))))) : kk mX0_stepsIntoTheDark 58 [some (.inr 114), none, some (.inl y2), some (.inl y3), some (.inl y4)] [] I (qi Q) := by
  refine sh_iload (pc := 58) dX0_stepsIntoTheDark_58 rfl ?_
  refine sh_iconst (pc := 60) (v := 4) dX0_stepsIntoTheDark_60 rfl ?_
  obtain ⟨hb_1, h⟩ := h
  refine sh_icmp_ge (pc := 61) (tgt := 98) dX0_stepsIntoTheDark_61 (by decide) hb_1 (bd_lit (by decide)) (fun q_2 => ?_) (fun q_2 => ?_)
  · replace h := h.1 q_2
    refine k_iinc (pc := 98) [some (.inr 114), none, some (.inl (y2 + 1)), some (.inl y3), some (.inl y4)] dX0_stepsIntoTheDark_98 rfl rfl (by decide) ?_
    refine sh_goto (pc := 101) (tgt := 8) dX0_stepsIntoTheDark_101 (by decide) ?_
    exact sh_O.locals h (sub_some (sub_none (sub_some (sub_none (sub_none sub_nil)))))
  · replace h := h.2 q_2
    refine sh_iload_n (pc := 64) dX0_stepsIntoTheDark_64 rfl rfl ?_
    refine sh_iload (pc := 65) dX0_stepsIntoTheDark_65 rfl ?_
    refine k_N2i (pc := 67) dX0_stepsIntoTheDark_67 lk_X0_37 rfl h (fun v5 I3 h => ?_)
    obtain ⟨hb_6, h⟩ := h
    refine sh_if_le (pc := 70) (tgt := 92) dX0_stepsIntoTheDark_70 (by decide) hb_6  (fun q_7 => ?_) (fun q_7 => ?_)
    · replace h := h.1 q_7
      refine k_iinc (pc := 92) [some (.inr 114), none, some (.inl y2), some (.inl y3), some (.inl (y4 + 1))] dX0_stepsIntoTheDark_92 rfl rfl (by decide) ?_
      refine sh_goto (pc := 95) (tgt := 58) dX0_stepsIntoTheDark_95 (by decide) ?_
      exact sh_O.locals h (sub_some (sub_none (sub_some (sub_some (sub_some sub_nil)))))
    · replace h := h.2 q_7
      refine sh_aload_n (pc := 73) dX0_stepsIntoTheDark_73 rfl rfl ?_
      refine sh_iload_n (pc := 74) dX0_stepsIntoTheDark_74 rfl rfl ?_
      refine sh_iload (pc := 75) dX0_stepsIntoTheDark_75 rfl ?_
      refine sh_iconst (pc := 77) (v := 1) dX0_stepsIntoTheDark_77 rfl ?_
      refine k_N3i (pc := 78) dX0_stepsIntoTheDark_78 lk_X0_41 rfl h (fun v10 I8 h => ?_)
      refine sh_aload_n (pc := 81) dX0_stepsIntoTheDark_81 rfl rfl ?_
      refine sh_getR (pc := 82) dX0_stepsIntoTheDark_82 fl_X0_18 rfl is_114 pt_114_2 ?_
      refine sh_iload_n (pc := 85) dX0_stepsIntoTheDark_85 rfl rfl ?_
      obtain ⟨hi_11, h⟩ := h
      refine sh_iald (pc := 86) dX0_stepsIntoTheDark_86 is_117 (by decide) hi_11 ?_
      refine sh_iconst (pc := 87) (v := 1) dX0_stepsIntoTheDark_87 rfl ?_
      refine sh_iadd (pc := 88) dX0_stepsIntoTheDark_88 ?_
      refine k_V2v (pc := 89) is_114 dX0_stepsIntoTheDark_89 lk_X0_33 rfl h (fun I12 h => ?_)
      refine k_iinc (pc := 92) [some (.inr 114), none, some (.inl y2), some (.inl y3), some (.inl (y4 + 1))] dX0_stepsIntoTheDark_92 rfl rfl (by decide) ?_
      refine sh_goto (pc := 95) (tgt := 58) dX0_stepsIntoTheDark_95 (by decide) ?_
      exact sh_O.locals h (sub_some (sub_none (sub_some (sub_some (sub_some sub_nil)))))
set_option maxRecDepth 100000 in
set_option maxHeartbeats 4000000 in
theorem eX0_enter {x1 : Int} {x2 : Int} {I : sh_Mem} {Q : sh_Mem → Prop} (h : (cc mX6_isCell [.inl x1] I (qi fun v3 I1 => ((v3 = 1 ∧ ((0 ≤ x1 ∧ x1 < (100 : Int)) ∧ (sh_Bd (I1 116 x1) ∧ ((¬ (I1 116 x1) = 0 → Q I1) ∧ ((I1 116 x1) = 0 → (sh_Bd (I1 114 4) ∧ ((100 ≤ (I1 114 4) → Q I1) ∧ ((I1 114 4) < 100 → ((0 ≤ (I1 114 4) ∧ (I1 114 4) < (100 : Int)) ∧ Q (sh_u (sh_u (sh_u (sh_u I1 116 x1 1) 117 x1 x2) 118 (I1 114 4) x1) 114 4 ((I1 114 4) + 1))))))))))) ∨ (v3 = 0 ∧ Q I1))))) : cc mX0_enter [.inr 114, .inl x1, .inl x2] I (qv Q) := by
  refine sh_call cd_X0_enter.2.2.2 (Nat.le_of_ble_eq_true rfl) ?_
  show kk mX0_enter 0 [some (.inr 114), some (.inl x1), some (.inl x2)] [] I (qv Q)
  refine sh_iload_n (pc := 0) dX0_enter_0 rfl rfl ?_
  refine k_N1i (pc := 1) dX0_enter_1 lk_X0_29 rfl h (fun v3 I1 h => ?_)
  rcases h with ⟨rfl, h⟩ | ⟨rfl, h⟩
  · skip
    refine sh_if_eq (pc := 4) (tgt := 59) dX0_enter_4 (by decide) (bd_lit (by decide)) (fun qz => ?_) (fun qz => ?_)
    · exact absurd qz (by decide)
    · skip
      refine sh_aload_n (pc := 7) dX0_enter_7 rfl rfl ?_
      refine sh_getR (pc := 8) dX0_enter_8 fl_X0_15 rfl is_114 pt_114_1 ?_
      refine sh_iload_n (pc := 11) dX0_enter_11 rfl rfl ?_
      obtain ⟨hi_4, h⟩ := h
      refine sh_bald (pc := 12) dX0_enter_12 is_116 (by decide) hi_4 ?_
      obtain ⟨hb_5, h⟩ := h
      refine sh_if_ne (pc := 13) (tgt := 59) dX0_enter_13 (by decide) hb_5  (fun q_6 => ?_) (fun q_6 => ?_)
      · replace h := h.1 q_6
        exact k_vret dX0_enter_59 rfl h
      · replace h := h.2 q_6
        refine sh_aload_n (pc := 16) dX0_enter_16 rfl rfl ?_
        refine sh_getI (pc := 17) (g := 4) dX0_enter_17 fl_X0_25 rfl is_114 rfl ?_
        refine sh_bipush (pc := 20) (v := 100) dX0_enter_20 (by decide) ?_
        obtain ⟨hb_7, h⟩ := h
        refine sh_icmp_ge (pc := 22) (tgt := 59) dX0_enter_22 (by decide) hb_7 (bd_lit (by decide)) (fun q_8 => ?_) (fun q_8 => ?_)
        · replace h := h.1 q_8
          exact k_vret dX0_enter_59 rfl h
        · replace h := h.2 q_8
          refine sh_aload_n (pc := 25) dX0_enter_25 rfl rfl ?_
          refine sh_getR (pc := 26) dX0_enter_26 fl_X0_15 rfl is_114 pt_114_1 ?_
          refine sh_iload_n (pc := 29) dX0_enter_29 rfl rfl ?_
          refine sh_iconst (pc := 30) (v := 1) dX0_enter_30 rfl ?_
          refine sh_bast (pc := 31) dX0_enter_31 is_116 (by decide) hi_4 (Or.inr rfl) ?_
          refine sh_aload_n (pc := 32) dX0_enter_32 rfl rfl ?_
          refine sh_getR (pc := 33) dX0_enter_33 fl_X0_18 rfl is_114 pt_114_2 ?_
          refine sh_iload_n (pc := 36) dX0_enter_36 rfl rfl ?_
          refine sh_iload_n (pc := 37) dX0_enter_37 rfl rfl ?_
          refine sh_iast (pc := 38) dX0_enter_38 is_117 (by decide) hi_4  ?_
          refine sh_aload_n (pc := 39) dX0_enter_39 rfl rfl ?_
          refine sh_getR (pc := 40) dX0_enter_40 fl_X0_22 rfl is_114 pt_114_3 ?_
          refine sh_aload_n (pc := 43) dX0_enter_43 rfl rfl ?_
          refine k_getI (pc := 44) (g := 4) (I1 114 4) dX0_enter_44 fl_X0_25 rfl is_114 rfl (by simp [sh_u]) ?_
          refine sh_iload_n (pc := 47) dX0_enter_47 rfl rfl ?_
          obtain ⟨hi_9, h⟩ := h
          refine sh_iast (pc := 48) dX0_enter_48 is_118 (by decide) hi_9  ?_
          refine sh_aload_n (pc := 49) dX0_enter_49 rfl rfl ?_
          refine sh_dup (pc := 50) dX0_enter_50 ?_
          refine k_getI (pc := 51) (g := 4) (I1 114 4) dX0_enter_51 fl_X0_25 rfl is_114 rfl (by simp [sh_u]) ?_
          refine sh_iconst (pc := 54) (v := 1) dX0_enter_54 rfl ?_
          refine sh_iadd (pc := 55) dX0_enter_55 ?_
          refine k_putI (pc := 56) (g := 4) dX0_enter_56 fl_X0_25 rfl is_114 rfl ?_
          exact k_vret dX0_enter_59 rfl h
  · skip
    refine sh_if_eq (pc := 4) (tgt := 59) dX0_enter_4 (by decide) (bd_lit (by decide)) (fun qz => ?_) (fun qz => ?_)
    · skip
      exact k_vret dX0_enter_59 rfl h
    · exact absurd qz (by decide)
set_option maxRecDepth 100000 in
set_option maxHeartbeats 4000000 in
theorem eX2_record {c : Nat} (hc : sh_isP c) {I : sh_Mem} {Q : sh_Mem → Prop} (h : ((0 ≤ ((I 47 1) + (I 47 2)) ∧ ((I 47 1) + (I 47 2)) < 2147483648) ∧ (∃ p2 : Nat, sh_isP p2 ∧ sh_PT 48 (((I 47 1) + (I 47 2)) % 4).toNat = some p2 ∧ (cc mX4_copyFrom [.inr p2, .inr c] I (qv fun I5 => (sh_Bd (I5 47 2) ∧ ((4 ≤ (I5 47 2) → ((0 ≤ ((I5 47 1) + 1) ∧ ((I5 47 1) + 1) < 2147483648) ∧ Q (sh_u I5 47 1 (((I5 47 1) + 1) % 4)))) ∧ ((I5 47 2) < 4 → Q (sh_u I5 47 2 ((I5 47 2) + 1)))))))))) : cc mX2_record [.inr 47, .inr c] I (qv Q) := by
  refine sh_call cd_X2_record.2.2.2 (Nat.le_of_ble_eq_true rfl) ?_
  show kk mX2_record 0 [some (.inr 47), some (.inr c), none] [] I (qv Q)
  refine sh_aload_n (pc := 0) dX2_record_0 rfl rfl ?_
  refine sh_aload_n (pc := 1) dX2_record_1 rfl rfl ?_
  refine sh_getI (pc := 2) (g := 1) dX2_record_2 fl_X2_17 rfl is_47 rfl ?_
  refine sh_aload_n (pc := 5) dX2_record_5 rfl rfl ?_
  refine sh_getI (pc := 6) (g := 2) dX2_record_6 fl_X2_21 rfl is_47 rfl ?_
  refine sh_iadd (pc := 9) dX2_record_9 ?_
  obtain ⟨hn_1, h⟩ := h
  obtain ⟨p2, hq_3, hr_4, h⟩ := h
  refine k_ring (pc := 10) dX2_record_10 lk_X2_25 rfl hn_1 hr_4 ?_
  refine k_astore_n (pc := 13) [some (.inr 47), some (.inr c), some (.inr p2)] dX2_record_13 rfl rfl (by decide) ?_
  refine sh_aload_n (pc := 14) dX2_record_14 rfl rfl ?_
  refine sh_ifnonnull (pc := 15) (tgt := 19) dX2_record_15 (by decide) ?_
  refine sh_aload_n (pc := 19) dX2_record_19 rfl rfl ?_
  refine sh_aload_n (pc := 20) dX2_record_20 rfl rfl ?_
  refine k_V1v (pc := 21) (is_P hq_3) dX2_record_21 lk_X2_29 rfl h (fun I5 h => ?_)
  refine sh_aload_n (pc := 24) dX2_record_24 rfl rfl ?_
  refine sh_getI (pc := 25) (g := 2) dX2_record_25 fl_X2_21 rfl is_47 rfl ?_
  refine sh_iconst (pc := 28) (v := 4) dX2_record_28 rfl ?_
  obtain ⟨hb_7, h⟩ := h
  refine sh_icmp_ge (pc := 29) (tgt := 45) dX2_record_29 (by decide) hb_7 (bd_lit (by decide)) (fun q_8 => ?_) (fun q_8 => ?_)
  · replace h := h.1 q_8
    refine sh_aload_n (pc := 45) dX2_record_45 rfl rfl ?_
    refine sh_aload_n (pc := 46) dX2_record_46 rfl rfl ?_
    refine sh_getI (pc := 47) (g := 1) dX2_record_47 fl_X2_17 rfl is_47 rfl ?_
    refine sh_iconst (pc := 50) (v := 1) dX2_record_50 rfl ?_
    refine sh_iadd (pc := 51) dX2_record_51 ?_
    refine sh_iconst (pc := 52) (v := 4) dX2_record_52 rfl ?_
    obtain ⟨hn_9, h⟩ := h
    refine sh_irem (pc := 53) dX2_record_53 hn_9.1 hn_9.2 (by decide) (by decide) ?_
    refine k_putI (pc := 54) (g := 1) dX2_record_54 fl_X2_17 rfl is_47 rfl ?_
    exact k_vret dX2_record_57 rfl h
  · replace h := h.2 q_8
    refine sh_aload_n (pc := 32) dX2_record_32 rfl rfl ?_
    refine sh_dup (pc := 33) dX2_record_33 ?_
    refine sh_getI (pc := 34) (g := 2) dX2_record_34 fl_X2_21 rfl is_47 rfl ?_
    refine sh_iconst (pc := 37) (v := 1) dX2_record_37 rfl ?_
    refine sh_iadd (pc := 38) dX2_record_38 ?_
    refine k_putI (pc := 39) (g := 2) dX2_record_39 fl_X2_21 rfl is_47 rfl ?_
    refine sh_goto (pc := 42) (tgt := 57) dX2_record_42 (by decide) ?_
    exact k_vret dX2_record_57 rfl h
