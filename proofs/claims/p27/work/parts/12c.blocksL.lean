/-! ===== 12c: the cases of the law: steps, and the law ===== -/
set_option maxRecDepth 100000 in
set_option maxHeartbeats 4000000 in
theorem eL_areSteps {c : sh_Cx} (hx : cx c) {G : Nat} (hG : dy c G 42) {L : Nat} (hL : dy c L 12) {N : Nat} (hN : dy c N 9) {I : sh_Mem} {Q : Int → sh_Mem → Prop} (h : (cc mX6_stepsTo [.inr 1, .inl (I N 8)] I (qi fun v2 J1 => ((v2 = (-1) ∨ (sh_Bd v2 ∧ sh_Bd (-1))) ∧ ((¬ v2 = (-1) → kl c (0, 0) mL_areSteps 29 [some (.inr 1), some (.inr G), some (.inr L), some (.inr N), some (.inl (-5)), some (.inl (-1)), some (.inl 0), some (.inl 0), none, none, none] [] (mxM J1 I) (qli c Q)) ∧ (v2 = (-1) → kl c (0, 0) mL_areSteps 29 [some (.inr 1), some (.inr G), some (.inr L), some (.inr N), some (.inl (-5)), some (.inl (-1)), some (.inl 1), some (.inl 0), none, none, none] [] (mxM J1 I) (qli c Q))))))) : cl c mL_areSteps [.inr 1, .inr G, .inr L, .inr N] I (li c Q) := by
  refine l_callI cd_L_areSteps.2.2.2 (Nat.le_of_ble_eq_true rfl) ?_
  show kl c (0, 0) mL_areSteps 0 [some (.inr 1), some (.inr G), some (.inr L), some (.inr N), none, none, none, none, none, none, none] [] I (qli c Q)
  refine sh_bipush (pc := 0) (v := (-5)) dL_areSteps_0 (by decide) ?_
  refine k_istore (pc := 2) [some (.inr 1), some (.inr G), some (.inr L), some (.inr N), some (.inl (-5)), none, none, none, none, none, none] dL_areSteps_2 rfl (by decide) ?_
  refine sh_iconst (pc := 4) (v := (-1)) dL_areSteps_4 rfl ?_
  refine k_istore (pc := 5) [some (.inr 1), some (.inr G), some (.inr L), some (.inr N), some (.inl (-5)), some (.inl (-1)), none, none, none, none, none] dL_areSteps_5 rfl (by decide) ?_
  refine sh_aload_n (pc := 7) dL_areSteps_7 rfl rfl ?_
  refine sh_aload_n (pc := 8) dL_areSteps_8 rfl rfl ?_
  refine sh_bipush (pc := 9) (v := 8) dL_areSteps_9 (by decide) ?_
  refine l_ald (pc := 11) dL_areSteps_11 hN (by decide) ?_
  refine l_F1 (pc := 12) hx dL_areSteps_12 lk_L_66 rfl h (fun v2 J1 h => ?_)
  refine sh_iconst (pc := 15) (v := (-1)) dL_areSteps_15 rfl ?_
  obtain ⟨ho_3, h⟩ := h
  refine l_icmp_ne (pc := 16) (tgt := 23) dL_areSteps_16 (by decide) ho_3 (fun q_4 => ?_) (fun q_4 => ?_)
  · replace h := h.1 q_4
    refine sh_iconst (pc := 23) (v := 0) dL_areSteps_23 rfl ?_
    refine k_istore (pc := 24) [some (.inr 1), some (.inr G), some (.inr L), some (.inr N), some (.inl (-5)), some (.inl (-1)), some (.inl 0), none, none, none, none] dL_areSteps_24 rfl (by decide) ?_
    refine sh_iconst (pc := 26) (v := 0) dL_areSteps_26 rfl ?_
    refine k_istore (pc := 27) [some (.inr 1), some (.inr G), some (.inr L), some (.inr N), some (.inl (-5)), some (.inl (-1)), some (.inl 0), some (.inl 0), none, none, none] dL_areSteps_27 rfl (by decide) ?_
    exact sh_O.locals h (sub_some (sub_some (sub_some (sub_some (sub_some (sub_some (sub_some (sub_some (sub_none (sub_none (sub_none sub_nil)))))))))))
  · replace h := h.2 q_4
    refine sh_iconst (pc := 19) (v := 1) dL_areSteps_19 rfl ?_
    refine sh_goto (pc := 20) (tgt := 24) dL_areSteps_20 (by decide) ?_
    refine k_istore (pc := 24) [some (.inr 1), some (.inr G), some (.inr L), some (.inr N), some (.inl (-5)), some (.inl (-1)), some (.inl 1), none, none, none, none] dL_areSteps_24 rfl (by decide) ?_
    refine sh_iconst (pc := 26) (v := 0) dL_areSteps_26 rfl ?_
    refine k_istore (pc := 27) [some (.inr 1), some (.inr G), some (.inr L), some (.inr N), some (.inl (-5)), some (.inl (-1)), some (.inl 1), some (.inl 0), none, none, none] dL_areSteps_27 rfl (by decide) ?_
    exact sh_O.locals h (sub_some (sub_some (sub_some (sub_some (sub_some (sub_some (sub_some (sub_some (sub_none (sub_none (sub_none sub_nil)))))))))))
set_option maxRecDepth 100000 in
set_option maxHeartbeats 4000000 in
theorem lL_areSteps_29 {c0 : sh_Cx} {cn : Nat × Nat} {c : sh_Cx} (hx : cx c) {G : Nat} (hG : dy c G 42) {L : Nat} (hL : dy c L 12) {N : Nat} (hN : dy c N 9) (he : ext c0 c) {y4 : Int} {y5 : Int} {y6 : Int} {y7 : Int} {I : sh_Mem} {Q : Int → sh_Mem → Prop} (h : (sh_Bd y7 ∧ (sh_Bd (I N 8) ∧ (((I N 8) ≤ y7 → (sh_Bd y6 ∧ ((y6 = 0 → Q 0 I) ∧ (¬ y6 = 0 → (cc mX6_safest [.inr 1] I (qi fun v7 J6 => ((v7 = y4 ∨ (sh_Bd v7 ∧ sh_Bd y4)) ∧ ((¬ v7 = y4 → Q 0 (mxM J6 I)) ∧ (v7 = y4 → Q 1 (mxM J6 I)))))))))) ∧ (y7 < (I N 8) → ((y7 = (I N 1) ∨ (sh_Bd y7 ∧ sh_Bd (I N 1))) ∧ ((y7 = (I N 1) → kl c cn mL_areSteps 73 [some (.inr 1), some (.inr G), some (.inr L), some (.inr N), some (.inl y4), some (.inl y5), some (.inl y6), some (.inl y7), none, none, none] [] I (qli c0 Q)) ∧ (¬ y7 = (I N 1) → ((0 ≤ ((7 * y7) + 3) ∧ ((7 * y7) + 3) < (42 : Int)) ∧ (sh_Bd (I G ((7 * y7) + 3)) ∧ ((¬ (I G ((7 * y7) + 3)) = 0 → kl c cn mL_areSteps 73 [some (.inr 1), some (.inr G), some (.inr L), some (.inr N), some (.inl y4), some (.inl y5), some (.inl y6), some (.inl y7), none, none, none] [] I (qli c0 Q)) ∧ ((I G ((7 * y7) + 3)) = 0 → (cl c mL_cells [.inr G, .inr L, .inr N, .inl y7] I (li c fun v16 J15 => (sh_Bd v16 ∧ ((v16 ≤ 0 → kl c cn mL_areSteps 73 [some (.inr 1), some (.inr G), some (.inr L), some (.inr N), some (.inl y4), some (.inl y5), some (.inl y6), some (.inl y7), none, none, none] [] J15 (qli c0 Q)) ∧ (0 < v16 → (sh_fit mL_areSteps mL_steps cn 0 ∧ (cl c mL_steps [.inr G, .inr L, .inr N, .inl y7] J15 (li c fun v21 J20 => kl c (cn.1 + 2, cn.2 + 100) mL_areSteps 94 [some (.inr 1), some (.inr G), some (.inr L), some (.inr N), some (.inl y4), some (.inl y5), some (.inl y6), some (.inl y7), none, none, none] [.inl v21] J20 (qli c0 Q))))))))))))))))))))) : kl c cn mL_areSteps 29 [some (.inr 1), some (.inr G), some (.inr L), some (.inr N), some (.inl y4), some (.inl y5), some (.inl y6), some (.inl y7), none, none, none] [] I (qli c0 Q) := by
  refine sh_iload (pc := 29) dL_areSteps_29 rfl ?_
  refine sh_aload_n (pc := 31) dL_areSteps_31 rfl rfl ?_
  refine sh_bipush (pc := 32) (v := 8) dL_areSteps_32 (by decide) ?_
  refine l_ald (pc := 34) dL_areSteps_34 hN (by decide) ?_
  obtain ⟨hb_1, h⟩ := h
  obtain ⟨hb_2, h⟩ := h
  refine sh_icmp_ge (pc := 35) (tgt := 180) dL_areSteps_35 (by decide) hb_1 hb_2 (fun q_3 => ?_) (fun q_3 => ?_)
  · replace h := h.1 q_3
    refine sh_iload (pc := 180) dL_areSteps_180 rfl ?_
    obtain ⟨hb_4, h⟩ := h
    refine sh_if_eq (pc := 182) (tgt := 198) dL_areSteps_182 (by decide) hb_4  (fun q_5 => ?_) (fun q_5 => ?_)
    · replace h := h.1 q_5
      refine sh_iconst (pc := 198) (v := 0) dL_areSteps_198 rfl ?_
      exact l_zret he dL_areSteps_199 rfl (Or.inl rfl) h
    · replace h := h.2 q_5
      refine sh_aload_n (pc := 185) dL_areSteps_185 rfl rfl ?_
      refine l_F0 (pc := 186) hx dL_areSteps_186 lk_L_72 rfl h (fun v7 J6 h => ?_)
      refine sh_iload (pc := 189) dL_areSteps_189 rfl ?_
      obtain ⟨ho_8, h⟩ := h
      refine l_icmp_ne (pc := 191) (tgt := 198) dL_areSteps_191 (by decide) ho_8 (fun q_9 => ?_) (fun q_9 => ?_)
      · replace h := h.1 q_9
        refine sh_iconst (pc := 198) (v := 0) dL_areSteps_198 rfl ?_
        exact l_zret he dL_areSteps_199 rfl (Or.inl rfl) h
      · replace h := h.2 q_9
        refine sh_iconst (pc := 194) (v := 1) dL_areSteps_194 rfl ?_
        refine sh_goto (pc := 195) (tgt := 199) dL_areSteps_195 (by decide) ?_
        exact l_zret he dL_areSteps_199 rfl (Or.inr rfl) h
  · replace h := h.2 q_3
    refine sh_iload (pc := 38) dL_areSteps_38 rfl ?_
    refine sh_aload_n (pc := 40) dL_areSteps_40 rfl rfl ?_
    refine sh_iconst (pc := 41) (v := 1) dL_areSteps_41 rfl ?_
    refine l_ald (pc := 42) dL_areSteps_42 hN (by decide) ?_
    obtain ⟨ho_10, h⟩ := h
    refine l_icmp_eq (pc := 43) (tgt := 73) dL_areSteps_43 (by decide) ho_10 (fun q_11 => ?_) (fun q_11 => ?_)
    · replace h := h.1 q_11
      exact sh_O.locals h (sub_some (sub_some (sub_some (sub_some (sub_some (sub_some (sub_some (sub_some (sub_none (sub_none (sub_none sub_nil)))))))))))
    · replace h := h.2 q_11
      refine sh_aload_n (pc := 46) dL_areSteps_46 rfl rfl ?_
      refine sh_bipush (pc := 47) (v := 7) dL_areSteps_47 (by decide) ?_
      refine sh_iload (pc := 49) dL_areSteps_49 rfl ?_
      refine sh_imul (pc := 51) dL_areSteps_51 ?_
      refine sh_iconst (pc := 52) (v := 3) dL_areSteps_52 rfl ?_
      refine sh_iadd (pc := 53) dL_areSteps_53 ?_
      obtain ⟨hi_12, h⟩ := h
      refine l_ald (pc := 54) dL_areSteps_54 hG hi_12 ?_
      obtain ⟨hb_13, h⟩ := h
      refine sh_if_ne (pc := 55) (tgt := 73) dL_areSteps_55 (by decide) hb_13  (fun q_14 => ?_) (fun q_14 => ?_)
      · replace h := h.1 q_14
        exact sh_O.locals h (sub_some (sub_some (sub_some (sub_some (sub_some (sub_some (sub_some (sub_some (sub_none (sub_none (sub_none sub_nil)))))))))))
      · replace h := h.2 q_14
        refine sh_aload_n (pc := 58) dL_areSteps_58 rfl rfl ?_
        refine sh_aload_n (pc := 59) dL_areSteps_59 rfl rfl ?_
        refine sh_aload_n (pc := 60) dL_areSteps_60 rfl rfl ?_
        refine sh_iload (pc := 61) dL_areSteps_61 rfl ?_
        refine l_S4i (pc := 63) dL_areSteps_63 lk_L_44 rfl h (fun v16 J15 h => ?_)
        obtain ⟨hb_17, h⟩ := h
        refine sh_if_le (pc := 66) (tgt := 73) dL_areSteps_66 (by decide) hb_17  (fun q_18 => ?_) (fun q_18 => ?_)
        · replace h := h.1 q_18
          exact sh_O.locals h (sub_some (sub_some (sub_some (sub_some (sub_some (sub_some (sub_some (sub_some (sub_none (sub_none (sub_none sub_nil)))))))))))
        · replace h := h.2 q_18
          refine sh_iconst (pc := 69) (v := 1) dL_areSteps_69 rfl ?_
          refine sh_goto (pc := 70) (tgt := 74) dL_areSteps_70 (by decide) ?_
          refine k_istore (pc := 74) [some (.inr 1), some (.inr G), some (.inr L), some (.inr N), some (.inl y4), some (.inl y5), some (.inl y6), some (.inl y7), some (.inl 1), none, none] dL_areSteps_74 rfl (by decide) ?_
          refine sh_iload (pc := 76) dL_areSteps_76 rfl ?_
          refine sh_if_eq (pc := 78) (tgt := 92) dL_areSteps_78 (by decide) (bd_lit (by decide))  (fun q_19 => ?_) (fun q_19 => ?_)
          · exact absurd q_19 (by decide)
          · skip
            refine sh_aload_n (pc := 81) dL_areSteps_81 rfl rfl ?_
            refine sh_aload_n (pc := 82) dL_areSteps_82 rfl rfl ?_
            refine sh_aload_n (pc := 83) dL_areSteps_83 rfl rfl ?_
            refine sh_iload (pc := 84) dL_areSteps_84 rfl ?_
            obtain ⟨hf_22, h⟩ := h
            refine l_A4 (pc := 86) (cn' := (cn.1 + 2, cn.2 + 100)) dL_areSteps_86 lk_L_69 hf_22 ⟨by simp [sh_noref], by have hk0 := hx.1; have hk2 : (G : Nat) < c.1 := (hG).lt; have hk3 : (L : Nat) < c.1 := (hL).lt; have hk4 : (N : Nat) < c.1 := (hN).lt; intro o ho; simp at ho; omega⟩ rfl h (fun v21 J20 h => ?_)
            refine sh_goto (pc := 89) (tgt := 94) dL_areSteps_89 (by decide) ?_
            exact sh_O.locals h (sub_some (sub_some (sub_some (sub_some (sub_some (sub_some (sub_some (sub_some (sub_none (sub_none (sub_none sub_nil)))))))))))
set_option maxRecDepth 100000 in
set_option maxHeartbeats 4000000 in
theorem lL_areSteps_73 {c0 : sh_Cx} {cn : Nat × Nat} {c : sh_Cx} (hx : cx c) {G : Nat} (hG : dy c G 42) {L : Nat} (hL : dy c L 12) {N : Nat} (hN : dy c N 9) (he : ext c0 c) {y4 : Int} {y5 : Int} {y6 : Int} {y7 : Int} {I : sh_Mem} {Q : Int → sh_Mem → Prop} (h : kl c cn mL_areSteps 94 [some (.inr 1), some (.inr G), some (.inr L), some (.inr N), some (.inl y4), some (.inl y5), some (.inl y6), some (.inl y7), none, none, none] [.inl (-4)] I (qli c0 Q)) : kl c cn mL_areSteps 73 [some (.inr 1), some (.inr G), some (.inr L), some (.inr N), some (.inl y4), some (.inl y5), some (.inl y6), some (.inl y7), none, none, none] [] I (qli c0 Q) := by
  refine sh_iconst (pc := 73) (v := 0) dL_areSteps_73 rfl ?_
  refine k_istore (pc := 74) [some (.inr 1), some (.inr G), some (.inr L), some (.inr N), some (.inl y4), some (.inl y5), some (.inl y6), some (.inl y7), some (.inl 0), none, none] dL_areSteps_74 rfl (by decide) ?_
  refine sh_iload (pc := 76) dL_areSteps_76 rfl ?_
  refine sh_if_eq (pc := 78) (tgt := 92) dL_areSteps_78 (by decide) (bd_lit (by decide))  (fun q_1 => ?_) (fun q_1 => ?_)
  · skip
    refine sh_bipush (pc := 92) (v := (-4)) dL_areSteps_92 (by decide) ?_
    exact sh_O.locals h (sub_some (sub_some (sub_some (sub_some (sub_some (sub_some (sub_some (sub_some (sub_none (sub_none (sub_none sub_nil)))))))))))
  · exact absurd q_1 (by decide)
set_option maxRecDepth 100000 in
set_option maxHeartbeats 4000000 in
theorem lL_areSteps_94 {c0 : sh_Cx} {cn : Nat × Nat} {c : sh_Cx} (hx : cx c) {G : Nat} (hG : dy c G 42) {L : Nat} (hL : dy c L 12) {N : Nat} (hN : dy c N 9) (he : ext c0 c) {y4 : Int} {y5 : Int} {y6 : Int} {y7 : Int} {z0 : Int} {I : sh_Mem} {Q : Int → sh_Mem → Prop} (h : (sh_Bd y6 ∧ ((y6 = 0 → kl c cn mL_areSteps 117 [some (.inr 1), some (.inr G), some (.inr L), some (.inr N), some (.inl y4), some (.inl y5), none, some (.inl y7), none, some (.inl z0), none] [.inl 0] I (qli c0 Q)) ∧ (¬ y6 = 0 → (cc mX6_stepsTo [.inr 1, .inl y7] I (qi fun v4 J3 => ((v4 = z0 ∨ (sh_Bd v4 ∧ sh_Bd z0)) ∧ ((¬ v4 = z0 → kl c cn mL_areSteps 117 [some (.inr 1), some (.inr G), some (.inr L), some (.inr N), some (.inl y4), some (.inl y5), none, some (.inl y7), none, some (.inl z0), none] [.inl 0] (mxM J3 I) (qli c0 Q)) ∧ (v4 = z0 → kl c cn mL_areSteps 117 [some (.inr 1), some (.inr G), some (.inr L), some (.inr N), some (.inl y4), some (.inl y5), none, some (.inl y7), none, some (.inl z0), none] [.inl 1] (mxM J3 I) (qli c0 Q)))))))))) : kl c cn mL_areSteps 94 [some (.inr 1), some (.inr G), some (.inr L), some (.inr N), some (.inl y4), some (.inl y5), some (.inl y6), some (.inl y7), none, none, none] [.inl z0] I (qli c0 Q) := by
  refine k_istore (pc := 94) [some (.inr 1), some (.inr G), some (.inr L), some (.inr N), some (.inl y4), some (.inl y5), some (.inl y6), some (.inl y7), none, some (.inl z0), none] dL_areSteps_94 rfl (by decide) ?_
  refine sh_iload (pc := 96) dL_areSteps_96 rfl ?_
  obtain ⟨hb_1, h⟩ := h
  refine sh_if_eq (pc := 98) (tgt := 116) dL_areSteps_98 (by decide) hb_1  (fun q_2 => ?_) (fun q_2 => ?_)
  · replace h := h.1 q_2
    refine sh_iconst (pc := 116) (v := 0) dL_areSteps_116 rfl ?_
    exact sh_O.locals h (sub_some (sub_some (sub_some (sub_some (sub_some (sub_some (sub_none (sub_some (sub_none (sub_some (sub_none sub_nil)))))))))))
  · replace h := h.2 q_2
    refine sh_aload_n (pc := 101) dL_areSteps_101 rfl rfl ?_
    refine sh_iload (pc := 102) dL_areSteps_102 rfl ?_
    refine l_F1 (pc := 104) hx dL_areSteps_104 lk_L_66 rfl h (fun v4 J3 h => ?_)
    refine sh_iload (pc := 107) dL_areSteps_107 rfl ?_
    obtain ⟨ho_5, h⟩ := h
    refine l_icmp_ne (pc := 109) (tgt := 116) dL_areSteps_109 (by decide) ho_5 (fun q_6 => ?_) (fun q_6 => ?_)
    · replace h := h.1 q_6
      refine sh_iconst (pc := 116) (v := 0) dL_areSteps_116 rfl ?_
      exact sh_O.locals h (sub_some (sub_some (sub_some (sub_some (sub_some (sub_some (sub_none (sub_some (sub_none (sub_some (sub_none sub_nil)))))))))))
    · replace h := h.2 q_6
      refine sh_iconst (pc := 112) (v := 1) dL_areSteps_112 rfl ?_
      refine sh_goto (pc := 113) (tgt := 117) dL_areSteps_113 (by decide) ?_
      exact sh_O.locals h (sub_some (sub_some (sub_some (sub_some (sub_some (sub_some (sub_none (sub_some (sub_none (sub_some (sub_none sub_nil)))))))))))
set_option maxRecDepth 100000 in
set_option maxHeartbeats 4000000 in
theorem lL_areSteps_117 {c0 : sh_Cx} {cn : Nat × Nat} {c : sh_Cx} (hx : cx c) {G : Nat} (hG : dy c G 42) {L : Nat} (hL : dy c L 12) {N : Nat} (hN : dy c N 9) (he : ext c0 c) {y4 : Int} {y5 : Int} {y7 : Int} {y9 : Int} {z0 : Int} {I : sh_Mem} {Q : Int → sh_Mem → Prop} (h : (sh_Bd y9 ∧ ((0 ≤ y9 → ((y7 = (I N 1) ∨ (sh_Bd y7 ∧ sh_Bd (I N 1))) ∧ ((y7 = (I N 1) → kl c cn mL_areSteps 154 [some (.inr 1), some (.inr G), some (.inr L), some (.inr N), some (.inl y4), some (.inl y5), some (.inl z0), some (.inl y7), none, none, some (.inl y9)] [] I (qli c0 Q)) ∧ (¬ y7 = (I N 1) → (sh_Bd y5 ∧ ((y9 ≤ y5 → kl c cn mL_areSteps 154 [some (.inr 1), some (.inr G), some (.inr L), some (.inr N), some (.inl y4), some (.inl y5), some (.inl z0), some (.inl y7), none, none, some (.inl y9)] [] I (qli c0 Q)) ∧ (y5 < y9 → kl c cn mL_areSteps 156 [some (.inr 1), some (.inr G), some (.inr L), some (.inr N), none, some (.inl y5), some (.inl z0), some (.inl y7), none, none, some (.inl y9)] [.inl y7] I (qli c0 Q)))))))) ∧ (y9 < 0 → ((y7 = (I N 1) ∨ (sh_Bd y7 ∧ sh_Bd (I N 1))) ∧ ((y7 = (I N 1) → kl c cn mL_areSteps 154 [some (.inr 1), some (.inr G), some (.inr L), some (.inr N), some (.inl y4), some (.inl y5), some (.inl z0), some (.inl y7), none, none, some (.inl 500)] [] I (qli c0 Q)) ∧ (¬ y7 = (I N 1) → (sh_Bd y5 ∧ ((500 ≤ y5 → kl c cn mL_areSteps 154 [some (.inr 1), some (.inr G), some (.inr L), some (.inr N), some (.inl y4), some (.inl y5), some (.inl z0), some (.inl y7), none, none, some (.inl 500)] [] I (qli c0 Q)) ∧ (y5 < 500 → kl c cn mL_areSteps 156 [some (.inr 1), some (.inr G), some (.inr L), some (.inr N), none, some (.inl y5), some (.inl z0), some (.inl y7), none, none, some (.inl 500)] [.inl y7] I (qli c0 Q))))))))))) : kl c cn mL_areSteps 117 [some (.inr 1), some (.inr G), some (.inr L), some (.inr N), some (.inl y4), some (.inl y5), none, some (.inl y7), none, some (.inl y9), none] [.inl z0] I (qli c0 Q) := by
  refine k_istore (pc := 117) [some (.inr 1), some (.inr G), some (.inr L), some (.inr N), some (.inl y4), some (.inl y5), some (.inl z0), some (.inl y7), none, some (.inl y9), none] dL_areSteps_117 rfl (by decide) ?_
  refine sh_iload (pc := 119) dL_areSteps_119 rfl ?_
  obtain ⟨hb_1, h⟩ := h
  refine sh_if_ge (pc := 121) (tgt := 130) dL_areSteps_121 (by decide) hb_1  (fun q_2 => ?_) (fun q_2 => ?_)
  · replace h := h.1 q_2
    refine sh_iload (pc := 130) dL_areSteps_130 rfl ?_
    refine k_istore (pc := 132) [some (.inr 1), some (.inr G), some (.inr L), some (.inr N), some (.inl y4), some (.inl y5), some (.inl z0), some (.inl y7), none, some (.inl y9), some (.inl y9)] dL_areSteps_132 rfl (by decide) ?_
    refine sh_iload (pc := 134) dL_areSteps_134 rfl ?_
    refine sh_aload_n (pc := 136) dL_areSteps_136 rfl rfl ?_
    refine sh_iconst (pc := 137) (v := 1) dL_areSteps_137 rfl ?_
    refine l_ald (pc := 138) dL_areSteps_138 hN (by decide) ?_
    obtain ⟨ho_3, h⟩ := h
    refine l_icmp_eq (pc := 139) (tgt := 154) dL_areSteps_139 (by decide) ho_3 (fun q_4 => ?_) (fun q_4 => ?_)
    · replace h := h.1 q_4
      exact sh_O.locals h (sub_some (sub_some (sub_some (sub_some (sub_some (sub_some (sub_some (sub_some (sub_none (sub_none (sub_some sub_nil)))))))))))
    · replace h := h.2 q_4
      refine sh_iload (pc := 142) dL_areSteps_142 rfl ?_
      refine sh_iload (pc := 144) dL_areSteps_144 rfl ?_
      obtain ⟨hb_5, h⟩ := h
      refine sh_icmp_le (pc := 146) (tgt := 154) dL_areSteps_146 (by decide) hb_1 hb_5 (fun q_6 => ?_) (fun q_6 => ?_)
      · replace h := h.1 q_6
        exact sh_O.locals h (sub_some (sub_some (sub_some (sub_some (sub_some (sub_some (sub_some (sub_some (sub_none (sub_none (sub_some sub_nil)))))))))))
      · replace h := h.2 q_6
        refine sh_iload (pc := 149) dL_areSteps_149 rfl ?_
        refine sh_goto (pc := 151) (tgt := 156) dL_areSteps_151 (by decide) ?_
        exact sh_O.locals h (sub_some (sub_some (sub_some (sub_some (sub_none (sub_some (sub_some (sub_some (sub_none (sub_none (sub_some sub_nil)))))))))))
  · replace h := h.2 q_2
    refine sh_sipush (pc := 124) (v := 500) dL_areSteps_124 (by decide) ?_
    refine sh_goto (pc := 127) (tgt := 132) dL_areSteps_127 (by decide) ?_
    refine k_istore (pc := 132) [some (.inr 1), some (.inr G), some (.inr L), some (.inr N), some (.inl y4), some (.inl y5), some (.inl z0), some (.inl y7), none, some (.inl y9), some (.inl 500)] dL_areSteps_132 rfl (by decide) ?_
    refine sh_iload (pc := 134) dL_areSteps_134 rfl ?_
    refine sh_aload_n (pc := 136) dL_areSteps_136 rfl rfl ?_
    refine sh_iconst (pc := 137) (v := 1) dL_areSteps_137 rfl ?_
    refine l_ald (pc := 138) dL_areSteps_138 hN (by decide) ?_
    obtain ⟨ho_7, h⟩ := h
    refine l_icmp_eq (pc := 139) (tgt := 154) dL_areSteps_139 (by decide) ho_7 (fun q_8 => ?_) (fun q_8 => ?_)
    · replace h := h.1 q_8
      exact sh_O.locals h (sub_some (sub_some (sub_some (sub_some (sub_some (sub_some (sub_some (sub_some (sub_none (sub_none (sub_some sub_nil)))))))))))
    · replace h := h.2 q_8
      refine sh_iload (pc := 142) dL_areSteps_142 rfl ?_
      refine sh_iload (pc := 144) dL_areSteps_144 rfl ?_
      obtain ⟨hb_9, h⟩ := h
      refine sh_icmp_le (pc := 146) (tgt := 154) dL_areSteps_146 (by decide) (bd_lit (by decide)) hb_9 (fun q_10 => ?_) (fun q_10 => ?_)
      · replace h := h.1 q_10
        exact sh_O.locals h (sub_some (sub_some (sub_some (sub_some (sub_some (sub_some (sub_some (sub_some (sub_none (sub_none (sub_some sub_nil)))))))))))
      · replace h := h.2 q_10
        refine sh_iload (pc := 149) dL_areSteps_149 rfl ?_
        refine sh_goto (pc := 151) (tgt := 156) dL_areSteps_151 (by decide) ?_
        exact sh_O.locals h (sub_some (sub_some (sub_some (sub_some (sub_none (sub_some (sub_some (sub_some (sub_none (sub_none (sub_some sub_nil)))))))))))
set_option maxRecDepth 100000 in
set_option maxHeartbeats 4000000 in
theorem lL_areSteps_154 {c0 : sh_Cx} {cn : Nat × Nat} {c : sh_Cx} (hx : cx c) {G : Nat} (hG : dy c G 42) {L : Nat} (hL : dy c L 12) {N : Nat} (hN : dy c N 9) (he : ext c0 c) {y4 : Int} {y5 : Int} {y6 : Int} {y7 : Int} {y10 : Int} {I : sh_Mem} {Q : Int → sh_Mem → Prop} (h : kl c cn mL_areSteps 156 [some (.inr 1), some (.inr G), some (.inr L), some (.inr N), none, some (.inl y5), some (.inl y6), some (.inl y7), none, none, some (.inl y10)] [.inl y4] I (qli c0 Q)) : kl c cn mL_areSteps 154 [some (.inr 1), some (.inr G), some (.inr L), some (.inr N), some (.inl y4), some (.inl y5), some (.inl y6), some (.inl y7), none, none, some (.inl y10)] [] I (qli c0 Q) := by
  refine sh_iload (pc := 154) dL_areSteps_154 rfl ?_
  exact sh_O.locals h (sub_some (sub_some (sub_some (sub_some (sub_none (sub_some (sub_some (sub_some (sub_none (sub_none (sub_some sub_nil)))))))))))
set_option maxRecDepth 100000 in
set_option maxHeartbeats 4000000 in
theorem lL_areSteps_156 {c0 : sh_Cx} {cn : Nat × Nat} {c : sh_Cx} (hx : cx c) {G : Nat} (hG : dy c G 42) {L : Nat} (hL : dy c L 12) {N : Nat} (hN : dy c N 9) (he : ext c0 c) {y5 : Int} {y6 : Int} {y7 : Int} {y10 : Int} {z0 : Int} {I : sh_Mem} {Q : Int → sh_Mem → Prop} (h : ((z0 = y7 ∨ (sh_Bd z0 ∧ sh_Bd y7)) ∧ ((¬ z0 = y7 → kl c cn mL_areSteps 29 [some (.inr 1), some (.inr G), some (.inr L), some (.inr N), some (.inl z0), some (.inl y5), some (.inl y6), some (.inl (y7 + 1)), none, none, none] [] I (qli c0 Q)) ∧ (z0 = y7 → kl c cn mL_areSteps 29 [some (.inr 1), some (.inr G), some (.inr L), some (.inr N), some (.inl z0), some (.inl y10), some (.inl y6), some (.inl (y7 + 1)), none, none, none] [] I (qli c0 Q))))) : kl c cn mL_areSteps 156 [some (.inr 1), some (.inr G), some (.inr L), some (.inr N), none, some (.inl y5), some (.inl y6), some (.inl y7), none, none, some (.inl y10)] [.inl z0] I (qli c0 Q) := by
  refine k_istore (pc := 156) [some (.inr 1), some (.inr G), some (.inr L), some (.inr N), some (.inl z0), some (.inl y5), some (.inl y6), some (.inl y7), none, none, some (.inl y10)] dL_areSteps_156 rfl (by decide) ?_
  refine sh_iload (pc := 158) dL_areSteps_158 rfl ?_
  refine sh_iload (pc := 160) dL_areSteps_160 rfl ?_
  obtain ⟨ho_1, h⟩ := h
  refine l_icmp_ne (pc := 162) (tgt := 170) dL_areSteps_162 (by decide) ho_1 (fun q_2 => ?_) (fun q_2 => ?_)
  · replace h := h.1 q_2
    refine sh_iload (pc := 170) dL_areSteps_170 rfl ?_
    refine k_istore (pc := 172) [some (.inr 1), some (.inr G), some (.inr L), some (.inr N), some (.inl z0), some (.inl y5), some (.inl y6), some (.inl y7), none, none, some (.inl y10)] dL_areSteps_172 rfl (by decide) ?_
    refine k_iinc (pc := 174) [some (.inr 1), some (.inr G), some (.inr L), some (.inr N), some (.inl z0), some (.inl y5), some (.inl y6), some (.inl (y7 + 1)), none, none, some (.inl y10)] dL_areSteps_174 rfl rfl (by decide) ?_
    refine sh_goto (pc := 177) (tgt := 29) dL_areSteps_177 (by decide) ?_
    exact sh_O.locals h (sub_some (sub_some (sub_some (sub_some (sub_some (sub_some (sub_some (sub_some (sub_none (sub_none (sub_none sub_nil)))))))))))
  · replace h := h.2 q_2
    refine sh_iload (pc := 165) dL_areSteps_165 rfl ?_
    refine sh_goto (pc := 167) (tgt := 172) dL_areSteps_167 (by decide) ?_
    refine k_istore (pc := 172) [some (.inr 1), some (.inr G), some (.inr L), some (.inr N), some (.inl z0), some (.inl y10), some (.inl y6), some (.inl y7), none, none, some (.inl y10)] dL_areSteps_172 rfl (by decide) ?_
    refine k_iinc (pc := 174) [some (.inr 1), some (.inr G), some (.inr L), some (.inr N), some (.inl z0), some (.inl y10), some (.inl y6), some (.inl (y7 + 1)), none, none, some (.inl y10)] dL_areSteps_174 rfl rfl (by decide) ?_
    refine sh_goto (pc := 177) (tgt := 29) dL_areSteps_177 (by decide) ?_
    exact sh_O.locals h (sub_some (sub_some (sub_some (sub_some (sub_some (sub_some (sub_some (sub_some (sub_none (sub_none (sub_none sub_nil)))))))))))
set_option maxRecDepth 100000 in
set_option maxHeartbeats 4000000 in
theorem lL_law_8 {c : sh_Cx} (hx : cx c) {I : sh_Mem} {Q : Int → sh_Mem → Prop} (h : kl (cp (cp (cp c 42) 12) 9) (121, 1150) mL_law 33 [some (.inr 0), some (.inr 1), some (.inr c.1), some (.inr (cp c 42).1), some (.inr (cp (cp c 42) 12).1), some (.inl 0), none, none] [] (sh_u (sh_cl (sh_cl (sh_cl I c.1) (cp c 42).1) (cp (cp c 42) 12).1) (cp (cp c 42) 12).1 6 3) (qli c Q)) : kl c (118, 1087) mL_law 8 [some (.inr 0), some (.inr 1), none, none, none, none, none, none] [] I (qli c Q) := by
  refine sh_bipush (pc := 8) (v := 42) dL_law_8 (by decide) ?_
  refine l_newa (pc := 10) (N := 42) dL_law_10 wa_int rfl (by decide) hx.1 (by simp [sh_noref]) (by have hk0 := hx.1; intro o ho; simp at ho; omega) (by decide) ?_
  refine k_astore_n (pc := 12) [some (.inr 0), some (.inr 1), some (.inr c.1), none, none, none, none, none] dL_law_12 rfl rfl (by decide) ?_
  refine sh_bipush (pc := 13) (v := 12) dL_law_13 (by decide) ?_
  refine l_newa (pc := 15) (N := 12) dL_law_15 wa_int rfl (by decide) (cx.push (N := 42) hx).1 (by simp [sh_noref]) (by have hk0 := (cx.push (N := 42) hx).1; have hk3 : (c.1 : Nat) < (cp c 42).1 := ((dy.top hx.1 (by decide))).lt; intro o ho; simp at ho; omega) (by decide) ?_
  refine k_astore_n (pc := 17) [some (.inr 0), some (.inr 1), some (.inr c.1), some (.inr (cp c 42).1), none, none, none, none] dL_law_17 rfl rfl (by decide) ?_
  refine sh_bipush (pc := 18) (v := 9) dL_law_18 (by decide) ?_
  refine l_newa (pc := 20) (N := 9) dL_law_20 wa_int rfl (by decide) (cx.push (N := 12) (cx.push (N := 42) hx)).1 (by simp [sh_noref]) (by have hk0 := (cx.push (N := 12) (cx.push (N := 42) hx)).1; have hk3 : (c.1 : Nat) < (cp (cp c 42) 12).1 := ((dy.push (dy.top hx.1 (by decide)))).lt; have hk4 : ((cp c 42).1 : Nat) < (cp (cp c 42) 12).1 := ((dy.top (cx.push (N := 42) hx).1 (by decide))).lt; intro o ho; simp at ho; omega) (by decide) ?_
  refine l_astore (pc := 22) [some (.inr 0), some (.inr 1), some (.inr c.1), some (.inr (cp c 42).1), some (.inr (cp (cp c 42) 12).1), none, none, none] dL_law_22 rfl (by decide) ?_
  refine sh_aload (pc := 24) dL_law_24 rfl ?_
  refine sh_bipush (pc := 26) (v := 6) dL_law_26 (by decide) ?_
  refine sh_iconst (pc := 28) (v := 3) dL_law_28 rfl ?_
  refine l_ast (pc := 29) dL_law_29 (dy.top (cx.push (N := 12) (cx.push (N := 42) hx)).1 (by decide)) (by decide) ?_
  refine sh_iconst (pc := 30) (v := 0) dL_law_30 rfl ?_
  refine k_istore (pc := 31) [some (.inr 0), some (.inr 1), some (.inr c.1), some (.inr (cp c 42).1), some (.inr (cp (cp c 42) 12).1), some (.inl 0), none, none] dL_law_31 rfl (by decide) ?_
  exact sh_O.locals h (sub_some (sub_some (sub_some (sub_some (sub_some (sub_some (sub_none (sub_none sub_nil))))))))
set_option maxRecDepth 100000 in
set_option maxHeartbeats 4000000 in
theorem lL_law_33 {c0 : sh_Cx} {cn : Nat × Nat} {c : sh_Cx} (hx : cx c) (he : ext c0 c) {A2 : Nat} (hA2 : dy c A2 42) {A3 : Nat} (hA3 : dy c A3 12) {A4 : Nat} (hA4 : dy c A4 9) {y5 : Int} {I : sh_Mem} {Q : Int → sh_Mem → Prop} (h : (sh_Bd y5 ∧ ((3 ≤ y5 → (cl c mL_areRunners [.inr 1, .inr A2, .inr A3, .inr A4] I (li c fun v4 J3 => ((v4 = 1 ∧ (sh_fit mL_law mL_areShadows cn 0 ∧ (cl c mL_areShadows [.inr 1, .inr A2, .inr A3, .inr A4] J3 (li c fun v6 J5 => ((v6 = 1 ∧ (cc mX6_safest [.inr 1] J5 (qi fun v9 J8 => ((v9 = (-5) ∨ (sh_Bd v9 ∧ sh_Bd (-5))) ∧ ((¬ v9 = (-5) → kl c (cn.1 + 1, cn.2 + 3) mL_law 123 [some (.inr 0), some (.inr 1), some (.inr A2), some (.inr A3), some (.inr A4), some (.inl 0), some (.inl 0), none] [] (mxM J8 J5) (qli c0 Q)) ∧ (v9 = (-5) → (cc mX6_ifTurns [.inr 1, .inl 1, .inl 1] (mxM J8 J5) (qi fun v13 J12 => ((v13 = (-5) ∨ (sh_Bd v13 ∧ sh_Bd (-5))) ∧ ((¬ v13 = (-5) → kl c (cn.1 + 1, cn.2 + 3) mL_law 123 [some (.inr 0), some (.inr 1), some (.inr A2), some (.inr A3), some (.inr A4), some (.inl 0), some (.inl 0), none] [] (mxM J12 (mxM J8 J5)) (qli c0 Q)) ∧ (v13 = (-5) → kl c (cn.1 + 1, cn.2 + 3) mL_law 123 [some (.inr 0), some (.inr 1), some (.inr A2), some (.inr A3), some (.inr A4), some (.inl 1), some (.inl 0), none] [] (mxM J12 (mxM J8 J5)) (qli c0 Q)))))))))))) ∨ (v6 = 0 ∧ kl c (cn.1 + 1, cn.2 + 3) mL_law 123 [some (.inr 0), some (.inr 1), some (.inr A2), some (.inr A3), some (.inr A4), some (.inl 0), some (.inl 0), none] [] J5 (qli c0 Q))))))) ∨ (v4 = 0 ∧ kl c cn mL_law 123 [some (.inr 0), some (.inr 1), some (.inr A2), some (.inr A3), some (.inr A4), some (.inl 0), some (.inl 0), none] [] J3 (qli c0 Q)))))) ∧ (y5 < 3 → ((0 ≤ (4 * y5) ∧ (4 * y5) < (12 : Int)) ∧ ((0 ≤ ((4 * y5) + 1) ∧ ((4 * y5) + 1) < (12 : Int)) ∧ ((0 ≤ ((4 * y5) + 3) ∧ ((4 * y5) + 3) < (12 : Int)) ∧ kl c cn mL_law 33 [some (.inr 0), some (.inr 1), some (.inr A2), some (.inr A3), some (.inr A4), some (.inl (y5 + 1)), none, none] [] (sh_u (sh_u (sh_u I A3 (4 * y5) y5) A3 ((4 * y5) + 1) 1) A3 ((4 * y5) + 3) 1) (qli c0 Q)))))))) : kl c cn mL_law 33 [some (.inr 0), some (.inr 1), some (.inr A2), some (.inr A3), some (.inr A4), some (.inl y5), none, none] [] I (qli c0 Q) := by
  refine sh_iload (pc := 33) dL_law_33 rfl ?_
  refine sh_iconst (pc := 35) (v := 3) dL_law_35 rfl ?_
  obtain ⟨hb_1, h⟩ := h
  refine sh_icmp_ge (pc := 36) (tgt := 71) dL_law_36 (by decide) hb_1 (bd_lit (by decide)) (fun q_2 => ?_) (fun q_2 => ?_)
  · replace h := h.1 q_2
    refine sh_aload_n (pc := 71) dL_law_71 rfl rfl ?_
    refine sh_aload_n (pc := 72) dL_law_72 rfl rfl ?_
    refine sh_aload_n (pc := 73) dL_law_73 rfl rfl ?_
    refine sh_aload (pc := 74) dL_law_74 rfl ?_
    refine l_S4i (pc := 76) dL_law_76 lk_L_114 rfl h (fun v4 J3 h => ?_)
    rcases h with ⟨rfl, h⟩ | ⟨rfl, h⟩
    · skip
      refine sh_if_eq (pc := 79) (tgt := 117) dL_law_79 (by decide) (bd_lit (by decide)) (fun qz => ?_) (fun qz => ?_)
      · exact absurd qz (by decide)
      · skip
        refine sh_aload_n (pc := 82) dL_law_82 rfl rfl ?_
        refine sh_aload_n (pc := 83) dL_law_83 rfl rfl ?_
        refine sh_aload_n (pc := 84) dL_law_84 rfl rfl ?_
        refine sh_aload (pc := 85) dL_law_85 rfl ?_
        obtain ⟨hf_7, h⟩ := h
        refine l_A4 (pc := 87) (cn' := (cn.1 + 1, cn.2 + 3)) dL_law_87 lk_L_118 hf_7 ⟨by simp [sh_noref], by have hk0 := hx.1; have hk3 : (A2 : Nat) < c.1 := (hA2).lt; have hk4 : (A3 : Nat) < c.1 := (hA3).lt; have hk5 : (A4 : Nat) < c.1 := (hA4).lt; intro o ho; simp at ho; omega⟩ rfl h (fun v6 J5 h => ?_)
        rcases h with ⟨rfl, h⟩ | ⟨rfl, h⟩
        · skip
          refine sh_if_eq (pc := 90) (tgt := 117) dL_law_90 (by decide) (bd_lit (by decide)) (fun qz => ?_) (fun qz => ?_)
          · exact absurd qz (by decide)
          · skip
            refine sh_aload_n (pc := 93) dL_law_93 rfl rfl ?_
            refine l_F0 (pc := 94) hx dL_law_94 lk_L_72 rfl h (fun v9 J8 h => ?_)
            refine sh_bipush (pc := 97) (v := (-5)) dL_law_97 (by decide) ?_
            obtain ⟨ho_10, h⟩ := h
            refine l_icmp_ne (pc := 99) (tgt := 117) dL_law_99 (by decide) ho_10 (fun q_11 => ?_) (fun q_11 => ?_)
            · replace h := h.1 q_11
              refine sh_iconst (pc := 117) (v := 0) dL_law_117 rfl ?_
              refine k_istore (pc := 118) [some (.inr 0), some (.inr 1), some (.inr A2), some (.inr A3), some (.inr A4), some (.inl 0), none, none] dL_law_118 rfl (by decide) ?_
              refine sh_iconst (pc := 120) (v := 0) dL_law_120 rfl ?_
              refine k_istore (pc := 121) [some (.inr 0), some (.inr 1), some (.inr A2), some (.inr A3), some (.inr A4), some (.inl 0), some (.inl 0), none] dL_law_121 rfl (by decide) ?_
              exact sh_O.locals h (sub_some (sub_some (sub_some (sub_some (sub_some (sub_some (sub_some (sub_none sub_nil))))))))
            · replace h := h.2 q_11
              refine sh_aload_n (pc := 102) dL_law_102 rfl rfl ?_
              refine sh_iconst (pc := 103) (v := 1) dL_law_103 rfl ?_
              refine sh_iconst (pc := 104) (v := 1) dL_law_104 rfl ?_
              refine l_F2 (pc := 105) hx dL_law_105 lk_L_84 rfl h (fun v13 J12 h => ?_)
              refine sh_bipush (pc := 108) (v := (-5)) dL_law_108 (by decide) ?_
              obtain ⟨ho_14, h⟩ := h
              refine l_icmp_ne (pc := 110) (tgt := 117) dL_law_110 (by decide) ho_14 (fun q_15 => ?_) (fun q_15 => ?_)
              · replace h := h.1 q_15
                refine sh_iconst (pc := 117) (v := 0) dL_law_117 rfl ?_
                refine k_istore (pc := 118) [some (.inr 0), some (.inr 1), some (.inr A2), some (.inr A3), some (.inr A4), some (.inl 0), none, none] dL_law_118 rfl (by decide) ?_
                refine sh_iconst (pc := 120) (v := 0) dL_law_120 rfl ?_
                refine k_istore (pc := 121) [some (.inr 0), some (.inr 1), some (.inr A2), some (.inr A3), some (.inr A4), some (.inl 0), some (.inl 0), none] dL_law_121 rfl (by decide) ?_
                exact sh_O.locals h (sub_some (sub_some (sub_some (sub_some (sub_some (sub_some (sub_some (sub_none sub_nil))))))))
              · replace h := h.2 q_15
                refine sh_iconst (pc := 113) (v := 1) dL_law_113 rfl ?_
                refine sh_goto (pc := 114) (tgt := 118) dL_law_114 (by decide) ?_
                refine k_istore (pc := 118) [some (.inr 0), some (.inr 1), some (.inr A2), some (.inr A3), some (.inr A4), some (.inl 1), none, none] dL_law_118 rfl (by decide) ?_
                refine sh_iconst (pc := 120) (v := 0) dL_law_120 rfl ?_
                refine k_istore (pc := 121) [some (.inr 0), some (.inr 1), some (.inr A2), some (.inr A3), some (.inr A4), some (.inl 1), some (.inl 0), none] dL_law_121 rfl (by decide) ?_
                exact sh_O.locals h (sub_some (sub_some (sub_some (sub_some (sub_some (sub_some (sub_some (sub_none sub_nil))))))))
        · skip
          refine sh_if_eq (pc := 90) (tgt := 117) dL_law_90 (by decide) (bd_lit (by decide)) (fun qz => ?_) (fun qz => ?_)
          · skip
            refine sh_iconst (pc := 117) (v := 0) dL_law_117 rfl ?_
            refine k_istore (pc := 118) [some (.inr 0), some (.inr 1), some (.inr A2), some (.inr A3), some (.inr A4), some (.inl 0), none, none] dL_law_118 rfl (by decide) ?_
            refine sh_iconst (pc := 120) (v := 0) dL_law_120 rfl ?_
            refine k_istore (pc := 121) [some (.inr 0), some (.inr 1), some (.inr A2), some (.inr A3), some (.inr A4), some (.inl 0), some (.inl 0), none] dL_law_121 rfl (by decide) ?_
            exact sh_O.locals h (sub_some (sub_some (sub_some (sub_some (sub_some (sub_some (sub_some (sub_none sub_nil))))))))
          · exact absurd qz (by decide)
    · skip
      refine sh_if_eq (pc := 79) (tgt := 117) dL_law_79 (by decide) (bd_lit (by decide)) (fun qz => ?_) (fun qz => ?_)
      · skip
        refine sh_iconst (pc := 117) (v := 0) dL_law_117 rfl ?_
        refine k_istore (pc := 118) [some (.inr 0), some (.inr 1), some (.inr A2), some (.inr A3), some (.inr A4), some (.inl 0), none, none] dL_law_118 rfl (by decide) ?_
        refine sh_iconst (pc := 120) (v := 0) dL_law_120 rfl ?_
        refine k_istore (pc := 121) [some (.inr 0), some (.inr 1), some (.inr A2), some (.inr A3), some (.inr A4), some (.inl 0), some (.inl 0), none] dL_law_121 rfl (by decide) ?_
        exact sh_O.locals h (sub_some (sub_some (sub_some (sub_some (sub_some (sub_some (sub_some (sub_none sub_nil))))))))
      · exact absurd qz (by decide)
  · replace h := h.2 q_2
    refine sh_aload_n (pc := 39) dL_law_39 rfl rfl ?_
    refine sh_iconst (pc := 40) (v := 4) dL_law_40 rfl ?_
    refine sh_iload (pc := 41) dL_law_41 rfl ?_
    refine sh_imul (pc := 43) dL_law_43 ?_
    refine sh_iload (pc := 44) dL_law_44 rfl ?_
    obtain ⟨hi_16, h⟩ := h
    refine l_ast (pc := 46) dL_law_46 hA3 hi_16 ?_
    refine sh_aload_n (pc := 47) dL_law_47 rfl rfl ?_
    refine sh_iconst (pc := 48) (v := 4) dL_law_48 rfl ?_
    refine sh_iload (pc := 49) dL_law_49 rfl ?_
    refine sh_imul (pc := 51) dL_law_51 ?_
    refine sh_iconst (pc := 52) (v := 1) dL_law_52 rfl ?_
    refine sh_iadd (pc := 53) dL_law_53 ?_
    refine sh_iconst (pc := 54) (v := 1) dL_law_54 rfl ?_
    obtain ⟨hi_17, h⟩ := h
    refine l_ast (pc := 55) dL_law_55 hA3 hi_17 ?_
    refine sh_aload_n (pc := 56) dL_law_56 rfl rfl ?_
    refine sh_iconst (pc := 57) (v := 4) dL_law_57 rfl ?_
    refine sh_iload (pc := 58) dL_law_58 rfl ?_
    refine sh_imul (pc := 60) dL_law_60 ?_
    refine sh_iconst (pc := 61) (v := 3) dL_law_61 rfl ?_
    refine sh_iadd (pc := 62) dL_law_62 ?_
    refine sh_iconst (pc := 63) (v := 1) dL_law_63 rfl ?_
    obtain ⟨hi_18, h⟩ := h
    refine l_ast (pc := 64) dL_law_64 hA3 hi_18 ?_
    refine k_iinc (pc := 65) [some (.inr 0), some (.inr 1), some (.inr A2), some (.inr A3), some (.inr A4), some (.inl (y5 + 1)), none, none] dL_law_65 rfl rfl (by decide) ?_
    refine sh_goto (pc := 68) (tgt := 33) dL_law_68 (by decide) ?_
    exact sh_O.locals h (sub_some (sub_some (sub_some (sub_some (sub_some (sub_some (sub_none (sub_none sub_nil))))))))
set_option maxRecDepth 100000 in
set_option maxHeartbeats 4000000 in
theorem lL_law_123 {c0 : sh_Cx} {cn : Nat × Nat} {c : sh_Cx} (hx : cx c) (he : ext c0 c) {A2 : Nat} (hA2 : dy c A2 42) {A3 : Nat} (hA3 : dy c A3 12) {A4 : Nat} (hA4 : dy c A4 9) {y5 : Int} {y6 : Int} {I : sh_Mem} {Q : Int → sh_Mem → Prop} (h : (sh_Bd y6 ∧ ((36 ≤ y6 → (sh_01 y5 ∧ Q y5 I)) ∧ (y6 < 36 → (sh_Bd y5 ∧ ((y5 = 0 → (sh_01 y5 ∧ Q y5 I)) ∧ (¬ y5 = 0 → (cl c mL_cell [.inr 0, .inl y6] I (li c fun v8 J7 => ((4 ≤ y6 → (∀ u10 : Int, sh_Bd u10 → (cl c mL_low [.inl u10, .inl 14] J7 (li c fun v13 J12 => (cl c mL_acts [.inr 1, .inr A2, .inr A3, .inr A4, .inl v13, .inl v8] J12 (li c fun v15 J14 => ((v15 = 1 ∧ (cl c mL_areRunners [.inr 1, .inr A2, .inr A3, .inr A4] J14 (li c fun v17 J16 => ((v17 = 1 ∧ (sh_fit mL_law mL_areShadows cn 0 ∧ (cl c mL_areShadows [.inr 1, .inr A2, .inr A3, .inr A4] J16 (li c fun v19 J18 => ((v19 = 1 ∧ (∀ u21 : Int, sh_Bd u21 → (cl c mL_low [.inl u21, .inl (J18 A4 8)] J18 (li c fun v24 J23 => (∀ u25 : Int, sh_Bd u25 → (cl c mL_low [.inl u25, .inl 3] J23 (li c fun v28 J27 => (cl c mL_isShadow [.inr 1, .inr A2, .inr A3, .inr A4, .inl v24, .inl v28] J27 (li c fun v30 J29 => ((v30 = 1 ∧ ((0 ≤ y6 ∧ y6 < 2147483648) ∧ (((y6 % 3) = 2 ∨ (sh_Bd (y6 % 3) ∧ sh_Bd 2)) ∧ ((¬ (y6 % 3) = 2 → kl c (cn.1 + 1, cn.2 + 3) mL_law 272 [some (.inr 0), some (.inr 1), some (.inr A2), some (.inr A3), some (.inr A4), none, some (.inl y6), none] [] J29 (qli c0 Q)) ∧ ((y6 % 3) = 2 → (sh_fit mL_law mL_areSteps (cn.1 + 1, cn.2 + 3) 0 ∧ (cl c mL_areSteps [.inr 1, .inr A2, .inr A3, .inr A4] J29 (li c fun v35 J34 => ((v35 = 1 ∧ (∀ u37 : Int, sh_Bd u37 → (cl c mL_low [.inl u37, .inl 99] J34 (li c fun v40 J39 => (sh_fit mL_law mL_would ((cn.1 + 1, cn.2 + 3).1 + 12, (cn.1 + 1, cn.2 + 3).2 + 600) 0 ∧ (cl c mL_would [.inr 1, .inr A2, .inr A3, .inr A4, .inl (1 + v40)] J39 (li c fun v42 J41 => ((v42 = 1 ∧ kl c (((cn.1 + 1, cn.2 + 3).1 + 12, (cn.1 + 1, cn.2 + 3).2 + 600).1 + 3, ((cn.1 + 1, cn.2 + 3).1 + 12, (cn.1 + 1, cn.2 + 3).2 + 600).2 + 63) mL_law 272 [some (.inr 0), some (.inr 1), some (.inr A2), some (.inr A3), some (.inr A4), none, some (.inl y6), none] [] J41 (qli c0 Q)) ∨ (v42 = 0 ∧ kl c (((cn.1 + 1, cn.2 + 3).1 + 12, (cn.1 + 1, cn.2 + 3).2 + 600).1 + 3, ((cn.1 + 1, cn.2 + 3).1 + 12, (cn.1 + 1, cn.2 + 3).2 + 600).2 + 63) mL_law 123 [some (.inr 0), some (.inr 1), some (.inr A2), some (.inr A3), some (.inr A4), some (.inl 0), some (.inl (y6 + 1)), none] [] J41 (qli c0 Q)))))))))) ∨ (v35 = 0 ∧ kl c ((cn.1 + 1, cn.2 + 3).1 + 12, (cn.1 + 1, cn.2 + 3).2 + 600) mL_law 123 [some (.inr 0), some (.inr 1), some (.inr A2), some (.inr A3), some (.inr A4), some (.inl 0), some (.inl (y6 + 1)), none] [] J34 (qli c0 Q))))))))))) ∨ (v30 = 0 ∧ kl c (cn.1 + 1, cn.2 + 3) mL_law 123 [some (.inr 0), some (.inr 1), some (.inr A2), some (.inr A3), some (.inr A4), some (.inl 0), some (.inl (y6 + 1)), none] [] J29 (qli c0 Q)))))))))))) ∨ (v19 = 0 ∧ kl c (cn.1 + 1, cn.2 + 3) mL_law 123 [some (.inr 0), some (.inr 1), some (.inr A2), some (.inr A3), some (.inr A4), some (.inl 0), some (.inl (y6 + 1)), none] [] J18 (qli c0 Q))))))) ∨ (v17 = 0 ∧ kl c cn mL_law 123 [some (.inr 0), some (.inr 1), some (.inr A2), some (.inr A3), some (.inr A4), some (.inl 0), some (.inl (y6 + 1)), none] [] J16 (qli c0 Q)))))) ∨ (v15 = 0 ∧ kl c cn mL_law 123 [some (.inr 0), some (.inr 1), some (.inr A2), some (.inr A3), some (.inr A4), some (.inl 0), some (.inl (y6 + 1)), none] [] J14 (qli c0 Q))))))))) ∧ (y6 < 4 → (cl c mL_acts [.inr 1, .inr A2, .inr A3, .inr A4, .inl 0, .inl v8] J7 (li c fun v45 J44 => ((v45 = 1 ∧ (cl c mL_areRunners [.inr 1, .inr A2, .inr A3, .inr A4] J44 (li c fun v47 J46 => ((v47 = 1 ∧ (sh_fit mL_law mL_areShadows cn 0 ∧ (cl c mL_areShadows [.inr 1, .inr A2, .inr A3, .inr A4] J46 (li c fun v49 J48 => ((v49 = 1 ∧ (∀ u51 : Int, sh_Bd u51 → (cl c mL_low [.inl u51, .inl (J48 A4 8)] J48 (li c fun v54 J53 => (∀ u55 : Int, sh_Bd u55 → (cl c mL_low [.inl u55, .inl 3] J53 (li c fun v58 J57 => (cl c mL_isShadow [.inr 1, .inr A2, .inr A3, .inr A4, .inl v54, .inl v58] J57 (li c fun v60 J59 => ((v60 = 1 ∧ ((0 ≤ y6 ∧ y6 < 2147483648) ∧ (((y6 % 3) = 2 ∨ (sh_Bd (y6 % 3) ∧ sh_Bd 2)) ∧ ((¬ (y6 % 3) = 2 → kl c (cn.1 + 1, cn.2 + 3) mL_law 272 [some (.inr 0), some (.inr 1), some (.inr A2), some (.inr A3), some (.inr A4), none, some (.inl y6), none] [] J59 (qli c0 Q)) ∧ ((y6 % 3) = 2 → (sh_fit mL_law mL_areSteps (cn.1 + 1, cn.2 + 3) 0 ∧ (cl c mL_areSteps [.inr 1, .inr A2, .inr A3, .inr A4] J59 (li c fun v65 J64 => ((v65 = 1 ∧ (∀ u67 : Int, sh_Bd u67 → (cl c mL_low [.inl u67, .inl 99] J64 (li c fun v70 J69 => (sh_fit mL_law mL_would ((cn.1 + 1, cn.2 + 3).1 + 12, (cn.1 + 1, cn.2 + 3).2 + 600) 0 ∧ (cl c mL_would [.inr 1, .inr A2, .inr A3, .inr A4, .inl (1 + v70)] J69 (li c fun v72 J71 => ((v72 = 1 ∧ kl c (((cn.1 + 1, cn.2 + 3).1 + 12, (cn.1 + 1, cn.2 + 3).2 + 600).1 + 3, ((cn.1 + 1, cn.2 + 3).1 + 12, (cn.1 + 1, cn.2 + 3).2 + 600).2 + 63) mL_law 272 [some (.inr 0), some (.inr 1), some (.inr A2), some (.inr A3), some (.inr A4), none, some (.inl y6), none] [] J71 (qli c0 Q)) ∨ (v72 = 0 ∧ kl c (((cn.1 + 1, cn.2 + 3).1 + 12, (cn.1 + 1, cn.2 + 3).2 + 600).1 + 3, ((cn.1 + 1, cn.2 + 3).1 + 12, (cn.1 + 1, cn.2 + 3).2 + 600).2 + 63) mL_law 123 [some (.inr 0), some (.inr 1), some (.inr A2), some (.inr A3), some (.inr A4), some (.inl 0), some (.inl (y6 + 1)), none] [] J71 (qli c0 Q)))))))))) ∨ (v65 = 0 ∧ kl c ((cn.1 + 1, cn.2 + 3).1 + 12, (cn.1 + 1, cn.2 + 3).2 + 600) mL_law 123 [some (.inr 0), some (.inr 1), some (.inr A2), some (.inr A3), some (.inr A4), some (.inl 0), some (.inl (y6 + 1)), none] [] J64 (qli c0 Q))))))))))) ∨ (v60 = 0 ∧ kl c (cn.1 + 1, cn.2 + 3) mL_law 123 [some (.inr 0), some (.inr 1), some (.inr A2), some (.inr A3), some (.inr A4), some (.inl 0), some (.inl (y6 + 1)), none] [] J59 (qli c0 Q)))))))))))) ∨ (v49 = 0 ∧ kl c (cn.1 + 1, cn.2 + 3) mL_law 123 [some (.inr 0), some (.inr 1), some (.inr A2), some (.inr A3), some (.inr A4), some (.inl 0), some (.inl (y6 + 1)), none] [] J48 (qli c0 Q))))))) ∨ (v47 = 0 ∧ kl c cn mL_law 123 [some (.inr 0), some (.inr 1), some (.inr A2), some (.inr A3), some (.inr A4), some (.inl 0), some (.inl (y6 + 1)), none] [] J46 (qli c0 Q)))))) ∨ (v45 = 0 ∧ kl c cn mL_law 123 [some (.inr 0), some (.inr 1), some (.inr A2), some (.inr A3), some (.inr A4), some (.inl 0), some (.inl (y6 + 1)), none] [] J44 (qli c0 Q)))))))))))))))) : kl c cn mL_law 123 [some (.inr 0), some (.inr 1), some (.inr A2), some (.inr A3), some (.inr A4), some (.inl y5), some (.inl y6), none] [] I (qli c0 Q) := by
  refine sh_iload (pc := 123) dL_law_123 rfl ?_
  refine sh_bipush (pc := 125) (v := 36) dL_law_125 (by decide) ?_
  obtain ⟨hb_1, h⟩ := h
  refine sh_icmp_ge (pc := 127) (tgt := 285) dL_law_127 (by decide) hb_1 (bd_lit (by decide)) (fun q_2 => ?_) (fun q_2 => ?_)
  · replace h := h.1 q_2
    refine sh_iload (pc := 285) dL_law_285 rfl ?_
    obtain ⟨hz_3, h⟩ := h
    exact l_zret he dL_law_287 rfl hz_3 h
  · replace h := h.2 q_2
    refine sh_iload (pc := 130) dL_law_130 rfl ?_
    obtain ⟨hb_4, h⟩ := h
    refine sh_if_eq (pc := 132) (tgt := 285) dL_law_132 (by decide) hb_4  (fun q_5 => ?_) (fun q_5 => ?_)
    · replace h := h.1 q_5
      refine sh_iload (pc := 285) dL_law_285 rfl ?_
      obtain ⟨hz_6, h⟩ := h
      exact l_zret he dL_law_287 rfl hz_6 h
    · replace h := h.2 q_5
      refine sh_aload_n (pc := 135) dL_law_135 rfl rfl ?_
      refine sh_iload (pc := 136) dL_law_136 rfl ?_
      refine l_S2i (pc := 138) dL_law_138 lk_L_121 rfl h (fun v8 J7 h => ?_)
      refine k_istore (pc := 141) [some (.inr 0), some (.inr 1), some (.inr A2), some (.inr A3), some (.inr A4), some (.inl y5), some (.inl y6), some (.inl v8)] dL_law_141 rfl (by decide) ?_
      refine sh_aload_n (pc := 143) dL_law_143 rfl rfl ?_
      refine sh_aload_n (pc := 144) dL_law_144 rfl rfl ?_
      refine sh_aload_n (pc := 145) dL_law_145 rfl rfl ?_
      refine sh_aload (pc := 146) dL_law_146 rfl ?_
      refine sh_iload (pc := 148) dL_law_148 rfl ?_
      refine sh_iconst (pc := 150) (v := 4) dL_law_150 rfl ?_
      refine sh_icmp_ge (pc := 151) (tgt := 158) dL_law_151 (by decide) hb_1 (bd_lit (by decide)) (fun q_9 => ?_) (fun q_9 => ?_)
      · replace h := h.1 q_9
        refine sh_iload (pc := 158) dL_law_158 rfl ?_
        refine sh_bipush (pc := 160) (v := 18) dL_law_160 (by decide) ?_
        refine l_ishr (pc := 162) dL_law_162 (fun u10 hu_11 => ?_)
        replace h := h u10 hu_11
        refine sh_bipush (pc := 163) (v := 14) dL_law_163 (by decide) ?_
        refine l_S2i (pc := 165) dL_law_165 lk_L_87 rfl h (fun v13 J12 h => ?_)
        refine sh_iload (pc := 168) dL_law_168 rfl ?_
        refine l_S6i (pc := 170) dL_law_170 lk_L_125 rfl h (fun v15 J14 h => ?_)
        rcases h with ⟨rfl, h⟩ | ⟨rfl, h⟩
        · skip
          refine sh_if_eq (pc := 173) (tgt := 276) dL_law_173 (by decide) (bd_lit (by decide)) (fun qz => ?_) (fun qz => ?_)
          · exact absurd qz (by decide)
          · skip
            refine sh_aload_n (pc := 176) dL_law_176 rfl rfl ?_
            refine sh_aload_n (pc := 177) dL_law_177 rfl rfl ?_
            refine sh_aload_n (pc := 178) dL_law_178 rfl rfl ?_
            refine sh_aload (pc := 179) dL_law_179 rfl ?_
            refine l_S4i (pc := 181) dL_law_181 lk_L_114 rfl h (fun v17 J16 h => ?_)
            rcases h with ⟨rfl, h⟩ | ⟨rfl, h⟩
            · skip
              refine sh_if_eq (pc := 184) (tgt := 276) dL_law_184 (by decide) (bd_lit (by decide)) (fun qz => ?_) (fun qz => ?_)
              · exact absurd qz (by decide)
              · skip
                refine sh_aload_n (pc := 187) dL_law_187 rfl rfl ?_
                refine sh_aload_n (pc := 188) dL_law_188 rfl rfl ?_
                refine sh_aload_n (pc := 189) dL_law_189 rfl rfl ?_
                refine sh_aload (pc := 190) dL_law_190 rfl ?_
                obtain ⟨hf_20, h⟩ := h
                refine l_A4 (pc := 192) (cn' := (cn.1 + 1, cn.2 + 3)) dL_law_192 lk_L_118 hf_20 ⟨by simp [sh_noref], by have hk0 := hx.1; have hk3 : (A2 : Nat) < c.1 := (hA2).lt; have hk4 : (A3 : Nat) < c.1 := (hA3).lt; have hk5 : (A4 : Nat) < c.1 := (hA4).lt; intro o ho; simp at ho; omega⟩ rfl h (fun v19 J18 h => ?_)
                rcases h with ⟨rfl, h⟩ | ⟨rfl, h⟩
                · skip
                  refine sh_if_eq (pc := 195) (tgt := 276) dL_law_195 (by decide) (bd_lit (by decide)) (fun qz => ?_) (fun qz => ?_)
                  · exact absurd qz (by decide)
                  · skip
                    refine sh_aload_n (pc := 198) dL_law_198 rfl rfl ?_
                    refine sh_aload_n (pc := 199) dL_law_199 rfl rfl ?_
                    refine sh_aload_n (pc := 200) dL_law_200 rfl rfl ?_
                    refine sh_aload (pc := 201) dL_law_201 rfl ?_
                    refine sh_iload (pc := 203) dL_law_203 rfl ?_
                    refine sh_iconst (pc := 205) (v := 5) dL_law_205 rfl ?_
                    refine l_ishr (pc := 206) dL_law_206 (fun u21 hu_22 => ?_)
                    replace h := h u21 hu_22
                    refine sh_aload (pc := 207) dL_law_207 rfl ?_
                    refine sh_bipush (pc := 209) (v := 8) dL_law_209 (by decide) ?_
                    refine l_ald (pc := 211) dL_law_211 hA4 (by decide) ?_
                    refine l_S2i (pc := 212) dL_law_212 lk_L_87 rfl h (fun v24 J23 h => ?_)
                    refine sh_iload (pc := 215) dL_law_215 rfl ?_
                    refine sh_bipush (pc := 217) (v := 8) dL_law_217 (by decide) ?_
                    refine l_ishr (pc := 219) dL_law_219 (fun u25 hu_26 => ?_)
                    replace h := h u25 hu_26
                    refine sh_iconst (pc := 220) (v := 3) dL_law_220 rfl ?_
                    refine l_S2i (pc := 221) dL_law_221 lk_L_87 rfl h (fun v28 J27 h => ?_)
                    refine l_S6i (pc := 224) dL_law_224 lk_L_129 rfl h (fun v30 J29 h => ?_)
                    rcases h with ⟨rfl, h⟩ | ⟨rfl, h⟩
                    · skip
                      refine sh_if_eq (pc := 227) (tgt := 276) dL_law_227 (by decide) (bd_lit (by decide)) (fun qz => ?_) (fun qz => ?_)
                      · exact absurd qz (by decide)
                      · skip
                        refine sh_iload (pc := 230) dL_law_230 rfl ?_
                        refine sh_iconst (pc := 232) (v := 3) dL_law_232 rfl ?_
                        obtain ⟨hn_31, h⟩ := h
                        refine sh_irem (pc := 233) dL_law_233 hn_31.1 hn_31.2 (by decide) (by decide) ?_
                        refine sh_iconst (pc := 234) (v := 2) dL_law_234 rfl ?_
                        obtain ⟨ho_32, h⟩ := h
                        refine l_icmp_ne (pc := 235) (tgt := 272) dL_law_235 (by decide) ho_32 (fun q_33 => ?_) (fun q_33 => ?_)
                        · replace h := h.1 q_33
                          exact sh_O.locals h (sub_some (sub_some (sub_some (sub_some (sub_some (sub_none (sub_some (sub_none sub_nil))))))))
                        · replace h := h.2 q_33
                          refine sh_aload_n (pc := 238) dL_law_238 rfl rfl ?_
                          refine sh_aload_n (pc := 239) dL_law_239 rfl rfl ?_
                          refine sh_aload_n (pc := 240) dL_law_240 rfl rfl ?_
                          refine sh_aload (pc := 241) dL_law_241 rfl ?_
                          obtain ⟨hf_36, h⟩ := h
                          refine l_A4 (pc := 243) (cn' := ((cn.1 + 1, cn.2 + 3).1 + 12, (cn.1 + 1, cn.2 + 3).2 + 600)) dL_law_243 lk_L_132 hf_36 ⟨by simp [sh_noref], by have hk0 := hx.1; have hk3 : (A2 : Nat) < c.1 := (hA2).lt; have hk4 : (A3 : Nat) < c.1 := (hA3).lt; have hk5 : (A4 : Nat) < c.1 := (hA4).lt; intro o ho; simp at ho; omega⟩ rfl h (fun v35 J34 h => ?_)
                          rcases h with ⟨rfl, h⟩ | ⟨rfl, h⟩
                          · skip
                            refine sh_if_eq (pc := 246) (tgt := 276) dL_law_246 (by decide) (bd_lit (by decide)) (fun qz => ?_) (fun qz => ?_)
                            · exact absurd qz (by decide)
                            · skip
                              refine sh_aload_n (pc := 249) dL_law_249 rfl rfl ?_
                              refine sh_aload_n (pc := 250) dL_law_250 rfl rfl ?_
                              refine sh_aload_n (pc := 251) dL_law_251 rfl rfl ?_
                              refine sh_aload (pc := 252) dL_law_252 rfl ?_
                              refine sh_iconst (pc := 254) (v := 1) dL_law_254 rfl ?_
                              refine sh_iload (pc := 255) dL_law_255 rfl ?_
                              refine sh_bipush (pc := 257) (v := 6) dL_law_257 (by decide) ?_
                              refine l_ishr (pc := 259) dL_law_259 (fun u37 hu_38 => ?_)
                              replace h := h u37 hu_38
                              refine sh_bipush (pc := 260) (v := 99) dL_law_260 (by decide) ?_
                              refine l_S2i (pc := 262) dL_law_262 lk_L_87 rfl h (fun v40 J39 h => ?_)
                              refine sh_iadd (pc := 265) dL_law_265 ?_
                              obtain ⟨hf_43, h⟩ := h
                              refine l_A5 (pc := 266) (cn' := (((cn.1 + 1, cn.2 + 3).1 + 12, (cn.1 + 1, cn.2 + 3).2 + 600).1 + 3, ((cn.1 + 1, cn.2 + 3).1 + 12, (cn.1 + 1, cn.2 + 3).2 + 600).2 + 63)) dL_law_266 lk_L_135 hf_43 ⟨by simp [sh_noref], by have hk0 := hx.1; have hk3 : (A2 : Nat) < c.1 := (hA2).lt; have hk4 : (A3 : Nat) < c.1 := (hA3).lt; have hk5 : (A4 : Nat) < c.1 := (hA4).lt; intro o ho; simp at ho; omega⟩ rfl h (fun v42 J41 h => ?_)
                              rcases h with ⟨rfl, h⟩ | ⟨rfl, h⟩
                              · skip
                                refine sh_if_eq (pc := 269) (tgt := 276) dL_law_269 (by decide) (bd_lit (by decide)) (fun qz => ?_) (fun qz => ?_)
                                · exact absurd qz (by decide)
                                · skip
                                  exact sh_O.locals h (sub_some (sub_some (sub_some (sub_some (sub_some (sub_none (sub_some (sub_none sub_nil))))))))
                              · skip
                                refine sh_if_eq (pc := 269) (tgt := 276) dL_law_269 (by decide) (bd_lit (by decide)) (fun qz => ?_) (fun qz => ?_)
                                · skip
                                  refine sh_iconst (pc := 276) (v := 0) dL_law_276 rfl ?_
                                  refine k_istore (pc := 277) [some (.inr 0), some (.inr 1), some (.inr A2), some (.inr A3), some (.inr A4), some (.inl 0), some (.inl y6), some (.inl v8)] dL_law_277 rfl (by decide) ?_
                                  refine k_iinc (pc := 279) [some (.inr 0), some (.inr 1), some (.inr A2), some (.inr A3), some (.inr A4), some (.inl 0), some (.inl (y6 + 1)), some (.inl v8)] dL_law_279 rfl rfl (by decide) ?_
                                  refine sh_goto (pc := 282) (tgt := 123) dL_law_282 (by decide) ?_
                                  exact sh_O.locals h (sub_some (sub_some (sub_some (sub_some (sub_some (sub_some (sub_some (sub_none sub_nil))))))))
                                · exact absurd qz (by decide)
                          · skip
                            refine sh_if_eq (pc := 246) (tgt := 276) dL_law_246 (by decide) (bd_lit (by decide)) (fun qz => ?_) (fun qz => ?_)
                            · skip
                              refine sh_iconst (pc := 276) (v := 0) dL_law_276 rfl ?_
                              refine k_istore (pc := 277) [some (.inr 0), some (.inr 1), some (.inr A2), some (.inr A3), some (.inr A4), some (.inl 0), some (.inl y6), some (.inl v8)] dL_law_277 rfl (by decide) ?_
                              refine k_iinc (pc := 279) [some (.inr 0), some (.inr 1), some (.inr A2), some (.inr A3), some (.inr A4), some (.inl 0), some (.inl (y6 + 1)), some (.inl v8)] dL_law_279 rfl rfl (by decide) ?_
                              refine sh_goto (pc := 282) (tgt := 123) dL_law_282 (by decide) ?_
                              exact sh_O.locals h (sub_some (sub_some (sub_some (sub_some (sub_some (sub_some (sub_some (sub_none sub_nil))))))))
                            · exact absurd qz (by decide)
                    · skip
                      refine sh_if_eq (pc := 227) (tgt := 276) dL_law_227 (by decide) (bd_lit (by decide)) (fun qz => ?_) (fun qz => ?_)
                      · skip
                        refine sh_iconst (pc := 276) (v := 0) dL_law_276 rfl ?_
                        refine k_istore (pc := 277) [some (.inr 0), some (.inr 1), some (.inr A2), some (.inr A3), some (.inr A4), some (.inl 0), some (.inl y6), some (.inl v8)] dL_law_277 rfl (by decide) ?_
                        refine k_iinc (pc := 279) [some (.inr 0), some (.inr 1), some (.inr A2), some (.inr A3), some (.inr A4), some (.inl 0), some (.inl (y6 + 1)), some (.inl v8)] dL_law_279 rfl rfl (by decide) ?_
                        refine sh_goto (pc := 282) (tgt := 123) dL_law_282 (by decide) ?_
                        exact sh_O.locals h (sub_some (sub_some (sub_some (sub_some (sub_some (sub_some (sub_some (sub_none sub_nil))))))))
                      · exact absurd qz (by decide)
                · skip
                  refine sh_if_eq (pc := 195) (tgt := 276) dL_law_195 (by decide) (bd_lit (by decide)) (fun qz => ?_) (fun qz => ?_)
                  · skip
                    refine sh_iconst (pc := 276) (v := 0) dL_law_276 rfl ?_
                    refine k_istore (pc := 277) [some (.inr 0), some (.inr 1), some (.inr A2), some (.inr A3), some (.inr A4), some (.inl 0), some (.inl y6), some (.inl v8)] dL_law_277 rfl (by decide) ?_
                    refine k_iinc (pc := 279) [some (.inr 0), some (.inr 1), some (.inr A2), some (.inr A3), some (.inr A4), some (.inl 0), some (.inl (y6 + 1)), some (.inl v8)] dL_law_279 rfl rfl (by decide) ?_
                    refine sh_goto (pc := 282) (tgt := 123) dL_law_282 (by decide) ?_
                    exact sh_O.locals h (sub_some (sub_some (sub_some (sub_some (sub_some (sub_some (sub_some (sub_none sub_nil))))))))
                  · exact absurd qz (by decide)
            · skip
              refine sh_if_eq (pc := 184) (tgt := 276) dL_law_184 (by decide) (bd_lit (by decide)) (fun qz => ?_) (fun qz => ?_)
              · skip
                refine sh_iconst (pc := 276) (v := 0) dL_law_276 rfl ?_
                refine k_istore (pc := 277) [some (.inr 0), some (.inr 1), some (.inr A2), some (.inr A3), some (.inr A4), some (.inl 0), some (.inl y6), some (.inl v8)] dL_law_277 rfl (by decide) ?_
                refine k_iinc (pc := 279) [some (.inr 0), some (.inr 1), some (.inr A2), some (.inr A3), some (.inr A4), some (.inl 0), some (.inl (y6 + 1)), some (.inl v8)] dL_law_279 rfl rfl (by decide) ?_
                refine sh_goto (pc := 282) (tgt := 123) dL_law_282 (by decide) ?_
                exact sh_O.locals h (sub_some (sub_some (sub_some (sub_some (sub_some (sub_some (sub_some (sub_none sub_nil))))))))
              · exact absurd qz (by decide)
        · skip
          refine sh_if_eq (pc := 173) (tgt := 276) dL_law_173 (by decide) (bd_lit (by decide)) (fun qz => ?_) (fun qz => ?_)
          · skip
            refine sh_iconst (pc := 276) (v := 0) dL_law_276 rfl ?_
            refine k_istore (pc := 277) [some (.inr 0), some (.inr 1), some (.inr A2), some (.inr A3), some (.inr A4), some (.inl 0), some (.inl y6), some (.inl v8)] dL_law_277 rfl (by decide) ?_
            refine k_iinc (pc := 279) [some (.inr 0), some (.inr 1), some (.inr A2), some (.inr A3), some (.inr A4), some (.inl 0), some (.inl (y6 + 1)), some (.inl v8)] dL_law_279 rfl rfl (by decide) ?_
            refine sh_goto (pc := 282) (tgt := 123) dL_law_282 (by decide) ?_
            exact sh_O.locals h (sub_some (sub_some (sub_some (sub_some (sub_some (sub_some (sub_some (sub_none sub_nil))))))))
          · exact absurd qz (by decide)
      · replace h := h.2 q_9
        refine sh_iconst (pc := 154) (v := 0) dL_law_154 rfl ?_
        refine sh_goto (pc := 155) (tgt := 168) dL_law_155 (by decide) ?_
        refine sh_iload (pc := 168) dL_law_168 rfl ?_
        refine l_S6i (pc := 170) dL_law_170 lk_L_125 rfl h (fun v45 J44 h => ?_)
        rcases h with ⟨rfl, h⟩ | ⟨rfl, h⟩
        · skip
          refine sh_if_eq (pc := 173) (tgt := 276) dL_law_173 (by decide) (bd_lit (by decide)) (fun qz => ?_) (fun qz => ?_)
          · exact absurd qz (by decide)
          · skip
            refine sh_aload_n (pc := 176) dL_law_176 rfl rfl ?_
            refine sh_aload_n (pc := 177) dL_law_177 rfl rfl ?_
            refine sh_aload_n (pc := 178) dL_law_178 rfl rfl ?_
            refine sh_aload (pc := 179) dL_law_179 rfl ?_
            refine l_S4i (pc := 181) dL_law_181 lk_L_114 rfl h (fun v47 J46 h => ?_)
            rcases h with ⟨rfl, h⟩ | ⟨rfl, h⟩
            · skip
              refine sh_if_eq (pc := 184) (tgt := 276) dL_law_184 (by decide) (bd_lit (by decide)) (fun qz => ?_) (fun qz => ?_)
              · exact absurd qz (by decide)
              · skip
                refine sh_aload_n (pc := 187) dL_law_187 rfl rfl ?_
                refine sh_aload_n (pc := 188) dL_law_188 rfl rfl ?_
                refine sh_aload_n (pc := 189) dL_law_189 rfl rfl ?_
                refine sh_aload (pc := 190) dL_law_190 rfl ?_
                obtain ⟨hf_50, h⟩ := h
                refine l_A4 (pc := 192) (cn' := (cn.1 + 1, cn.2 + 3)) dL_law_192 lk_L_118 hf_50 ⟨by simp [sh_noref], by have hk0 := hx.1; have hk3 : (A2 : Nat) < c.1 := (hA2).lt; have hk4 : (A3 : Nat) < c.1 := (hA3).lt; have hk5 : (A4 : Nat) < c.1 := (hA4).lt; intro o ho; simp at ho; omega⟩ rfl h (fun v49 J48 h => ?_)
                rcases h with ⟨rfl, h⟩ | ⟨rfl, h⟩
                · skip
                  refine sh_if_eq (pc := 195) (tgt := 276) dL_law_195 (by decide) (bd_lit (by decide)) (fun qz => ?_) (fun qz => ?_)
                  · exact absurd qz (by decide)
                  · skip
                    refine sh_aload_n (pc := 198) dL_law_198 rfl rfl ?_
                    refine sh_aload_n (pc := 199) dL_law_199 rfl rfl ?_
                    refine sh_aload_n (pc := 200) dL_law_200 rfl rfl ?_
                    refine sh_aload (pc := 201) dL_law_201 rfl ?_
                    refine sh_iload (pc := 203) dL_law_203 rfl ?_
                    refine sh_iconst (pc := 205) (v := 5) dL_law_205 rfl ?_
                    refine l_ishr (pc := 206) dL_law_206 (fun u51 hu_52 => ?_)
                    replace h := h u51 hu_52
                    refine sh_aload (pc := 207) dL_law_207 rfl ?_
                    refine sh_bipush (pc := 209) (v := 8) dL_law_209 (by decide) ?_
                    refine l_ald (pc := 211) dL_law_211 hA4 (by decide) ?_
                    refine l_S2i (pc := 212) dL_law_212 lk_L_87 rfl h (fun v54 J53 h => ?_)
                    refine sh_iload (pc := 215) dL_law_215 rfl ?_
                    refine sh_bipush (pc := 217) (v := 8) dL_law_217 (by decide) ?_
                    refine l_ishr (pc := 219) dL_law_219 (fun u55 hu_56 => ?_)
                    replace h := h u55 hu_56
                    refine sh_iconst (pc := 220) (v := 3) dL_law_220 rfl ?_
                    refine l_S2i (pc := 221) dL_law_221 lk_L_87 rfl h (fun v58 J57 h => ?_)
                    refine l_S6i (pc := 224) dL_law_224 lk_L_129 rfl h (fun v60 J59 h => ?_)
                    rcases h with ⟨rfl, h⟩ | ⟨rfl, h⟩
                    · skip
                      refine sh_if_eq (pc := 227) (tgt := 276) dL_law_227 (by decide) (bd_lit (by decide)) (fun qz => ?_) (fun qz => ?_)
                      · exact absurd qz (by decide)
                      · skip
                        refine sh_iload (pc := 230) dL_law_230 rfl ?_
                        refine sh_iconst (pc := 232) (v := 3) dL_law_232 rfl ?_
                        obtain ⟨hn_61, h⟩ := h
                        refine sh_irem (pc := 233) dL_law_233 hn_61.1 hn_61.2 (by decide) (by decide) ?_
                        refine sh_iconst (pc := 234) (v := 2) dL_law_234 rfl ?_
                        obtain ⟨ho_62, h⟩ := h
                        refine l_icmp_ne (pc := 235) (tgt := 272) dL_law_235 (by decide) ho_62 (fun q_63 => ?_) (fun q_63 => ?_)
                        · replace h := h.1 q_63
                          exact sh_O.locals h (sub_some (sub_some (sub_some (sub_some (sub_some (sub_none (sub_some (sub_none sub_nil))))))))
                        · replace h := h.2 q_63
                          refine sh_aload_n (pc := 238) dL_law_238 rfl rfl ?_
                          refine sh_aload_n (pc := 239) dL_law_239 rfl rfl ?_
                          refine sh_aload_n (pc := 240) dL_law_240 rfl rfl ?_
                          refine sh_aload (pc := 241) dL_law_241 rfl ?_
                          obtain ⟨hf_66, h⟩ := h
                          refine l_A4 (pc := 243) (cn' := ((cn.1 + 1, cn.2 + 3).1 + 12, (cn.1 + 1, cn.2 + 3).2 + 600)) dL_law_243 lk_L_132 hf_66 ⟨by simp [sh_noref], by have hk0 := hx.1; have hk3 : (A2 : Nat) < c.1 := (hA2).lt; have hk4 : (A3 : Nat) < c.1 := (hA3).lt; have hk5 : (A4 : Nat) < c.1 := (hA4).lt; intro o ho; simp at ho; omega⟩ rfl h (fun v65 J64 h => ?_)
                          rcases h with ⟨rfl, h⟩ | ⟨rfl, h⟩
                          · skip
                            refine sh_if_eq (pc := 246) (tgt := 276) dL_law_246 (by decide) (bd_lit (by decide)) (fun qz => ?_) (fun qz => ?_)
                            · exact absurd qz (by decide)
                            · skip
                              refine sh_aload_n (pc := 249) dL_law_249 rfl rfl ?_
                              refine sh_aload_n (pc := 250) dL_law_250 rfl rfl ?_
                              refine sh_aload_n (pc := 251) dL_law_251 rfl rfl ?_
                              refine sh_aload (pc := 252) dL_law_252 rfl ?_
                              refine sh_iconst (pc := 254) (v := 1) dL_law_254 rfl ?_
                              refine sh_iload (pc := 255) dL_law_255 rfl ?_
                              refine sh_bipush (pc := 257) (v := 6) dL_law_257 (by decide) ?_
                              refine l_ishr (pc := 259) dL_law_259 (fun u67 hu_68 => ?_)
                              replace h := h u67 hu_68
                              refine sh_bipush (pc := 260) (v := 99) dL_law_260 (by decide) ?_
                              refine l_S2i (pc := 262) dL_law_262 lk_L_87 rfl h (fun v70 J69 h => ?_)
                              refine sh_iadd (pc := 265) dL_law_265 ?_
                              obtain ⟨hf_73, h⟩ := h
                              refine l_A5 (pc := 266) (cn' := (((cn.1 + 1, cn.2 + 3).1 + 12, (cn.1 + 1, cn.2 + 3).2 + 600).1 + 3, ((cn.1 + 1, cn.2 + 3).1 + 12, (cn.1 + 1, cn.2 + 3).2 + 600).2 + 63)) dL_law_266 lk_L_135 hf_73 ⟨by simp [sh_noref], by have hk0 := hx.1; have hk3 : (A2 : Nat) < c.1 := (hA2).lt; have hk4 : (A3 : Nat) < c.1 := (hA3).lt; have hk5 : (A4 : Nat) < c.1 := (hA4).lt; intro o ho; simp at ho; omega⟩ rfl h (fun v72 J71 h => ?_)
                              rcases h with ⟨rfl, h⟩ | ⟨rfl, h⟩
                              · skip
                                refine sh_if_eq (pc := 269) (tgt := 276) dL_law_269 (by decide) (bd_lit (by decide)) (fun qz => ?_) (fun qz => ?_)
                                · exact absurd qz (by decide)
                                · skip
                                  exact sh_O.locals h (sub_some (sub_some (sub_some (sub_some (sub_some (sub_none (sub_some (sub_none sub_nil))))))))
                              · skip
                                refine sh_if_eq (pc := 269) (tgt := 276) dL_law_269 (by decide) (bd_lit (by decide)) (fun qz => ?_) (fun qz => ?_)
                                · skip
                                  refine sh_iconst (pc := 276) (v := 0) dL_law_276 rfl ?_
                                  refine k_istore (pc := 277) [some (.inr 0), some (.inr 1), some (.inr A2), some (.inr A3), some (.inr A4), some (.inl 0), some (.inl y6), some (.inl v8)] dL_law_277 rfl (by decide) ?_
                                  refine k_iinc (pc := 279) [some (.inr 0), some (.inr 1), some (.inr A2), some (.inr A3), some (.inr A4), some (.inl 0), some (.inl (y6 + 1)), some (.inl v8)] dL_law_279 rfl rfl (by decide) ?_
                                  refine sh_goto (pc := 282) (tgt := 123) dL_law_282 (by decide) ?_
                                  exact sh_O.locals h (sub_some (sub_some (sub_some (sub_some (sub_some (sub_some (sub_some (sub_none sub_nil))))))))
                                · exact absurd qz (by decide)
                          · skip
                            refine sh_if_eq (pc := 246) (tgt := 276) dL_law_246 (by decide) (bd_lit (by decide)) (fun qz => ?_) (fun qz => ?_)
                            · skip
                              refine sh_iconst (pc := 276) (v := 0) dL_law_276 rfl ?_
                              refine k_istore (pc := 277) [some (.inr 0), some (.inr 1), some (.inr A2), some (.inr A3), some (.inr A4), some (.inl 0), some (.inl y6), some (.inl v8)] dL_law_277 rfl (by decide) ?_
                              refine k_iinc (pc := 279) [some (.inr 0), some (.inr 1), some (.inr A2), some (.inr A3), some (.inr A4), some (.inl 0), some (.inl (y6 + 1)), some (.inl v8)] dL_law_279 rfl rfl (by decide) ?_
                              refine sh_goto (pc := 282) (tgt := 123) dL_law_282 (by decide) ?_
                              exact sh_O.locals h (sub_some (sub_some (sub_some (sub_some (sub_some (sub_some (sub_some (sub_none sub_nil))))))))
                            · exact absurd qz (by decide)
                    · skip
                      refine sh_if_eq (pc := 227) (tgt := 276) dL_law_227 (by decide) (bd_lit (by decide)) (fun qz => ?_) (fun qz => ?_)
                      · skip
                        refine sh_iconst (pc := 276) (v := 0) dL_law_276 rfl ?_
                        refine k_istore (pc := 277) [some (.inr 0), some (.inr 1), some (.inr A2), some (.inr A3), some (.inr A4), some (.inl 0), some (.inl y6), some (.inl v8)] dL_law_277 rfl (by decide) ?_
                        refine k_iinc (pc := 279) [some (.inr 0), some (.inr 1), some (.inr A2), some (.inr A3), some (.inr A4), some (.inl 0), some (.inl (y6 + 1)), some (.inl v8)] dL_law_279 rfl rfl (by decide) ?_
                        refine sh_goto (pc := 282) (tgt := 123) dL_law_282 (by decide) ?_
                        exact sh_O.locals h (sub_some (sub_some (sub_some (sub_some (sub_some (sub_some (sub_some (sub_none sub_nil))))))))
                      · exact absurd qz (by decide)
                · skip
                  refine sh_if_eq (pc := 195) (tgt := 276) dL_law_195 (by decide) (bd_lit (by decide)) (fun qz => ?_) (fun qz => ?_)
                  · skip
                    refine sh_iconst (pc := 276) (v := 0) dL_law_276 rfl ?_
                    refine k_istore (pc := 277) [some (.inr 0), some (.inr 1), some (.inr A2), some (.inr A3), some (.inr A4), some (.inl 0), some (.inl y6), some (.inl v8)] dL_law_277 rfl (by decide) ?_
                    refine k_iinc (pc := 279) [some (.inr 0), some (.inr 1), some (.inr A2), some (.inr A3), some (.inr A4), some (.inl 0), some (.inl (y6 + 1)), some (.inl v8)] dL_law_279 rfl rfl (by decide) ?_
                    refine sh_goto (pc := 282) (tgt := 123) dL_law_282 (by decide) ?_
                    exact sh_O.locals h (sub_some (sub_some (sub_some (sub_some (sub_some (sub_some (sub_some (sub_none sub_nil))))))))
                  · exact absurd qz (by decide)
            · skip
              refine sh_if_eq (pc := 184) (tgt := 276) dL_law_184 (by decide) (bd_lit (by decide)) (fun qz => ?_) (fun qz => ?_)
              · skip
                refine sh_iconst (pc := 276) (v := 0) dL_law_276 rfl ?_
                refine k_istore (pc := 277) [some (.inr 0), some (.inr 1), some (.inr A2), some (.inr A3), some (.inr A4), some (.inl 0), some (.inl y6), some (.inl v8)] dL_law_277 rfl (by decide) ?_
                refine k_iinc (pc := 279) [some (.inr 0), some (.inr 1), some (.inr A2), some (.inr A3), some (.inr A4), some (.inl 0), some (.inl (y6 + 1)), some (.inl v8)] dL_law_279 rfl rfl (by decide) ?_
                refine sh_goto (pc := 282) (tgt := 123) dL_law_282 (by decide) ?_
                exact sh_O.locals h (sub_some (sub_some (sub_some (sub_some (sub_some (sub_some (sub_some (sub_none sub_nil))))))))
              · exact absurd qz (by decide)
        · skip
          refine sh_if_eq (pc := 173) (tgt := 276) dL_law_173 (by decide) (bd_lit (by decide)) (fun qz => ?_) (fun qz => ?_)
          · skip
            refine sh_iconst (pc := 276) (v := 0) dL_law_276 rfl ?_
            refine k_istore (pc := 277) [some (.inr 0), some (.inr 1), some (.inr A2), some (.inr A3), some (.inr A4), some (.inl 0), some (.inl y6), some (.inl v8)] dL_law_277 rfl (by decide) ?_
            refine k_iinc (pc := 279) [some (.inr 0), some (.inr 1), some (.inr A2), some (.inr A3), some (.inr A4), some (.inl 0), some (.inl (y6 + 1)), some (.inl v8)] dL_law_279 rfl rfl (by decide) ?_
            refine sh_goto (pc := 282) (tgt := 123) dL_law_282 (by decide) ?_
            exact sh_O.locals h (sub_some (sub_some (sub_some (sub_some (sub_some (sub_some (sub_some (sub_none sub_nil))))))))
          · exact absurd qz (by decide)
set_option maxRecDepth 100000 in
set_option maxHeartbeats 4000000 in
theorem lL_law_272 {c0 : sh_Cx} {cn : Nat × Nat} {c : sh_Cx} (hx : cx c) (he : ext c0 c) {A2 : Nat} (hA2 : dy c A2 42) {A3 : Nat} (hA3 : dy c A3 12) {A4 : Nat} (hA4 : dy c A4 9) {y6 : Int} {I : sh_Mem} {Q : Int → sh_Mem → Prop} (h : kl c cn mL_law 123 [some (.inr 0), some (.inr 1), some (.inr A2), some (.inr A3), some (.inr A4), some (.inl 1), some (.inl (y6 + 1)), none] [] I (qli c0 Q)) : kl c cn mL_law 272 [some (.inr 0), some (.inr 1), some (.inr A2), some (.inr A3), some (.inr A4), none, some (.inl y6), none] [] I (qli c0 Q) := by
  refine sh_iconst (pc := 272) (v := 1) dL_law_272 rfl ?_
  refine sh_goto (pc := 273) (tgt := 277) dL_law_273 (by decide) ?_
  refine k_istore (pc := 277) [some (.inr 0), some (.inr 1), some (.inr A2), some (.inr A3), some (.inr A4), some (.inl 1), some (.inl y6), none] dL_law_277 rfl (by decide) ?_
  refine k_iinc (pc := 279) [some (.inr 0), some (.inr 1), some (.inr A2), some (.inr A3), some (.inr A4), some (.inl 1), some (.inl (y6 + 1)), none] dL_law_279 rfl rfl (by decide) ?_
  refine sh_goto (pc := 282) (tgt := 123) dL_law_282 (by decide) ?_
  exact sh_O.locals h (sub_some (sub_some (sub_some (sub_some (sub_some (sub_some (sub_some (sub_none sub_nil))))))))
