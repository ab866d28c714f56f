/-! ===== 12: the cases of the law: its platform ===== -/
set_option maxRecDepth 100000 in
set_option maxHeartbeats 4000000 in
theorem eL_cell {c : sh_Cx} (hx : cx c) {x2 : Int} {I : sh_Mem} {Q : Int → sh_Mem → Prop} (h : (0 ≤ I 0 0 ∧ (sh_Bd x2 ∧ (sh_Bd (I 0 0) ∧ (((I 0 0) ≤ x2 → Q (1597334677 * (x2 + 1)) I) ∧ (x2 < (I 0 0) → ((0 ≤ x2 ∧ x2 < I 0 0) ∧ (I 0 0 < 2147483648 ∧ Q (I 0 (x2 + 1)) I)))))))) : cl c mL_cell [.inr 0, .inl x2] I (li c Q) := by
  refine l_callI cd_L_cell.2.2.2 (Nat.le_of_ble_eq_true rfl) ?_
  show kl c (0, 0) mL_cell 0 [some (.inr 0), some (.inl x2)] [] I (qli c Q)
  refine sh_iload_n (pc := 0) dL_cell_0 rfl rfl ?_
  refine sh_aload_n (pc := 1) dL_cell_1 rfl rfl ?_
  obtain ⟨hs_1, h⟩ := h
  refine sh_slen (pc := 2) dL_cell_2 hs_1 ?_
  obtain ⟨hb_2, h⟩ := h
  obtain ⟨hb_3, h⟩ := h
  refine sh_icmp_ge (pc := 3) (tgt := 12) dL_cell_3 (by decide) hb_2 hb_3 (fun q_4 => ?_) (fun q_4 => ?_)
  · replace h := h.1 q_4
    refine sh_ldc (pc := 12) (v := 1597334677) dL_cell_12 wl_L_7 ?_
    refine sh_iload_n (pc := 14) dL_cell_14 rfl rfl ?_
    refine sh_iconst (pc := 15) (v := 1) dL_cell_15 rfl ?_
    refine sh_iadd (pc := 16) dL_cell_16 ?_
    refine sh_imul (pc := 17) dL_cell_17 ?_
    exact l_iret ext.rf dL_cell_18 rfl h
  · replace h := h.2 q_4
    refine sh_aload_n (pc := 6) dL_cell_6 rfl rfl ?_
    refine sh_iload_n (pc := 7) dL_cell_7 rfl rfl ?_
    obtain ⟨hs_5, h⟩ := h
    obtain ⟨hs_6, h⟩ := h
    refine sh_sld (pc := 8) dL_cell_8 hs_5 hs_6 ?_
    refine sh_goto (pc := 9) (tgt := 18) dL_cell_9 (by decide) ?_
    exact l_iret ext.rf dL_cell_18 rfl h
set_option maxRecDepth 100000 in
set_option maxHeartbeats 4000000 in
theorem eL_low {c : sh_Cx} (hx : cx c) {x1 : Int} {x2 : Int} {I : sh_Mem} {Q : Int → sh_Mem → Prop} (h : (∀ u1 : Int, 0 ≤ u1 ∧ u1 < 2147483648 → ((0 ≤ u1 ∧ u1 < 2147483648) ∧ ((0 < x2 ∧ x2 < 2147483648) ∧ Q (u1 % x2) I)))) : cl c mL_low [.inl x1, .inl x2] I (li c Q) := by
  refine l_callI cd_L_low.2.2.2 (Nat.le_of_ble_eq_true rfl) ?_
  show kl c (0, 0) mL_low 0 [some (.inl x1), some (.inl x2)] [] I (qli c Q)
  refine sh_iload_n (pc := 0) dL_low_0 rfl rfl ?_
  refine sh_ldc (pc := 1) (v := 2147483647) dL_low_1 wl_L_8 ?_
  refine l_iand (pc := 3) dL_low_3 (fun u1 hu_2 => ?_)
  replace h := h u1 hu_2
  refine sh_iload_n (pc := 4) dL_low_4 rfl rfl ?_
  obtain ⟨hn_3, h⟩ := h
  obtain ⟨hp_4, h⟩ := h
  refine sh_irem (pc := 5) dL_low_5 hn_3.1 hn_3.2 hp_4.1 hp_4.2 ?_
  exact l_iret ext.rf dL_low_6 rfl h
set_option maxRecDepth 100000 in
set_option maxHeartbeats 4000000 in
theorem eL_who {c : sh_Cx} (hx : cx c) {G : Nat} (hG : dy c G 42) {N : Nat} (hN : dy c N 9) {x3 : Int} {I : sh_Mem} {Q : Int → sh_Mem → Prop} (h : kl c (0, 0) mL_who 2 [some (.inr G), some (.inr N), some (.inl x3), some (.inl 0)] [] I (qli c Q)) : cl c mL_who [.inr G, .inr N, .inl x3] I (li c Q) := by
  refine l_callI cd_L_who.2.2.2 (Nat.le_of_ble_eq_true rfl) ?_
  show kl c (0, 0) mL_who 0 [some (.inr G), some (.inr N), some (.inl x3), none] [] I (qli c Q)
  refine sh_iconst (pc := 0) (v := 0) dL_who_0 rfl ?_
  refine k_istore_n (pc := 1) [some (.inr G), some (.inr N), some (.inl x3), some (.inl 0)] dL_who_1 rfl rfl (by decide) ?_
  exact sh_O.locals h (sub_some (sub_some (sub_some (sub_some sub_nil))))
set_option maxRecDepth 100000 in
set_option maxHeartbeats 4000000 in
theorem lL_who_2 {c : sh_Cx} (hx : cx c) {G : Nat} (hG : dy c G 42) {N : Nat} (hN : dy c N 9) {y2 : Int} {y3 : Int} {I : sh_Mem} {Q : Int → sh_Mem → Prop} (h : (sh_Bd y3 ∧ (sh_Bd (I N 8) ∧ (((I N 8) ≤ y3 → Q (-5) I) ∧ (y3 < (I N 8) → ((0 ≤ (7 * y3) ∧ (7 * y3) < (42 : Int)) ∧ (((I G (7 * y3)) = y2 ∨ (sh_Bd (I G (7 * y3)) ∧ sh_Bd y2)) ∧ ((¬ (I G (7 * y3)) = y2 → kl c (0, 0) mL_who 2 [some (.inr G), some (.inr N), some (.inl y2), some (.inl (y3 + 1))] [] I (qli c Q)) ∧ ((I G (7 * y3)) = y2 → Q y3 I))))))))) : kl c (0, 0) mL_who 2 [some (.inr G), some (.inr N), some (.inl y2), some (.inl y3)] [] I (qli c Q) := by
  refine sh_iload_n (pc := 2) dL_who_2 rfl rfl ?_
  refine sh_aload_n (pc := 3) dL_who_3 rfl rfl ?_
  refine sh_bipush (pc := 4) (v := 8) dL_who_4 (by decide) ?_
  refine l_ald (pc := 6) dL_who_6 hN (by decide) ?_
  obtain ⟨hb_1, h⟩ := h
  obtain ⟨hb_2, h⟩ := h
  refine sh_icmp_ge (pc := 7) (tgt := 28) dL_who_7 (by decide) hb_1 hb_2 (fun q_3 => ?_) (fun q_3 => ?_)
  · replace h := h.1 q_3
    refine sh_bipush (pc := 28) (v := (-5)) dL_who_28 (by decide) ?_
    exact l_iret ext.rf dL_who_30 rfl h
  · replace h := h.2 q_3
    refine sh_aload_n (pc := 10) dL_who_10 rfl rfl ?_
    refine sh_bipush (pc := 11) (v := 7) dL_who_11 (by decide) ?_
    refine sh_iload_n (pc := 13) dL_who_13 rfl rfl ?_
    refine sh_imul (pc := 14) dL_who_14 ?_
    obtain ⟨hi_4, h⟩ := h
    refine l_ald (pc := 15) dL_who_15 hG hi_4 ?_
    refine sh_iload_n (pc := 16) dL_who_16 rfl rfl ?_
    obtain ⟨ho_5, h⟩ := h
    refine l_icmp_ne (pc := 17) (tgt := 22) dL_who_17 (by decide) ho_5 (fun q_6 => ?_) (fun q_6 => ?_)
    · replace h := h.1 q_6
      refine k_iinc (pc := 22) [some (.inr G), some (.inr N), some (.inl y2), some (.inl (y3 + 1))] dL_who_22 rfl rfl (by decide) ?_
      refine sh_goto (pc := 25) (tgt := 2) dL_who_25 (by decide) ?_
      exact sh_O.locals h (sub_some (sub_some (sub_some (sub_some sub_nil))))
    · replace h := h.2 q_6
      refine sh_iload_n (pc := 20) dL_who_20 rfl rfl ?_
      exact l_iret ext.rf dL_who_21 rfl h
set_option maxRecDepth 100000 in
set_option maxHeartbeats 4000000 in
theorem eL_straight {c : sh_Cx} (hx : cx c) {x1 : Int} {x2 : Int} {x3 : Int} {I : sh_Mem} {Q : Int → sh_Mem → Prop} (h : ((0 ≤ x2 ∧ x2 < 2147483648) ∧ ((0 ≤ x1 ∧ x1 < 2147483648) ∧ (sh_Bd x3 ∧ ((¬ x3 = 0 → ((x3 = 1 ∨ (sh_Bd x3 ∧ sh_Bd 1)) ∧ ((¬ x3 = 1 → ((x3 = 2 ∨ (sh_Bd x3 ∧ sh_Bd 2)) ∧ ((¬ x3 = 2 → kl c (0, 0) mL_straight 52 [none, none, some (.inl x3), some (.inl ((x2 / 10) - (x1 / 10))), some (.inl ((x2 % 10) - (x1 % 10))), none] [.inl (-((x2 % 10) - (x1 % 10)))] I (qli c Q)) ∧ (x3 = 2 → kl c (0, 0) mL_straight 52 [none, none, some (.inl x3), some (.inl ((x2 / 10) - (x1 / 10))), some (.inl ((x2 % 10) - (x1 % 10))), none] [.inl ((x2 / 10) - (x1 / 10))] I (qli c Q))))) ∧ (x3 = 1 → kl c (0, 0) mL_straight 52 [none, none, some (.inl x3), some (.inl ((x2 / 10) - (x1 / 10))), some (.inl ((x2 % 10) - (x1 % 10))), none] [.inl ((x2 % 10) - (x1 % 10))] I (qli c Q))))) ∧ (x3 = 0 → kl c (0, 0) mL_straight 52 [none, none, some (.inl x3), some (.inl ((x2 / 10) - (x1 / 10))), some (.inl ((x2 % 10) - (x1 % 10))), none] [.inl (-((x2 / 10) - (x1 / 10)))] I (qli c Q))))))) : cl c mL_straight [.inl x1, .inl x2, .inl x3] I (li c Q) := by
  refine l_callI cd_L_straight.2.2.2 (Nat.le_of_ble_eq_true rfl) ?_
  show kl c (0, 0) mL_straight 0 [some (.inl x1), some (.inl x2), some (.inl x3), none, none, none] [] I (qli c Q)
  refine sh_iload_n (pc := 0) dL_straight_0 rfl rfl ?_
  refine sh_bipush (pc := 1) (v := 10) dL_straight_1 (by decide) ?_
  obtain ⟨hn_1, h⟩ := h
  refine sh_idiv (pc := 3) dL_straight_3 hn_1.1 hn_1.2 (by decide) (by decide) ?_
  refine sh_iload_n (pc := 4) dL_straight_4 rfl rfl ?_
  refine sh_bipush (pc := 5) (v := 10) dL_straight_5 (by decide) ?_
  obtain ⟨hn_2, h⟩ := h
  refine sh_idiv (pc := 7) dL_straight_7 hn_2.1 hn_2.2 (by decide) (by decide) ?_
  refine sh_isub (pc := 8) dL_straight_8 ?_
  refine k_istore_n (pc := 9) [some (.inl x1), some (.inl x2), some (.inl x3), some (.inl ((x2 / 10) - (x1 / 10))), none, none] dL_straight_9 rfl rfl (by decide) ?_
  refine sh_iload_n (pc := 10) dL_straight_10 rfl rfl ?_
  refine sh_bipush (pc := 11) (v := 10) dL_straight_11 (by decide) ?_
  refine sh_irem (pc := 13) dL_straight_13 hn_1.1 hn_1.2 (by decide) (by decide) ?_
  refine sh_iload_n (pc := 14) dL_straight_14 rfl rfl ?_
  refine sh_bipush (pc := 15) (v := 10) dL_straight_15 (by decide) ?_
  refine sh_irem (pc := 17) dL_straight_17 hn_2.1 hn_2.2 (by decide) (by decide) ?_
  refine sh_isub (pc := 18) dL_straight_18 ?_
  refine k_istore (pc := 19) [some (.inl x1), some (.inl x2), some (.inl x3), some (.inl ((x2 / 10) - (x1 / 10))), some (.inl ((x2 % 10) - (x1 % 10))), none] dL_straight_19 rfl (by decide) ?_
  refine sh_iload_n (pc := 21) dL_straight_21 rfl rfl ?_
  obtain ⟨hb_3, h⟩ := h
  refine sh_if_ne (pc := 22) (tgt := 30) dL_straight_22 (by decide) hb_3  (fun q_4 => ?_) (fun q_4 => ?_)
  · replace h := h.1 q_4
    refine sh_iload_n (pc := 30) dL_straight_30 rfl rfl ?_
    refine sh_iconst (pc := 31) (v := 1) dL_straight_31 rfl ?_
    obtain ⟨ho_5, h⟩ := h
    refine l_icmp_ne (pc := 32) (tgt := 40) dL_straight_32 (by decide) ho_5 (fun q_6 => ?_) (fun q_6 => ?_)
    · replace h := h.1 q_6
      refine sh_iload_n (pc := 40) dL_straight_40 rfl rfl ?_
      refine sh_iconst (pc := 41) (v := 2) dL_straight_41 rfl ?_
      obtain ⟨ho_7, h⟩ := h
      refine l_icmp_ne (pc := 42) (tgt := 49) dL_straight_42 (by decide) ho_7 (fun q_8 => ?_) (fun q_8 => ?_)
      · replace h := h.1 q_8
        refine sh_iload (pc := 49) dL_straight_49 rfl ?_
        refine sh_ineg (pc := 51) dL_straight_51 ?_
        exact sh_O.locals h (sub_none (sub_none (sub_some (sub_some (sub_some (sub_none sub_nil))))))
      · replace h := h.2 q_8
        refine sh_iload_n (pc := 45) dL_straight_45 rfl rfl ?_
        refine sh_goto (pc := 46) (tgt := 52) dL_straight_46 (by decide) ?_
        exact sh_O.locals h (sub_none (sub_none (sub_some (sub_some (sub_some (sub_none sub_nil))))))
    · replace h := h.2 q_6
      refine sh_iload (pc := 35) dL_straight_35 rfl ?_
      refine sh_goto (pc := 37) (tgt := 52) dL_straight_37 (by decide) ?_
      exact sh_O.locals h (sub_none (sub_none (sub_some (sub_some (sub_some (sub_none sub_nil))))))
  · replace h := h.2 q_4
    refine sh_iload_n (pc := 25) dL_straight_25 rfl rfl ?_
    refine sh_ineg (pc := 26) dL_straight_26 ?_
    refine sh_goto (pc := 27) (tgt := 52) dL_straight_27 (by decide) ?_
    exact sh_O.locals h (sub_none (sub_none (sub_some (sub_some (sub_some (sub_none sub_nil))))))
set_option maxRecDepth 100000 in
set_option maxHeartbeats 4000000 in
theorem lL_straight_52 {c : sh_Cx} (hx : cx c) {y2 : Int} {y3 : Int} {y4 : Int} {z0 : Int} {I : sh_Mem} {Q : Int → sh_Mem → Prop} (h : (sh_Bd z0 ∧ ((z0 ≤ 0 → Q 0 I) ∧ (0 < z0 → ((0 ≤ y2 ∧ y2 < 2147483648) ∧ (sh_Bd (y2 % 2) ∧ ((¬ (y2 % 2) = 0 → (sh_Bd y3 ∧ ((¬ y3 = 0 → Q 0 I) ∧ (y3 = 0 → Q z0 I)))) ∧ ((y2 % 2) = 0 → (sh_Bd y4 ∧ ((¬ y4 = 0 → Q 0 I) ∧ (y4 = 0 → Q z0 I))))))))))) : kl c (0, 0) mL_straight 52 [none, none, some (.inl y2), some (.inl y3), some (.inl y4), none] [.inl z0] I (qli c Q) := by
  refine k_istore (pc := 52) [none, none, some (.inl y2), some (.inl y3), some (.inl y4), some (.inl z0)] dL_straight_52 rfl (by decide) ?_
  refine sh_iload (pc := 54) dL_straight_54 rfl ?_
  obtain ⟨hb_1, h⟩ := h
  refine sh_if_le (pc := 56) (tgt := 82) dL_straight_56 (by decide) hb_1  (fun q_2 => ?_) (fun q_2 => ?_)
  · replace h := h.1 q_2
    refine sh_iconst (pc := 82) (v := 0) dL_straight_82 rfl ?_
    exact l_iret ext.rf dL_straight_83 rfl h
  · replace h := h.2 q_2
    refine sh_iload_n (pc := 59) dL_straight_59 rfl rfl ?_
    refine sh_iconst (pc := 60) (v := 2) dL_straight_60 rfl ?_
    obtain ⟨hn_3, h⟩ := h
    refine sh_irem (pc := 61) dL_straight_61 hn_3.1 hn_3.2 (by decide) (by decide) ?_
    obtain ⟨hb_4, h⟩ := h
    refine sh_if_ne (pc := 62) (tgt := 73) dL_straight_62 (by decide) hb_4  (fun q_5 => ?_) (fun q_5 => ?_)
    · replace h := h.1 q_5
      refine sh_iload_n (pc := 73) dL_straight_73 rfl rfl ?_
      obtain ⟨hb_6, h⟩ := h
      refine sh_if_ne (pc := 74) (tgt := 82) dL_straight_74 (by decide) hb_6  (fun q_7 => ?_) (fun q_7 => ?_)
      · replace h := h.1 q_7
        refine sh_iconst (pc := 82) (v := 0) dL_straight_82 rfl ?_
        exact l_iret ext.rf dL_straight_83 rfl h
      · replace h := h.2 q_7
        refine sh_iload (pc := 77) dL_straight_77 rfl ?_
        refine sh_goto (pc := 79) (tgt := 83) dL_straight_79 (by decide) ?_
        exact l_iret ext.rf dL_straight_83 rfl h
    · replace h := h.2 q_5
      refine sh_iload (pc := 65) dL_straight_65 rfl ?_
      obtain ⟨hb_8, h⟩ := h
      refine sh_if_ne (pc := 67) (tgt := 82) dL_straight_67 (by decide) hb_8  (fun q_9 => ?_) (fun q_9 => ?_)
      · replace h := h.1 q_9
        refine sh_iconst (pc := 82) (v := 0) dL_straight_82 rfl ?_
        exact l_iret ext.rf dL_straight_83 rfl h
      · replace h := h.2 q_9
        refine sh_goto (pc := 70) (tgt := 77) dL_straight_70 (by decide) ?_
        refine sh_iload (pc := 77) dL_straight_77 rfl ?_
        refine sh_goto (pc := 79) (tgt := 83) dL_straight_79 (by decide) ?_
        exact l_iret ext.rf dL_straight_83 rfl h
set_option maxRecDepth 100000 in
set_option maxHeartbeats 4000000 in
theorem eL_shades {c : sh_Cx} (hx : cx c) {G : Nat} (hG : dy c G 42) {L : Nat} (hL : dy c L 12) {N : Nat} (hN : dy c N 9) {x4 : Int} {x5 : Int} {x6 : Int} {I : sh_Mem} {Q : Int → sh_Mem → Prop} (h : ((0 ≤ (4 * x5) ∧ (4 * x5) < (12 : Int)) ∧ ((0 ≤ ((I L (4 * x5)) + 2) ∧ ((I L (4 * x5)) + 2) < 2147483648) ∧ ((0 ≤ (7 * x4) ∧ (7 * x4) < (42 : Int)) ∧ (cl c mL_straight [.inl (I G (7 * x4)), .inl x6, .inl (((I L (4 * x5)) + 2) % 4)] I (li c fun v5 J4 => ((0 ≤ ((4 * x5) + 3) ∧ ((4 * x5) + 3) < (12 : Int)) ∧ (((J4 L ((4 * x5) + 3)) = 1 ∨ (sh_Bd (J4 L ((4 * x5) + 3)) ∧ sh_Bd 1)) ∧ ((¬ (J4 L ((4 * x5) + 3)) = 1 → kl c (0, 0) mL_shades 76 [some (.inr G), none, some (.inr N), some (.inl x4), none, none, some (.inl (((I L (4 * x5)) + 2) % 4)), some (.inl v5), some (.inl 0), some (.inl 0), none] [] J4 (qli c Q)) ∧ ((J4 L ((4 * x5) + 3)) = 1 → (sh_Bd v5 ∧ ((v5 ≤ 0 → kl c (0, 0) mL_shades 76 [some (.inr G), none, some (.inr N), some (.inl x4), none, none, some (.inl (((I L (4 * x5)) + 2) % 4)), some (.inl v5), some (.inl 0), some (.inl 0), none] [] J4 (qli c Q)) ∧ (0 < v5 → ((0 ≤ ((7 * x4) + 1) ∧ ((7 * x4) + 1) < (42 : Int)) ∧ ((0 ≤ ((4 * x5) + 1) ∧ ((4 * x5) + 1) < (12 : Int)) ∧ (sh_Bd ((J4 G ((7 * x4) + 1)) * (J4 L ((4 * x5) + 1))) ∧ ((((J4 G ((7 * x4) + 1)) * (J4 L ((4 * x5) + 1))) < v5 → kl c (0, 0) mL_shades 76 [some (.inr G), none, some (.inr N), some (.inl x4), none, none, some (.inl (((I L (4 * x5)) + 2) % 4)), some (.inl v5), some (.inl 0), some (.inl 0), none] [] J4 (qli c Q)) ∧ (v5 ≤ ((J4 G ((7 * x4) + 1)) * (J4 L ((4 * x5) + 1))) → kl c (0, 0) mL_shades 76 [some (.inr G), none, some (.inr N), some (.inl x4), none, none, some (.inl (((I L (4 * x5)) + 2) % 4)), some (.inl v5), some (.inl 1), some (.inl 0), none] [] J4 (qli c Q))))))))))))))))))) : cl c mL_shades [.inr G, .inr L, .inr N, .inl x4, .inl x5, .inl x6] I (li c Q) := by
  refine l_callI cd_L_shades.2.2.2 (Nat.le_of_ble_eq_true rfl) ?_
  show kl c (0, 0) mL_shades 0 [some (.inr G), some (.inr L), some (.inr N), some (.inl x4), some (.inl x5), some (.inl x6), none, none, none, none, none] [] I (qli c Q)
  refine sh_aload_n (pc := 0) dL_shades_0 rfl rfl ?_
  refine sh_iconst (pc := 1) (v := 4) dL_shades_1 rfl ?_
  refine sh_iload (pc := 2) dL_shades_2 rfl ?_
  refine sh_imul (pc := 4) dL_shades_4 ?_
  obtain ⟨hi_1, h⟩ := h
  refine l_ald (pc := 5) dL_shades_5 hL hi_1 ?_
  refine sh_iconst (pc := 6) (v := 2) dL_shades_6 rfl ?_
  refine sh_iadd (pc := 7) dL_shades_7 ?_
  refine sh_iconst (pc := 8) (v := 4) dL_shades_8 rfl ?_
  obtain ⟨hn_2, h⟩ := h
  refine sh_irem (pc := 9) dL_shades_9 hn_2.1 hn_2.2 (by decide) (by decide) ?_
  refine k_istore (pc := 10) [some (.inr G), some (.inr L), some (.inr N), some (.inl x4), some (.inl x5), some (.inl x6), some (.inl (((I L (4 * x5)) + 2) % 4)), none, none, none, none] dL_shades_10 rfl (by decide) ?_
  refine sh_aload_n (pc := 12) dL_shades_12 rfl rfl ?_
  refine sh_bipush (pc := 13) (v := 7) dL_shades_13 (by decide) ?_
  refine sh_iload_n (pc := 15) dL_shades_15 rfl rfl ?_
  refine sh_imul (pc := 16) dL_shades_16 ?_
  obtain ⟨hi_3, h⟩ := h
  refine l_ald (pc := 17) dL_shades_17 hG hi_3 ?_
  refine sh_iload (pc := 18) dL_shades_18 rfl ?_
  refine sh_iload (pc := 20) dL_shades_20 rfl ?_
  refine l_S3i (pc := 22) dL_shades_22 lk_L_11 rfl h (fun v5 J4 h => ?_)
  refine k_istore (pc := 25) [some (.inr G), some (.inr L), some (.inr N), some (.inl x4), some (.inl x5), some (.inl x6), some (.inl (((I L (4 * x5)) + 2) % 4)), some (.inl v5), none, none, none] dL_shades_25 rfl (by decide) ?_
  refine sh_aload_n (pc := 27) dL_shades_27 rfl rfl ?_
  refine sh_iconst (pc := 28) (v := 4) dL_shades_28 rfl ?_
  refine sh_iload (pc := 29) dL_shades_29 rfl ?_
  refine sh_imul (pc := 31) dL_shades_31 ?_
  refine sh_iconst (pc := 32) (v := 3) dL_shades_32 rfl ?_
  refine sh_iadd (pc := 33) dL_shades_33 ?_
  obtain ⟨hi_6, h⟩ := h
  refine l_ald (pc := 34) dL_shades_34 hL hi_6 ?_
  refine sh_iconst (pc := 35) (v := 1) dL_shades_35 rfl ?_
  obtain ⟨ho_7, h⟩ := h
  refine l_icmp_ne (pc := 36) (tgt := 70) dL_shades_36 (by decide) ho_7 (fun q_8 => ?_) (fun q_8 => ?_)
  · replace h := h.1 q_8
    refine sh_iconst (pc := 70) (v := 0) dL_shades_70 rfl ?_
    refine k_istore (pc := 71) [some (.inr G), some (.inr L), some (.inr N), some (.inl x4), some (.inl x5), some (.inl x6), some (.inl (((I L (4 * x5)) + 2) % 4)), some (.inl v5), some (.inl 0), none, none] dL_shades_71 rfl (by decide) ?_
    refine sh_iconst (pc := 73) (v := 0) dL_shades_73 rfl ?_
    refine k_istore (pc := 74) [some (.inr G), some (.inr L), some (.inr N), some (.inl x4), some (.inl x5), some (.inl x6), some (.inl (((I L (4 * x5)) + 2) % 4)), some (.inl v5), some (.inl 0), some (.inl 0), none] dL_shades_74 rfl (by decide) ?_
    exact sh_O.locals h (sub_some (sub_none (sub_some (sub_some (sub_none (sub_none (sub_some (sub_some (sub_some (sub_some (sub_none sub_nil)))))))))))
  · replace h := h.2 q_8
    refine sh_iload (pc := 39) dL_shades_39 rfl ?_
    obtain ⟨hb_9, h⟩ := h
    refine sh_if_le (pc := 41) (tgt := 70) dL_shades_41 (by decide) hb_9  (fun q_10 => ?_) (fun q_10 => ?_)
    · replace h := h.1 q_10
      refine sh_iconst (pc := 70) (v := 0) dL_shades_70 rfl ?_
      refine k_istore (pc := 71) [some (.inr G), some (.inr L), some (.inr N), some (.inl x4), some (.inl x5), some (.inl x6), some (.inl (((I L (4 * x5)) + 2) % 4)), some (.inl v5), some (.inl 0), none, none] dL_shades_71 rfl (by decide) ?_
      refine sh_iconst (pc := 73) (v := 0) dL_shades_73 rfl ?_
      refine k_istore (pc := 74) [some (.inr G), some (.inr L), some (.inr N), some (.inl x4), some (.inl x5), some (.inl x6), some (.inl (((I L (4 * x5)) + 2) % 4)), some (.inl v5), some (.inl 0), some (.inl 0), none] dL_shades_74 rfl (by decide) ?_
      exact sh_O.locals h (sub_some (sub_none (sub_some (sub_some (sub_none (sub_none (sub_some (sub_some (sub_some (sub_some (sub_none sub_nil)))))))))))
    · replace h := h.2 q_10
      refine sh_iload (pc := 44) dL_shades_44 rfl ?_
      refine sh_aload_n (pc := 46) dL_shades_46 rfl rfl ?_
      refine sh_bipush (pc := 47) (v := 7) dL_shades_47 (by decide) ?_
      refine sh_iload_n (pc := 49) dL_shades_49 rfl rfl ?_
      refine sh_imul (pc := 50) dL_shades_50 ?_
      refine sh_iconst (pc := 51) (v := 1) dL_shades_51 rfl ?_
      refine sh_iadd (pc := 52) dL_shades_52 ?_
      obtain ⟨hi_11, h⟩ := h
      refine l_ald (pc := 53) dL_shades_53 hG hi_11 ?_
      refine sh_aload_n (pc := 54) dL_shades_54 rfl rfl ?_
      refine sh_iconst (pc := 55) (v := 4) dL_shades_55 rfl ?_
      refine sh_iload (pc := 56) dL_shades_56 rfl ?_
      refine sh_imul (pc := 58) dL_shades_58 ?_
      refine sh_iconst (pc := 59) (v := 1) dL_shades_59 rfl ?_
      refine sh_iadd (pc := 60) dL_shades_60 ?_
      obtain ⟨hi_12, h⟩ := h
      refine l_ald (pc := 61) dL_shades_61 hL hi_12 ?_
      refine sh_imul (pc := 62) dL_shades_62 ?_
      obtain ⟨hb_13, h⟩ := h
      refine sh_icmp_gt (pc := 63) (tgt := 70) dL_shades_63 (by decide) hb_9 hb_13 (fun q_14 => ?_) (fun q_14 => ?_)
      · replace h := h.1 q_14
        refine sh_iconst (pc := 70) (v := 0) dL_shades_70 rfl ?_
        refine k_istore (pc := 71) [some (.inr G), some (.inr L), some (.inr N), some (.inl x4), some (.inl x5), some (.inl x6), some (.inl (((I L (4 * x5)) + 2) % 4)), some (.inl v5), some (.inl 0), none, none] dL_shades_71 rfl (by decide) ?_
        refine sh_iconst (pc := 73) (v := 0) dL_shades_73 rfl ?_
        refine k_istore (pc := 74) [some (.inr G), some (.inr L), some (.inr N), some (.inl x4), some (.inl x5), some (.inl x6), some (.inl (((I L (4 * x5)) + 2) % 4)), some (.inl v5), some (.inl 0), some (.inl 0), none] dL_shades_74 rfl (by decide) ?_
        exact sh_O.locals h (sub_some (sub_none (sub_some (sub_some (sub_none (sub_none (sub_some (sub_some (sub_some (sub_some (sub_none sub_nil)))))))))))
      · replace h := h.2 q_14
        refine sh_iconst (pc := 66) (v := 1) dL_shades_66 rfl ?_
        refine sh_goto (pc := 67) (tgt := 71) dL_shades_67 (by decide) ?_
        refine k_istore (pc := 71) [some (.inr G), some (.inr L), some (.inr N), some (.inl x4), some (.inl x5), some (.inl x6), some (.inl (((I L (4 * x5)) + 2) % 4)), some (.inl v5), some (.inl 1), none, none] dL_shades_71 rfl (by decide) ?_
        refine sh_iconst (pc := 73) (v := 0) dL_shades_73 rfl ?_
        refine k_istore (pc := 74) [some (.inr G), some (.inr L), some (.inr N), some (.inl x4), some (.inl x5), some (.inl x6), some (.inl (((I L (4 * x5)) + 2) % 4)), some (.inl v5), some (.inl 1), some (.inl 0), none] dL_shades_74 rfl (by decide) ?_
        exact sh_O.locals h (sub_some (sub_none (sub_some (sub_some (sub_none (sub_none (sub_some (sub_some (sub_some (sub_some (sub_none sub_nil)))))))))))
set_option maxRecDepth 100000 in
set_option maxHeartbeats 4000000 in
theorem lL_shades_76 {c : sh_Cx} (hx : cx c) {G : Nat} (hG : dy c G 42) {L : Nat} (hL : dy c L 12) {N : Nat} (hN : dy c N 9) {y3 : Int} {y6 : Int} {y7 : Int} {y8 : Int} {y9 : Int} {I : sh_Mem} {Q : Int → sh_Mem → Prop} (h : (sh_Bd y9 ∧ (sh_Bd (I N 8) ∧ (((I N 8) ≤ y9 → (sh_01 y8 ∧ Q y8 I)) ∧ (y9 < (I N 8) → ((0 ≤ (7 * y3) ∧ (7 * y3) < (42 : Int)) ∧ ((0 ≤ (7 * y9) ∧ (7 * y9) < (42 : Int)) ∧ (cl c mL_straight [.inl (I G (7 * y3)), .inl (I G (7 * y9)), .inl y6] I (li c fun v8 J7 => (sh_Bd y8 ∧ ((y8 = 0 → kl c (0, 0) mL_shades 76 [some (.inr G), none, some (.inr N), some (.inl y3), none, none, some (.inl y6), some (.inl y7), some (.inl 0), some (.inl (y9 + 1)), none] [] J7 (qli c Q)) ∧ (¬ y8 = 0 → (sh_Bd v8 ∧ ((v8 = 0 → kl c (0, 0) mL_shades 76 [some (.inr G), none, some (.inr N), some (.inl y3), none, none, some (.inl y6), some (.inl y7), some (.inl 1), some (.inl (y9 + 1)), none] [] J7 (qli c Q)) ∧ (¬ v8 = 0 → (sh_Bd y7 ∧ ((v8 < y7 → kl c (0, 0) mL_shades 76 [some (.inr G), none, some (.inr N), some (.inl y3), none, none, some (.inl y6), some (.inl y7), some (.inl 0), some (.inl (y9 + 1)), none] [] J7 (qli c Q)) ∧ (y7 ≤ v8 → kl c (0, 0) mL_shades 76 [some (.inr G), none, some (.inr N), some (.inl y3), none, none, some (.inl y6), some (.inl y7), some (.inl 1), some (.inl (y9 + 1)), none] [] J7 (qli c Q))))))))))))))))))) : kl c (0, 0) mL_shades 76 [some (.inr G), none, some (.inr N), some (.inl y3), none, none, some (.inl y6), some (.inl y7), some (.inl y8), some (.inl y9), none] [] I (qli c Q) := by
  refine sh_iload (pc := 76) dL_shades_76 rfl ?_
  refine sh_aload_n (pc := 78) dL_shades_78 rfl rfl ?_
  refine sh_bipush (pc := 79) (v := 8) dL_shades_79 (by decide) ?_
  refine l_ald (pc := 81) dL_shades_81 hN (by decide) ?_
  obtain ⟨hb_1, h⟩ := h
  obtain ⟨hb_2, h⟩ := h
  refine sh_icmp_ge (pc := 82) (tgt := 135) dL_shades_82 (by decide) hb_1 hb_2 (fun q_3 => ?_) (fun q_3 => ?_)
  · replace h := h.1 q_3
    refine sh_iload (pc := 135) dL_shades_135 rfl ?_
    obtain ⟨hz_4, h⟩ := h
    exact l_zret ext.rf dL_shades_137 rfl hz_4 h
  · replace h := h.2 q_3
    refine sh_aload_n (pc := 85) dL_shades_85 rfl rfl ?_
    refine sh_bipush (pc := 86) (v := 7) dL_shades_86 (by decide) ?_
    refine sh_iload_n (pc := 88) dL_shades_88 rfl rfl ?_
    refine sh_imul (pc := 89) dL_shades_89 ?_
    obtain ⟨hi_5, h⟩ := h
    refine l_ald (pc := 90) dL_shades_90 hG hi_5 ?_
    refine sh_aload_n (pc := 91) dL_shades_91 rfl rfl ?_
    refine sh_bipush (pc := 92) (v := 7) dL_shades_92 (by decide) ?_
    refine sh_iload (pc := 94) dL_shades_94 rfl ?_
    refine sh_imul (pc := 96) dL_shades_96 ?_
    obtain ⟨hi_6, h⟩ := h
    refine l_ald (pc := 97) dL_shades_97 hG hi_6 ?_
    refine sh_iload (pc := 98) dL_shades_98 rfl ?_
    refine l_S3i (pc := 100) dL_shades_100 lk_L_11 rfl h (fun v8 J7 h => ?_)
    refine k_istore (pc := 103) [some (.inr G), none, some (.inr N), some (.inl y3), none, none, some (.inl y6), some (.inl y7), some (.inl y8), some (.inl y9), some (.inl v8)] dL_shades_103 rfl (by decide) ?_
    refine sh_iload (pc := 105) dL_shades_105 rfl ?_
    obtain ⟨hb_9, h⟩ := h
    refine sh_if_eq (pc := 107) (tgt := 126) dL_shades_107 (by decide) hb_9  (fun q_10 => ?_) (fun q_10 => ?_)
    · replace h := h.1 q_10
      refine sh_iconst (pc := 126) (v := 0) dL_shades_126 rfl ?_
      refine k_istore (pc := 127) [some (.inr G), none, some (.inr N), some (.inl y3), none, none, some (.inl y6), some (.inl y7), some (.inl 0), some (.inl y9), some (.inl v8)] dL_shades_127 rfl (by decide) ?_
      refine k_iinc (pc := 129) [some (.inr G), none, some (.inr N), some (.inl y3), none, none, some (.inl y6), some (.inl y7), some (.inl 0), some (.inl (y9 + 1)), some (.inl v8)] dL_shades_129 rfl rfl (by decide) ?_
      refine sh_goto (pc := 132) (tgt := 76) dL_shades_132 (by decide) ?_
      exact sh_O.locals h (sub_some (sub_none (sub_some (sub_some (sub_none (sub_none (sub_some (sub_some (sub_some (sub_some (sub_none sub_nil)))))))))))
    · replace h := h.2 q_10
      refine sh_iload (pc := 110) dL_shades_110 rfl ?_
      obtain ⟨hb_11, h⟩ := h
      refine sh_if_eq (pc := 112) (tgt := 122) dL_shades_112 (by decide) hb_11  (fun q_12 => ?_) (fun q_12 => ?_)
      · replace h := h.1 q_12
        refine sh_iconst (pc := 122) (v := 1) dL_shades_122 rfl ?_
        refine sh_goto (pc := 123) (tgt := 127) dL_shades_123 (by decide) ?_
        refine k_istore (pc := 127) [some (.inr G), none, some (.inr N), some (.inl y3), none, none, some (.inl y6), some (.inl y7), some (.inl 1), some (.inl y9), some (.inl v8)] dL_shades_127 rfl (by decide) ?_
        refine k_iinc (pc := 129) [some (.inr G), none, some (.inr N), some (.inl y3), none, none, some (.inl y6), some (.inl y7), some (.inl 1), some (.inl (y9 + 1)), some (.inl v8)] dL_shades_129 rfl rfl (by decide) ?_
        refine sh_goto (pc := 132) (tgt := 76) dL_shades_132 (by decide) ?_
        exact sh_O.locals h (sub_some (sub_none (sub_some (sub_some (sub_none (sub_none (sub_some (sub_some (sub_some (sub_some (sub_none sub_nil)))))))))))
      · replace h := h.2 q_12
        refine sh_iload (pc := 115) dL_shades_115 rfl ?_
        refine sh_iload (pc := 117) dL_shades_117 rfl ?_
        obtain ⟨hb_13, h⟩ := h
        refine sh_icmp_lt (pc := 119) (tgt := 126) dL_shades_119 (by decide) hb_11 hb_13 (fun q_14 => ?_) (fun q_14 => ?_)
        · replace h := h.1 q_14
          refine sh_iconst (pc := 126) (v := 0) dL_shades_126 rfl ?_
          refine k_istore (pc := 127) [some (.inr G), none, some (.inr N), some (.inl y3), none, none, some (.inl y6), some (.inl y7), some (.inl 0), some (.inl y9), some (.inl v8)] dL_shades_127 rfl (by decide) ?_
          refine k_iinc (pc := 129) [some (.inr G), none, some (.inr N), some (.inl y3), none, none, some (.inl y6), some (.inl y7), some (.inl 0), some (.inl (y9 + 1)), some (.inl v8)] dL_shades_129 rfl rfl (by decide) ?_
          refine sh_goto (pc := 132) (tgt := 76) dL_shades_132 (by decide) ?_
          exact sh_O.locals h (sub_some (sub_none (sub_some (sub_some (sub_none (sub_none (sub_some (sub_some (sub_some (sub_some (sub_none sub_nil)))))))))))
        · replace h := h.2 q_14
          refine sh_iconst (pc := 122) (v := 1) dL_shades_122 rfl ?_
          refine sh_goto (pc := 123) (tgt := 127) dL_shades_123 (by decide) ?_
          refine k_istore (pc := 127) [some (.inr G), none, some (.inr N), some (.inl y3), none, none, some (.inl y6), some (.inl y7), some (.inl 1), some (.inl y9), some (.inl v8)] dL_shades_127 rfl (by decide) ?_
          refine k_iinc (pc := 129) [some (.inr G), none, some (.inr N), some (.inl y3), none, none, some (.inl y6), some (.inl y7), some (.inl 1), some (.inl (y9 + 1)), some (.inl v8)] dL_shades_129 rfl rfl (by decide) ?_
          refine sh_goto (pc := 132) (tgt := 76) dL_shades_132 (by decide) ?_
          exact sh_O.locals h (sub_some (sub_none (sub_some (sub_some (sub_none (sub_none (sub_some (sub_some (sub_some (sub_some (sub_none sub_nil)))))))))))
set_option maxRecDepth 100000 in
set_option maxHeartbeats 4000000 in
theorem eL_shaded {c : sh_Cx} (hx : cx c) {G : Nat} (hG : dy c G 42) {L : Nat} (hL : dy c L 12) {N : Nat} (hN : dy c N 9) {x4 : Int} {x5 : Int} {I : sh_Mem} {Q : Int → sh_Mem → Prop} (h : (cl c mL_shades [.inr G, .inr L, .inr N, .inl x4, .inl 0, .inl x5] I (li c fun v2 J1 => ((v2 = 1 ∧ Q 1 J1) ∨ (v2 = 0 ∧ (cl c mL_shades [.inr G, .inr L, .inr N, .inl x4, .inl 1, .inl x5] J1 (li c fun v4 J3 => ((v4 = 1 ∧ Q 1 J3) ∨ (v4 = 0 ∧ (cl c mL_shades [.inr G, .inr L, .inr N, .inl x4, .inl 2, .inl x5] J3 (li c fun v6 J5 => ((v6 = 1 ∧ Q 1 J5) ∨ (v6 = 0 ∧ Q 0 J5))))))))))))) : cl c mL_shaded [.inr G, .inr L, .inr N, .inl x4, .inl x5] I (li c Q) := by
  refine l_callI cd_L_shaded.2.2.2 (Nat.le_of_ble_eq_true rfl) ?_
  show kl c (0, 0) mL_shaded 0 [some (.inr G), some (.inr L), some (.inr N), some (.inl x4), some (.inl x5)] [] I (qli c Q)
  refine sh_aload_n (pc := 0) dL_shaded_0 rfl rfl ?_
  refine sh_aload_n (pc := 1) dL_shaded_1 rfl rfl ?_
  refine sh_aload_n (pc := 2) dL_shaded_2 rfl rfl ?_
  refine sh_iload_n (pc := 3) dL_shaded_3 rfl rfl ?_
  refine sh_iconst (pc := 4) (v := 0) dL_shaded_4 rfl ?_
  refine sh_iload (pc := 5) dL_shaded_5 rfl ?_
  refine l_S6i (pc := 7) dL_shaded_7 lk_L_15 rfl h (fun v2 J1 h => ?_)
  rcases h with ⟨rfl, h⟩ | ⟨rfl, h⟩
  · skip
    refine sh_if_ne (pc := 10) (tgt := 39) dL_shaded_10 (by decide) (bd_lit (by decide)) (fun qz => ?_) (fun qz => ?_)
    · skip
      refine sh_iconst (pc := 39) (v := 1) dL_shaded_39 rfl ?_
      refine sh_goto (pc := 40) (tgt := 44) dL_shaded_40 (by decide) ?_
      exact l_zret ext.rf dL_shaded_44 rfl (Or.inr rfl) h
    · exact absurd qz (by decide)
  · skip
    refine sh_if_ne (pc := 10) (tgt := 39) dL_shaded_10 (by decide) (bd_lit (by decide)) (fun qz => ?_) (fun qz => ?_)
    · exact absurd qz (by decide)
    · skip
      refine sh_aload_n (pc := 13) dL_shaded_13 rfl rfl ?_
      refine sh_aload_n (pc := 14) dL_shaded_14 rfl rfl ?_
      refine sh_aload_n (pc := 15) dL_shaded_15 rfl rfl ?_
      refine sh_iload_n (pc := 16) dL_shaded_16 rfl rfl ?_
      refine sh_iconst (pc := 17) (v := 1) dL_shaded_17 rfl ?_
      refine sh_iload (pc := 18) dL_shaded_18 rfl ?_
      refine l_S6i (pc := 20) dL_shaded_20 lk_L_15 rfl h (fun v4 J3 h => ?_)
      rcases h with ⟨rfl, h⟩ | ⟨rfl, h⟩
      · skip
        refine sh_if_ne (pc := 23) (tgt := 39) dL_shaded_23 (by decide) (bd_lit (by decide)) (fun qz => ?_) (fun qz => ?_)
        · skip
          refine sh_iconst (pc := 39) (v := 1) dL_shaded_39 rfl ?_
          refine sh_goto (pc := 40) (tgt := 44) dL_shaded_40 (by decide) ?_
          exact l_zret ext.rf dL_shaded_44 rfl (Or.inr rfl) h
        · exact absurd qz (by decide)
      · skip
        refine sh_if_ne (pc := 23) (tgt := 39) dL_shaded_23 (by decide) (bd_lit (by decide)) (fun qz => ?_) (fun qz => ?_)
        · exact absurd qz (by decide)
        · skip
          refine sh_aload_n (pc := 26) dL_shaded_26 rfl rfl ?_
          refine sh_aload_n (pc := 27) dL_shaded_27 rfl rfl ?_
          refine sh_aload_n (pc := 28) dL_shaded_28 rfl rfl ?_
          refine sh_iload_n (pc := 29) dL_shaded_29 rfl rfl ?_
          refine sh_iconst (pc := 30) (v := 2) dL_shaded_30 rfl ?_
          refine sh_iload (pc := 31) dL_shaded_31 rfl ?_
          refine l_S6i (pc := 33) dL_shaded_33 lk_L_15 rfl h (fun v6 J5 h => ?_)
          rcases h with ⟨rfl, h⟩ | ⟨rfl, h⟩
          · skip
            refine sh_if_eq (pc := 36) (tgt := 43) dL_shaded_36 (by decide) (bd_lit (by decide)) (fun qz => ?_) (fun qz => ?_)
            · exact absurd qz (by decide)
            · skip
              refine sh_iconst (pc := 39) (v := 1) dL_shaded_39 rfl ?_
              refine sh_goto (pc := 40) (tgt := 44) dL_shaded_40 (by decide) ?_
              exact l_zret ext.rf dL_shaded_44 rfl (Or.inr rfl) h
          · skip
            refine sh_if_eq (pc := 36) (tgt := 43) dL_shaded_36 (by decide) (bd_lit (by decide)) (fun qz => ?_) (fun qz => ?_)
            · skip
              refine sh_iconst (pc := 43) (v := 0) dL_shaded_43 rfl ?_
              exact l_zret ext.rf dL_shaded_44 rfl (Or.inl rfl) h
            · exact absurd qz (by decide)
set_option maxRecDepth 100000 in
set_option maxHeartbeats 4000000 in
theorem eL_cells {c : sh_Cx} (hx : cx c) {G : Nat} (hG : dy c G 42) {L : Nat} (hL : dy c L 12) {N : Nat} (hN : dy c N 9) {x4 : Int} {I : sh_Mem} {Q : Int → sh_Mem → Prop} (h : kl c (0, 0) mL_cells 6 [some (.inr G), some (.inr L), some (.inr N), some (.inl x4), some (.inl 0), some (.inl 0)] [] I (qli c Q)) : cl c mL_cells [.inr G, .inr L, .inr N, .inl x4] I (li c Q) := by
  refine l_callI cd_L_cells.2.2.2 (Nat.le_of_ble_eq_true rfl) ?_
  show kl c (0, 0) mL_cells 0 [some (.inr G), some (.inr L), some (.inr N), some (.inl x4), none, none] [] I (qli c Q)
  refine sh_iconst (pc := 0) (v := 0) dL_cells_0 rfl ?_
  refine k_istore (pc := 1) [some (.inr G), some (.inr L), some (.inr N), some (.inl x4), some (.inl 0), none] dL_cells_1 rfl (by decide) ?_
  refine sh_iconst (pc := 3) (v := 0) dL_cells_3 rfl ?_
  refine k_istore (pc := 4) [some (.inr G), some (.inr L), some (.inr N), some (.inl x4), some (.inl 0), some (.inl 0)] dL_cells_4 rfl (by decide) ?_
  exact sh_O.locals h (sub_some (sub_some (sub_some (sub_some (sub_some (sub_some sub_nil))))))
set_option maxRecDepth 100000 in
set_option maxHeartbeats 4000000 in
theorem lL_cells_6 {c : sh_Cx} (hx : cx c) {G : Nat} (hG : dy c G 42) {L : Nat} (hL : dy c L 12) {N : Nat} (hN : dy c N 9) {y3 : Int} {y4 : Int} {y5 : Int} {I : sh_Mem} {Q : Int → sh_Mem → Prop} (h : (sh_Bd y5 ∧ ((100 ≤ y5 → Q y4 I) ∧ (y5 < 100 → (cl c mL_shaded [.inr G, .inr L, .inr N, .inl y3, .inl y5] I (li c fun v4 J3 => ((v4 = 1 ∧ kl c (0, 0) mL_cells 6 [some (.inr G), some (.inr L), some (.inr N), some (.inl y3), some (.inl (y4 + 1)), some (.inl (y5 + 1))] [] J3 (qli c Q)) ∨ (v4 = 0 ∧ kl c (0, 0) mL_cells 6 [some (.inr G), some (.inr L), some (.inr N), some (.inl y3), some (.inl (y4 + 0)), some (.inl (y5 + 1))] [] J3 (qli c Q))))))))) : kl c (0, 0) mL_cells 6 [some (.inr G), some (.inr L), some (.inr N), some (.inl y3), some (.inl y4), some (.inl y5)] [] I (qli c Q) := by
  refine sh_iload (pc := 6) dL_cells_6 rfl ?_
  refine sh_bipush (pc := 8) (v := 100) dL_cells_8 (by decide) ?_
  obtain ⟨hb_1, h⟩ := h
  refine sh_icmp_ge (pc := 10) (tgt := 41) dL_cells_10 (by decide) hb_1 (bd_lit (by decide)) (fun q_2 => ?_) (fun q_2 => ?_)
  · replace h := h.1 q_2
    refine sh_iload (pc := 41) dL_cells_41 rfl ?_
    exact l_iret ext.rf dL_cells_43 rfl h
  · replace h := h.2 q_2
    refine sh_iload (pc := 13) dL_cells_13 rfl ?_
    refine sh_aload_n (pc := 15) dL_cells_15 rfl rfl ?_
    refine sh_aload_n (pc := 16) dL_cells_16 rfl rfl ?_
    refine sh_aload_n (pc := 17) dL_cells_17 rfl rfl ?_
    refine sh_iload_n (pc := 18) dL_cells_18 rfl rfl ?_
    refine sh_iload (pc := 19) dL_cells_19 rfl ?_
    refine l_S5i (pc := 21) dL_cells_21 lk_L_19 rfl h (fun v4 J3 h => ?_)
    rcases h with ⟨rfl, h⟩ | ⟨rfl, h⟩
    · skip
      refine sh_if_eq (pc := 24) (tgt := 31) dL_cells_24 (by decide) (bd_lit (by decide)) (fun qz => ?_) (fun qz => ?_)
      · exact absurd qz (by decide)
      · skip
        refine sh_iconst (pc := 27) (v := 1) dL_cells_27 rfl ?_
        refine sh_goto (pc := 28) (tgt := 32) dL_cells_28 (by decide) ?_
        refine sh_iadd (pc := 32) dL_cells_32 ?_
        refine k_istore (pc := 33) [some (.inr G), some (.inr L), some (.inr N), some (.inl y3), some (.inl (y4 + 1)), some (.inl y5)] dL_cells_33 rfl (by decide) ?_
        refine k_iinc (pc := 35) [some (.inr G), some (.inr L), some (.inr N), some (.inl y3), some (.inl (y4 + 1)), some (.inl (y5 + 1))] dL_cells_35 rfl rfl (by decide) ?_
        refine sh_goto (pc := 38) (tgt := 6) dL_cells_38 (by decide) ?_
        exact sh_O.locals h (sub_some (sub_some (sub_some (sub_some (sub_some (sub_some sub_nil))))))
    · skip
      refine sh_if_eq (pc := 24) (tgt := 31) dL_cells_24 (by decide) (bd_lit (by decide)) (fun qz => ?_) (fun qz => ?_)
      · skip
        refine sh_iconst (pc := 31) (v := 0) dL_cells_31 rfl ?_
        refine sh_iadd (pc := 32) dL_cells_32 ?_
        refine k_istore (pc := 33) [some (.inr G), some (.inr L), some (.inr N), some (.inl y3), some (.inl (y4 + 0)), some (.inl y5)] dL_cells_33 rfl (by decide) ?_
        refine k_iinc (pc := 35) [some (.inr G), some (.inr L), some (.inr N), some (.inl y3), some (.inl (y4 + 0)), some (.inl (y5 + 1))] dL_cells_35 rfl rfl (by decide) ?_
        refine sh_goto (pc := 38) (tgt := 6) dL_cells_38 (by decide) ?_
        exact sh_O.locals h (sub_some (sub_some (sub_some (sub_some (sub_some (sub_some sub_nil))))))
      · exact absurd qz (by decide)
set_option maxRecDepth 100000 in
set_option maxHeartbeats 4000000 in
theorem eL_beside {c : sh_Cx} (hx : cx c) {x1 : Int} {x2 : Int} {I : sh_Mem} {Q : Int → sh_Mem → Prop} (h : ((0 ≤ x1 ∧ x1 < 2147483648) ∧ ((x2 = 2 ∨ (sh_Bd x2 ∧ sh_Bd 2)) ∧ ((¬ x2 = 2 → (sh_Bd x2 ∧ ((¬ x2 = 0 → kl c (0, 0) mL_beside 22 [some (.inl x1), some (.inl x2), none, none] [.inl 0, .inl (x1 / 10)] I (qli c Q)) ∧ (x2 = 0 → kl c (0, 0) mL_beside 22 [some (.inl x1), some (.inl x2), none, none] [.inl (-1), .inl (x1 / 10)] I (qli c Q))))) ∧ (x2 = 2 → kl c (0, 0) mL_beside 22 [some (.inl x1), some (.inl x2), none, none] [.inl 1, .inl (x1 / 10)] I (qli c Q)))))) : cl c mL_beside [.inl x1, .inl x2] I (li c Q) := by
  refine l_callI cd_L_beside.2.2.2 (Nat.le_of_ble_eq_true rfl) ?_
  show kl c (0, 0) mL_beside 0 [some (.inl x1), some (.inl x2), none, none] [] I (qli c Q)
  refine sh_iload_n (pc := 0) dL_beside_0 rfl rfl ?_
  refine sh_bipush (pc := 1) (v := 10) dL_beside_1 (by decide) ?_
  obtain ⟨hn_1, h⟩ := h
  refine sh_idiv (pc := 3) dL_beside_3 hn_1.1 hn_1.2 (by decide) (by decide) ?_
  refine sh_iload_n (pc := 4) dL_beside_4 rfl rfl ?_
  refine sh_iconst (pc := 5) (v := 2) dL_beside_5 rfl ?_
  obtain ⟨ho_2, h⟩ := h
  refine l_icmp_ne (pc := 6) (tgt := 13) dL_beside_6 (by decide) ho_2 (fun q_3 => ?_) (fun q_3 => ?_)
  · replace h := h.1 q_3
    refine sh_iload_n (pc := 13) dL_beside_13 rfl rfl ?_
    obtain ⟨hb_4, h⟩ := h
    refine sh_if_ne (pc := 14) (tgt := 21) dL_beside_14 (by decide) hb_4  (fun q_5 => ?_) (fun q_5 => ?_)
    · replace h := h.1 q_5
      refine sh_iconst (pc := 21) (v := 0) dL_beside_21 rfl ?_
      exact sh_O.locals h (sub_some (sub_some (sub_none (sub_none sub_nil))))
    · replace h := h.2 q_5
      refine sh_iconst (pc := 17) (v := (-1)) dL_beside_17 rfl ?_
      refine sh_goto (pc := 18) (tgt := 22) dL_beside_18 (by decide) ?_
      exact sh_O.locals h (sub_some (sub_some (sub_none (sub_none sub_nil))))
  · replace h := h.2 q_3
    refine sh_iconst (pc := 9) (v := 1) dL_beside_9 rfl ?_
    refine sh_goto (pc := 10) (tgt := 22) dL_beside_10 (by decide) ?_
    exact sh_O.locals h (sub_some (sub_some (sub_none (sub_none sub_nil))))
set_option maxRecDepth 100000 in
set_option maxHeartbeats 4000000 in
theorem lL_beside_22 {c : sh_Cx} (hx : cx c) {y0 : Int} {y1 : Int} {z0 : Int} {z1 : Int} {I : sh_Mem} {Q : Int → sh_Mem → Prop} (h : ((0 ≤ y0 ∧ y0 < 2147483648) ∧ ((y1 = 1 ∨ (sh_Bd y1 ∧ sh_Bd 1)) ∧ ((¬ y1 = 1 → ((y1 = 3 ∨ (sh_Bd y1 ∧ sh_Bd 3)) ∧ ((¬ y1 = 3 → kl c (0, 0) mL_beside 47 [none, none, some (.inl (z0 + z1)), none] [.inl 0, .inl (y0 % 10)] I (qli c Q)) ∧ (y1 = 3 → kl c (0, 0) mL_beside 47 [none, none, some (.inl (z0 + z1)), none] [.inl (-1), .inl (y0 % 10)] I (qli c Q))))) ∧ (y1 = 1 → kl c (0, 0) mL_beside 47 [none, none, some (.inl (z0 + z1)), none] [.inl 1, .inl (y0 % 10)] I (qli c Q)))))) : kl c (0, 0) mL_beside 22 [some (.inl y0), some (.inl y1), none, none] [.inl z1, .inl z0] I (qli c Q) := by
  refine sh_iadd (pc := 22) dL_beside_22 ?_
  refine k_istore_n (pc := 23) [some (.inl y0), some (.inl y1), some (.inl (z0 + z1)), none] dL_beside_23 rfl rfl (by decide) ?_
  refine sh_iload_n (pc := 24) dL_beside_24 rfl rfl ?_
  refine sh_bipush (pc := 25) (v := 10) dL_beside_25 (by decide) ?_
  obtain ⟨hn_1, h⟩ := h
  refine sh_irem (pc := 27) dL_beside_27 hn_1.1 hn_1.2 (by decide) (by decide) ?_
  refine sh_iload_n (pc := 28) dL_beside_28 rfl rfl ?_
  refine sh_iconst (pc := 29) (v := 1) dL_beside_29 rfl ?_
  obtain ⟨ho_2, h⟩ := h
  refine l_icmp_ne (pc := 30) (tgt := 37) dL_beside_30 (by decide) ho_2 (fun q_3 => ?_) (fun q_3 => ?_)
  · replace h := h.1 q_3
    refine sh_iload_n (pc := 37) dL_beside_37 rfl rfl ?_
    refine sh_iconst (pc := 38) (v := 3) dL_beside_38 rfl ?_
    obtain ⟨ho_4, h⟩ := h
    refine l_icmp_ne (pc := 39) (tgt := 46) dL_beside_39 (by decide) ho_4 (fun q_5 => ?_) (fun q_5 => ?_)
    · replace h := h.1 q_5
      refine sh_iconst (pc := 46) (v := 0) dL_beside_46 rfl ?_
      exact sh_O.locals h (sub_none (sub_none (sub_some (sub_none sub_nil))))
    · replace h := h.2 q_5
      refine sh_iconst (pc := 42) (v := (-1)) dL_beside_42 rfl ?_
      refine sh_goto (pc := 43) (tgt := 47) dL_beside_43 (by decide) ?_
      exact sh_O.locals h (sub_none (sub_none (sub_some (sub_none sub_nil))))
  · replace h := h.2 q_3
    refine sh_iconst (pc := 33) (v := 1) dL_beside_33 rfl ?_
    refine sh_goto (pc := 34) (tgt := 47) dL_beside_34 (by decide) ?_
    exact sh_O.locals h (sub_none (sub_none (sub_some (sub_none sub_nil))))
set_option maxRecDepth 100000 in
set_option maxHeartbeats 4000000 in
theorem lL_beside_47 {c : sh_Cx} (hx : cx c) {y2 : Int} {z0 : Int} {z1 : Int} {I : sh_Mem} {Q : Int → sh_Mem → Prop} (h : (sh_Bd y2 ∧ ((y2 < 0 → Q (-5) I) ∧ (0 ≤ y2 → ((9 < y2 → Q (-5) I) ∧ (y2 ≤ 9 → (sh_Bd (z0 + z1) ∧ (((z0 + z1) < 0 → Q (-5) I) ∧ (0 ≤ (z0 + z1) → (((z0 + z1) ≤ 9 → Q ((10 * y2) + (z0 + z1)) I) ∧ (9 < (z0 + z1) → Q (-5) I))))))))))) : kl c (0, 0) mL_beside 47 [none, none, some (.inl y2), none] [.inl z1, .inl z0] I (qli c Q) := by
  refine sh_iadd (pc := 47) dL_beside_47 ?_
  refine k_istore_n (pc := 48) [none, none, some (.inl y2), some (.inl (z0 + z1))] dL_beside_48 rfl rfl (by decide) ?_
  refine sh_iload_n (pc := 49) dL_beside_49 rfl rfl ?_
  obtain ⟨hb_1, h⟩ := h
  refine sh_if_lt (pc := 50) (tgt := 69) dL_beside_50 (by decide) hb_1  (fun q_2 => ?_) (fun q_2 => ?_)
  · replace h := h.1 q_2
    refine sh_bipush (pc := 69) (v := (-5)) dL_beside_69 (by decide) ?_
    refine sh_goto (pc := 71) (tgt := 80) dL_beside_71 (by decide) ?_
    exact l_iret ext.rf dL_beside_80 rfl h
  · replace h := h.2 q_2
    refine sh_iload_n (pc := 53) dL_beside_53 rfl rfl ?_
    refine sh_bipush (pc := 54) (v := 9) dL_beside_54 (by decide) ?_
    refine sh_icmp_gt (pc := 56) (tgt := 69) dL_beside_56 (by decide) hb_1 (bd_lit (by decide)) (fun q_3 => ?_) (fun q_3 => ?_)
    · replace h := h.1 q_3
      refine sh_bipush (pc := 69) (v := (-5)) dL_beside_69 (by decide) ?_
      refine sh_goto (pc := 71) (tgt := 80) dL_beside_71 (by decide) ?_
      exact l_iret ext.rf dL_beside_80 rfl h
    · replace h := h.2 q_3
      refine sh_iload_n (pc := 59) dL_beside_59 rfl rfl ?_
      obtain ⟨hb_4, h⟩ := h
      refine sh_if_lt (pc := 60) (tgt := 69) dL_beside_60 (by decide) hb_4  (fun q_5 => ?_) (fun q_5 => ?_)
      · replace h := h.1 q_5
        refine sh_bipush (pc := 69) (v := (-5)) dL_beside_69 (by decide) ?_
        refine sh_goto (pc := 71) (tgt := 80) dL_beside_71 (by decide) ?_
        exact l_iret ext.rf dL_beside_80 rfl h
      · replace h := h.2 q_5
        refine sh_iload_n (pc := 63) dL_beside_63 rfl rfl ?_
        refine sh_bipush (pc := 64) (v := 9) dL_beside_64 (by decide) ?_
        refine sh_icmp_le (pc := 66) (tgt := 74) dL_beside_66 (by decide) hb_4 (bd_lit (by decide)) (fun q_6 => ?_) (fun q_6 => ?_)
        · replace h := h.1 q_6
          refine sh_bipush (pc := 74) (v := 10) dL_beside_74 (by decide) ?_
          refine sh_iload_n (pc := 76) dL_beside_76 rfl rfl ?_
          refine sh_imul (pc := 77) dL_beside_77 ?_
          refine sh_iload_n (pc := 78) dL_beside_78 rfl rfl ?_
          refine sh_iadd (pc := 79) dL_beside_79 ?_
          exact l_iret ext.rf dL_beside_80 rfl h
        · replace h := h.2 q_6
          refine sh_bipush (pc := 69) (v := (-5)) dL_beside_69 (by decide) ?_
          refine sh_goto (pc := 71) (tgt := 80) dL_beside_71 (by decide) ?_
          exact l_iret ext.rf dL_beside_80 rfl h
set_option maxRecDepth 100000 in
set_option maxHeartbeats 4000000 in
theorem eL_tagged {c : sh_Cx} (hx : cx c) {G : Nat} (hG : dy c G 42) {L : Nat} (hL : dy c L 12) {N : Nat} (hN : dy c N 9) {I : sh_Mem} {Q : Int → sh_Mem → Prop} (h : kl c (0, 0) mL_tagged 2 [some (.inr G), some (.inr L), some (.inr N), some (.inl 0)] [] I (qli c Q)) : cl c mL_tagged [.inr G, .inr L, .inr N] I (li c Q) := by
  refine l_callI cd_L_tagged.2.2.2 (Nat.le_of_ble_eq_true rfl) ?_
  show kl c (0, 0) mL_tagged 0 [some (.inr G), some (.inr L), some (.inr N), none] [] I (qli c Q)
  refine sh_iconst (pc := 0) (v := 0) dL_tagged_0 rfl ?_
  refine k_istore_n (pc := 1) [some (.inr G), some (.inr L), some (.inr N), some (.inl 0)] dL_tagged_1 rfl rfl (by decide) ?_
  exact sh_O.locals h (sub_some (sub_some (sub_some (sub_some sub_nil))))
set_option maxRecDepth 100000 in
set_option maxHeartbeats 4000000 in
theorem lL_tagged_2 {c : sh_Cx} (hx : cx c) {G : Nat} (hG : dy c G 42) {L : Nat} (hL : dy c L 12) {N : Nat} (hN : dy c N 9) {y3 : Int} {I : sh_Mem} {Q : Int → sh_Mem → Prop} (h : (sh_Bd y3 ∧ (sh_Bd (I N 8) ∧ (((I N 8) ≤ y3 → Q (-5) I) ∧ (y3 < (I N 8) → ((y3 = (I N 1) ∨ (sh_Bd y3 ∧ sh_Bd (I N 1))) ∧ ((y3 = (I N 1) → kl c (0, 0) mL_tagged 2 [some (.inr G), some (.inr L), some (.inr N), some (.inl (y3 + 1))] [] I (qli c Q)) ∧ (¬ y3 = (I N 1) → ((0 ≤ ((7 * y3) + 3) ∧ ((7 * y3) + 3) < (42 : Int)) ∧ (sh_Bd (I G ((7 * y3) + 3)) ∧ ((¬ (I G ((7 * y3) + 3)) = 0 → kl c (0, 0) mL_tagged 2 [some (.inr G), some (.inr L), some (.inr N), some (.inl (y3 + 1))] [] I (qli c Q)) ∧ ((I G ((7 * y3) + 3)) = 0 → ((0 ≤ (7 * (I N 1)) ∧ (7 * (I N 1)) < (42 : Int)) ∧ (cl c mL_shaded [.inr G, .inr L, .inr N, .inl y3, .inl (I G (7 * (I N 1)))] I (li c fun v11 J10 => ((v11 = 1 ∧ Q y3 J10) ∨ (v11 = 0 ∧ kl c (0, 0) mL_tagged 2 [some (.inr G), some (.inr L), some (.inr N), some (.inl (y3 + 1))] [] J10 (qli c Q)))))))))))))))))) : kl c (0, 0) mL_tagged 2 [some (.inr G), some (.inr L), some (.inr N), some (.inl y3)] [] I (qli c Q) := by
  refine sh_iload_n (pc := 2) dL_tagged_2 rfl rfl ?_
  refine sh_aload_n (pc := 3) dL_tagged_3 rfl rfl ?_
  refine sh_bipush (pc := 4) (v := 8) dL_tagged_4 (by decide) ?_
  refine l_ald (pc := 6) dL_tagged_6 hN (by decide) ?_
  obtain ⟨hb_1, h⟩ := h
  obtain ⟨hb_2, h⟩ := h
  refine sh_icmp_ge (pc := 7) (tgt := 54) dL_tagged_7 (by decide) hb_1 hb_2 (fun q_3 => ?_) (fun q_3 => ?_)
  · replace h := h.1 q_3
    refine sh_bipush (pc := 54) (v := (-5)) dL_tagged_54 (by decide) ?_
    exact l_iret ext.rf dL_tagged_56 rfl h
  · replace h := h.2 q_3
    refine sh_iload_n (pc := 10) dL_tagged_10 rfl rfl ?_
    refine sh_aload_n (pc := 11) dL_tagged_11 rfl rfl ?_
    refine sh_iconst (pc := 12) (v := 1) dL_tagged_12 rfl ?_
    refine l_ald (pc := 13) dL_tagged_13 hN (by decide) ?_
    obtain ⟨ho_4, h⟩ := h
    refine l_icmp_eq (pc := 14) (tgt := 48) dL_tagged_14 (by decide) ho_4 (fun q_5 => ?_) (fun q_5 => ?_)
    · replace h := h.1 q_5
      refine k_iinc (pc := 48) [some (.inr G), some (.inr L), some (.inr N), some (.inl (y3 + 1))] dL_tagged_48 rfl rfl (by decide) ?_
      refine sh_goto (pc := 51) (tgt := 2) dL_tagged_51 (by decide) ?_
      exact sh_O.locals h (sub_some (sub_some (sub_some (sub_some sub_nil))))
    · replace h := h.2 q_5
      refine sh_aload_n (pc := 17) dL_tagged_17 rfl rfl ?_
      refine sh_bipush (pc := 18) (v := 7) dL_tagged_18 (by decide) ?_
      refine sh_iload_n (pc := 20) dL_tagged_20 rfl rfl ?_
      refine sh_imul (pc := 21) dL_tagged_21 ?_
      refine sh_iconst (pc := 22) (v := 3) dL_tagged_22 rfl ?_
      refine sh_iadd (pc := 23) dL_tagged_23 ?_
      obtain ⟨hi_6, h⟩ := h
      refine l_ald (pc := 24) dL_tagged_24 hG hi_6 ?_
      obtain ⟨hb_7, h⟩ := h
      refine sh_if_ne (pc := 25) (tgt := 48) dL_tagged_25 (by decide) hb_7  (fun q_8 => ?_) (fun q_8 => ?_)
      · replace h := h.1 q_8
        refine k_iinc (pc := 48) [some (.inr G), some (.inr L), some (.inr N), some (.inl (y3 + 1))] dL_tagged_48 rfl rfl (by decide) ?_
        refine sh_goto (pc := 51) (tgt := 2) dL_tagged_51 (by decide) ?_
        exact sh_O.locals h (sub_some (sub_some (sub_some (sub_some sub_nil))))
      · replace h := h.2 q_8
        refine sh_aload_n (pc := 28) dL_tagged_28 rfl rfl ?_
        refine sh_aload_n (pc := 29) dL_tagged_29 rfl rfl ?_
        refine sh_aload_n (pc := 30) dL_tagged_30 rfl rfl ?_
        refine sh_iload_n (pc := 31) dL_tagged_31 rfl rfl ?_
        refine sh_aload_n (pc := 32) dL_tagged_32 rfl rfl ?_
        refine sh_bipush (pc := 33) (v := 7) dL_tagged_33 (by decide) ?_
        refine sh_aload_n (pc := 35) dL_tagged_35 rfl rfl ?_
        refine sh_iconst (pc := 36) (v := 1) dL_tagged_36 rfl ?_
        refine l_ald (pc := 37) dL_tagged_37 hN (by decide) ?_
        refine sh_imul (pc := 38) dL_tagged_38 ?_
        obtain ⟨hi_9, h⟩ := h
        refine l_ald (pc := 39) dL_tagged_39 hG hi_9 ?_
        refine l_S5i (pc := 40) dL_tagged_40 lk_L_19 rfl h (fun v11 J10 h => ?_)
        rcases h with ⟨rfl, h⟩ | ⟨rfl, h⟩
        · skip
          refine sh_if_eq (pc := 43) (tgt := 48) dL_tagged_43 (by decide) (bd_lit (by decide)) (fun qz => ?_) (fun qz => ?_)
          · exact absurd qz (by decide)
          · skip
            refine sh_iload_n (pc := 46) dL_tagged_46 rfl rfl ?_
            exact l_iret ext.rf dL_tagged_47 rfl h
        · skip
          refine sh_if_eq (pc := 43) (tgt := 48) dL_tagged_43 (by decide) (bd_lit (by decide)) (fun qz => ?_) (fun qz => ?_)
          · skip
            refine k_iinc (pc := 48) [some (.inr G), some (.inr L), some (.inr N), some (.inl (y3 + 1))] dL_tagged_48 rfl rfl (by decide) ?_
            refine sh_goto (pc := 51) (tgt := 2) dL_tagged_51 (by decide) ?_
            exact sh_O.locals h (sub_some (sub_some (sub_some (sub_some sub_nil))))
          · exact absurd qz (by decide)
set_option maxRecDepth 100000 in
set_option maxHeartbeats 4000000 in
theorem eL_turns {c : sh_Cx} (hx : cx c) {G : Nat} (hG : dy c G 42) {L : Nat} (hL : dy c L 12) {N : Nat} (hN : dy c N 9) {I : sh_Mem} {Q : sh_Mem → Prop} (h : kl c (0, 0) mL_turns 2 [some (.inr G), some (.inr L), some (.inr N), some (.inl 0), none, none] [] I (qlv c Q)) : cl c mL_turns [.inr G, .inr L, .inr N] I (lv c Q) := by
  refine l_callV cd_L_turns.2.2.2 (Nat.le_of_ble_eq_true rfl) ?_
  show kl c (0, 0) mL_turns 0 [some (.inr G), some (.inr L), some (.inr N), none, none, none] [] I (qlv c Q)
  refine sh_iconst (pc := 0) (v := 0) dL_turns_0 rfl ?_
  refine k_istore_n (pc := 1) [some (.inr G), some (.inr L), some (.inr N), some (.inl 0), none, none] dL_turns_1 rfl rfl (by decide) ?_
  exact sh_O.locals h (sub_some (sub_some (sub_some (sub_some (sub_none (sub_none sub_nil))))))
set_option maxRecDepth 100000 in
set_option maxHeartbeats 4000000 in
theorem lL_turns_2 {c : sh_Cx} (hx : cx c) {G : Nat} (hG : dy c G 42) {L : Nat} (hL : dy c L 12) {N : Nat} (hN : dy c N 9) {y3 : Int} {I : sh_Mem} {Q : sh_Mem → Prop} (h : (sh_Bd y3 ∧ (sh_Bd (I N 8) ∧ (((I N 8) ≤ y3 → (cl c mL_tagged [.inr G, .inr L, .inr N] I (li c fun v5 J4 => (sh_Bd v5 ∧ ((v5 < 0 → kl c (0, 0) mL_turns 216 [some (.inr G), some (.inr L), some (.inr N), none, some (.inl 0), none] [] (sh_u J4 N 0 ((J4 N 0) + 1)) (qlv c Q)) ∧ (0 ≤ v5 → ((0 ≤ ((7 * v5) + 4) ∧ ((7 * v5) + 4) < (42 : Int)) ∧ ((0 ≤ ((7 * ((sh_u J4 G ((7 * v5) + 4) ((J4 G ((7 * v5) + 4)) + 1)) N 1)) + 5) ∧ ((7 * ((sh_u J4 G ((7 * v5) + 4) ((J4 G ((7 * v5) + 4)) + 1)) N 1)) + 5) < (42 : Int)) ∧ ((0 ≤ ((7 * ((sh_u (sh_u J4 G ((7 * v5) + 4) ((J4 G ((7 * v5) + 4)) + 1)) G ((7 * ((sh_u J4 G ((7 * v5) + 4) ((J4 G ((7 * v5) + 4)) + 1)) N 1)) + 5) (((sh_u J4 G ((7 * v5) + 4) ((J4 G ((7 * v5) + 4)) + 1)) G ((7 * ((sh_u J4 G ((7 * v5) + 4) ((J4 G ((7 * v5) + 4)) + 1)) N 1)) + 5)) + 1)) N 1)) + 3) ∧ ((7 * ((sh_u (sh_u J4 G ((7 * v5) + 4) ((J4 G ((7 * v5) + 4)) + 1)) G ((7 * ((sh_u J4 G ((7 * v5) + 4) ((J4 G ((7 * v5) + 4)) + 1)) N 1)) + 5) (((sh_u J4 G ((7 * v5) + 4) ((J4 G ((7 * v5) + 4)) + 1)) G ((7 * ((sh_u J4 G ((7 * v5) + 4) ((J4 G ((7 * v5) + 4)) + 1)) N 1)) + 5)) + 1)) N 1)) + 3) < (42 : Int)) ∧ kl c (0, 0) mL_turns 216 [some (.inr G), some (.inr L), some (.inr N), none, some (.inl 0), none] [] (sh_u (sh_u (sh_u (sh_u (sh_u (sh_u J4 G ((7 * v5) + 4) ((J4 G ((7 * v5) + 4)) + 1)) G ((7 * ((sh_u J4 G ((7 * v5) + 4) ((J4 G ((7 * v5) + 4)) + 1)) N 1)) + 5) (((sh_u J4 G ((7 * v5) + 4) ((J4 G ((7 * v5) + 4)) + 1)) G ((7 * ((sh_u J4 G ((7 * v5) + 4) ((J4 G ((7 * v5) + 4)) + 1)) N 1)) + 5)) + 1)) G ((7 * ((sh_u (sh_u J4 G ((7 * v5) + 4) ((J4 G ((7 * v5) + 4)) + 1)) G ((7 * ((sh_u J4 G ((7 * v5) + 4) ((J4 G ((7 * v5) + 4)) + 1)) N 1)) + 5) (((sh_u J4 G ((7 * v5) + 4) ((J4 G ((7 * v5) + 4)) + 1)) G ((7 * ((sh_u J4 G ((7 * v5) + 4) ((J4 G ((7 * v5) + 4)) + 1)) N 1)) + 5)) + 1)) N 1)) + 3) (((sh_u (sh_u J4 G ((7 * v5) + 4) ((J4 G ((7 * v5) + 4)) + 1)) G ((7 * ((sh_u J4 G ((7 * v5) + 4) ((J4 G ((7 * v5) + 4)) + 1)) N 1)) + 5) (((sh_u J4 G ((7 * v5) + 4) ((J4 G ((7 * v5) + 4)) + 1)) G ((7 * ((sh_u J4 G ((7 * v5) + 4) ((J4 G ((7 * v5) + 4)) + 1)) N 1)) + 5)) + 1)) N 6) + 1)) N 1 v5) N 2 (((sh_u (sh_u (sh_u (sh_u J4 G ((7 * v5) + 4) ((J4 G ((7 * v5) + 4)) + 1)) G ((7 * ((sh_u J4 G ((7 * v5) + 4) ((J4 G ((7 * v5) + 4)) + 1)) N 1)) + 5) (((sh_u J4 G ((7 * v5) + 4) ((J4 G ((7 * v5) + 4)) + 1)) G ((7 * ((sh_u J4 G ((7 * v5) + 4) ((J4 G ((7 * v5) + 4)) + 1)) N 1)) + 5)) + 1)) G ((7 * ((sh_u (sh_u J4 G ((7 * v5) + 4) ((J4 G ((7 * v5) + 4)) + 1)) G ((7 * ((sh_u J4 G ((7 * v5) + 4) ((J4 G ((7 * v5) + 4)) + 1)) N 1)) + 5) (((sh_u J4 G ((7 * v5) + 4) ((J4 G ((7 * v5) + 4)) + 1)) G ((7 * ((sh_u J4 G ((7 * v5) + 4) ((J4 G ((7 * v5) + 4)) + 1)) N 1)) + 5)) + 1)) N 1)) + 3) (((sh_u (sh_u J4 G ((7 * v5) + 4) ((J4 G ((7 * v5) + 4)) + 1)) G ((7 * ((sh_u J4 G ((7 * v5) + 4) ((J4 G ((7 * v5) + 4)) + 1)) N 1)) + 5) (((sh_u J4 G ((7 * v5) + 4) ((J4 G ((7 * v5) + 4)) + 1)) G ((7 * ((sh_u J4 G ((7 * v5) + 4) ((J4 G ((7 * v5) + 4)) + 1)) N 1)) + 5)) + 1)) N 6) + 1)) N 1 v5) N 2) + 1)) N 0 (((sh_u (sh_u (sh_u (sh_u (sh_u J4 G ((7 * v5) + 4) ((J4 G ((7 * v5) + 4)) + 1)) G ((7 * ((sh_u J4 G ((7 * v5) + 4) ((J4 G ((7 * v5) + 4)) + 1)) N 1)) + 5) (((sh_u J4 G ((7 * v5) + 4) ((J4 G ((7 * v5) + 4)) + 1)) G ((7 * ((sh_u J4 G ((7 * v5) + 4) ((J4 G ((7 * v5) + 4)) + 1)) N 1)) + 5)) + 1)) G ((7 * ((sh_u (sh_u J4 G ((7 * v5) + 4) ((J4 G ((7 * v5) + 4)) + 1)) G ((7 * ((sh_u J4 G ((7 * v5) + 4) ((J4 G ((7 * v5) + 4)) + 1)) N 1)) + 5) (((sh_u J4 G ((7 * v5) + 4) ((J4 G ((7 * v5) + 4)) + 1)) G ((7 * ((sh_u J4 G ((7 * v5) + 4) ((J4 G ((7 * v5) + 4)) + 1)) N 1)) + 5)) + 1)) N 1)) + 3) (((sh_u (sh_u J4 G ((7 * v5) + 4) ((J4 G ((7 * v5) + 4)) + 1)) G ((7 * ((sh_u J4 G ((7 * v5) + 4) ((J4 G ((7 * v5) + 4)) + 1)) N 1)) + 5) (((sh_u J4 G ((7 * v5) + 4) ((J4 G ((7 * v5) + 4)) + 1)) G ((7 * ((sh_u J4 G ((7 * v5) + 4) ((J4 G ((7 * v5) + 4)) + 1)) N 1)) + 5)) + 1)) N 6) + 1)) N 1 v5) N 2 (((sh_u (sh_u (sh_u (sh_u J4 G ((7 * v5) + 4) ((J4 G ((7 * v5) + 4)) + 1)) G ((7 * ((sh_u J4 G ((7 * v5) + 4) ((J4 G ((7 * v5) + 4)) + 1)) N 1)) + 5) (((sh_u J4 G ((7 * v5) + 4) ((J4 G ((7 * v5) + 4)) + 1)) G ((7 * ((sh_u J4 G ((7 * v5) + 4) ((J4 G ((7 * v5) + 4)) + 1)) N 1)) + 5)) + 1)) G ((7 * ((sh_u (sh_u J4 G ((7 * v5) + 4) ((J4 G ((7 * v5) + 4)) + 1)) G ((7 * ((sh_u J4 G ((7 * v5) + 4) ((J4 G ((7 * v5) + 4)) + 1)) N 1)) + 5) (((sh_u J4 G ((7 * v5) + 4) ((J4 G ((7 * v5) + 4)) + 1)) G ((7 * ((sh_u J4 G ((7 * v5) + 4) ((J4 G ((7 * v5) + 4)) + 1)) N 1)) + 5)) + 1)) N 1)) + 3) (((sh_u (sh_u J4 G ((7 * v5) + 4) ((J4 G ((7 * v5) + 4)) + 1)) G ((7 * ((sh_u J4 G ((7 * v5) + 4) ((J4 G ((7 * v5) + 4)) + 1)) N 1)) + 5) (((sh_u J4 G ((7 * v5) + 4) ((J4 G ((7 * v5) + 4)) + 1)) G ((7 * ((sh_u J4 G ((7 * v5) + 4) ((J4 G ((7 * v5) + 4)) + 1)) N 1)) + 5)) + 1)) N 6) + 1)) N 1 v5) N 2) + 1)) N 0) + 1)) (qlv c Q)))))))))) ∧ (y3 < (I N 8) → ((0 ≤ ((7 * y3) + 2) ∧ ((7 * y3) + 2) < (42 : Int)) ∧ (((I G ((7 * y3) + 2)) = 4 ∨ (sh_Bd (I G ((7 * y3) + 2)) ∧ sh_Bd 4)) ∧ ((¬ (I G ((7 * y3) + 2)) = 4 → ((0 ≤ (7 * y3) ∧ (7 * y3) < (42 : Int)) ∧ (cl c mL_beside [.inl (I G (7 * y3)), .inl (I G ((7 * y3) + 2))] I (li c fun v16 J15 => (sh_Bd v16 ∧ ((v16 < 0 → kl c (0, 0) mL_turns 67 [some (.inr G), some (.inr L), some (.inr N), some (.inl y3), some (.inl v16), none] [] J15 (qlv c Q)) ∧ (0 ≤ v16 → (cl c mL_who [.inr G, .inr N, .inl v16] J15 (li c fun v20 J19 => ((v20 = (-5) ∨ (sh_Bd v20 ∧ sh_Bd (-5))) ∧ ((¬ v20 = (-5) → kl c (0, 0) mL_turns 67 [some (.inr G), some (.inr L), some (.inr N), some (.inl y3), some (.inl v16), none] [] J19 (qlv c Q)) ∧ (v20 = (-5) → kl c (0, 0) mL_turns 68 [some (.inr G), some (.inr L), some (.inr N), some (.inl y3), some (.inl v16), none] [.inl 1] J19 (qlv c Q))))))))))))) ∧ ((I G ((7 * y3) + 2)) = 4 → kl c (0, 0) mL_turns 67 [some (.inr G), some (.inr L), some (.inr N), some (.inl y3), some (.inl (-5)), none] [] I (qlv c Q)))))))))) : kl c (0, 0) mL_turns 2 [some (.inr G), some (.inr L), some (.inr N), some (.inl y3), none, none] [] I (qlv c Q) := by
  refine sh_iload_n (pc := 2) dL_turns_2 rfl rfl ?_
  refine sh_aload_n (pc := 3) dL_turns_3 rfl rfl ?_
  refine sh_bipush (pc := 4) (v := 8) dL_turns_4 (by decide) ?_
  refine l_ald (pc := 6) dL_turns_6 hN (by decide) ?_
  obtain ⟨hb_1, h⟩ := h
  obtain ⟨hb_2, h⟩ := h
  refine sh_icmp_ge (pc := 7) (tgt := 142) dL_turns_7 (by decide) hb_1 hb_2 (fun q_3 => ?_) (fun q_3 => ?_)
  · replace h := h.1 q_3
    refine sh_aload_n (pc := 142) dL_turns_142 rfl rfl ?_
    refine sh_aload_n (pc := 143) dL_turns_143 rfl rfl ?_
    refine sh_aload_n (pc := 144) dL_turns_144 rfl rfl ?_
    refine l_S3i (pc := 145) dL_turns_145 lk_L_31 rfl h (fun v5 J4 h => ?_)
    refine k_istore_n (pc := 148) [some (.inr G), some (.inr L), some (.inr N), some (.inl v5), none, none] dL_turns_148 rfl rfl (by decide) ?_
    refine sh_iload_n (pc := 149) dL_turns_149 rfl rfl ?_
    obtain ⟨hb_6, h⟩ := h
    refine sh_if_lt (pc := 150) (tgt := 206) dL_turns_150 (by decide) hb_6  (fun q_7 => ?_) (fun q_7 => ?_)
    · replace h := h.1 q_7
      refine sh_aload_n (pc := 206) dL_turns_206 rfl rfl ?_
      refine sh_iconst (pc := 207) (v := 0) dL_turns_207 rfl ?_
      refine sh_dup2 (pc := 208) dL_turns_208 ?_
      refine l_ald (pc := 209) dL_turns_209 hN (by decide) ?_
      refine sh_iconst (pc := 210) (v := 1) dL_turns_210 rfl ?_
      refine sh_iadd (pc := 211) dL_turns_211 ?_
      refine l_ast (pc := 212) dL_turns_212 hN (by decide) ?_
      refine sh_iconst (pc := 213) (v := 0) dL_turns_213 rfl ?_
      refine k_istore (pc := 214) [some (.inr G), some (.inr L), some (.inr N), some (.inl v5), some (.inl 0), none] dL_turns_214 rfl (by decide) ?_
      exact sh_O.locals h (sub_some (sub_some (sub_some (sub_none (sub_some (sub_none sub_nil))))))
    · replace h := h.2 q_7
      refine sh_aload_n (pc := 153) dL_turns_153 rfl rfl ?_
      refine sh_bipush (pc := 154) (v := 7) dL_turns_154 (by decide) ?_
      refine sh_iload_n (pc := 156) dL_turns_156 rfl rfl ?_
      refine sh_imul (pc := 157) dL_turns_157 ?_
      refine sh_iconst (pc := 158) (v := 4) dL_turns_158 rfl ?_
      refine sh_iadd (pc := 159) dL_turns_159 ?_
      refine sh_dup2 (pc := 160) dL_turns_160 ?_
      obtain ⟨hi_8, h⟩ := h
      refine l_ald (pc := 161) dL_turns_161 hG hi_8 ?_
      refine sh_iconst (pc := 162) (v := 1) dL_turns_162 rfl ?_
      refine sh_iadd (pc := 163) dL_turns_163 ?_
      refine l_ast (pc := 164) dL_turns_164 hG hi_8 ?_
      refine sh_aload_n (pc := 165) dL_turns_165 rfl rfl ?_
      refine sh_bipush (pc := 166) (v := 7) dL_turns_166 (by decide) ?_
      refine sh_aload_n (pc := 168) dL_turns_168 rfl rfl ?_
      refine sh_iconst (pc := 169) (v := 1) dL_turns_169 rfl ?_
      refine l_ald (pc := 170) dL_turns_170 hN (by decide) ?_
      refine sh_imul (pc := 171) dL_turns_171 ?_
      refine sh_iconst (pc := 172) (v := 5) dL_turns_172 rfl ?_
      refine sh_iadd (pc := 173) dL_turns_173 ?_
      refine sh_dup2 (pc := 174) dL_turns_174 ?_
      obtain ⟨hi_9, h⟩ := h
      refine l_ald (pc := 175) dL_turns_175 hG hi_9 ?_
      refine sh_iconst (pc := 176) (v := 1) dL_turns_176 rfl ?_
      refine sh_iadd (pc := 177) dL_turns_177 ?_
      refine l_ast (pc := 178) dL_turns_178 hG hi_9 ?_
      refine sh_aload_n (pc := 179) dL_turns_179 rfl rfl ?_
      refine sh_bipush (pc := 180) (v := 7) dL_turns_180 (by decide) ?_
      refine sh_aload_n (pc := 182) dL_turns_182 rfl rfl ?_
      refine sh_iconst (pc := 183) (v := 1) dL_turns_183 rfl ?_
      refine l_ald (pc := 184) dL_turns_184 hN (by decide) ?_
      refine sh_imul (pc := 185) dL_turns_185 ?_
      refine sh_iconst (pc := 186) (v := 3) dL_turns_186 rfl ?_
      refine sh_iadd (pc := 187) dL_turns_187 ?_
      refine sh_aload_n (pc := 188) dL_turns_188 rfl rfl ?_
      refine sh_bipush (pc := 189) (v := 6) dL_turns_189 (by decide) ?_
      refine l_ald (pc := 191) dL_turns_191 hN (by decide) ?_
      refine sh_iconst (pc := 192) (v := 1) dL_turns_192 rfl ?_
      refine sh_iadd (pc := 193) dL_turns_193 ?_
      obtain ⟨hi_10, h⟩ := h
      refine l_ast (pc := 194) dL_turns_194 hG hi_10 ?_
      refine sh_aload_n (pc := 195) dL_turns_195 rfl rfl ?_
      refine sh_iconst (pc := 196) (v := 1) dL_turns_196 rfl ?_
      refine sh_iload_n (pc := 197) dL_turns_197 rfl rfl ?_
      refine l_ast (pc := 198) dL_turns_198 hN (by decide) ?_
      refine sh_aload_n (pc := 199) dL_turns_199 rfl rfl ?_
      refine sh_iconst (pc := 200) (v := 2) dL_turns_200 rfl ?_
      refine sh_dup2 (pc := 201) dL_turns_201 ?_
      refine l_ald (pc := 202) dL_turns_202 hN (by decide) ?_
      refine sh_iconst (pc := 203) (v := 1) dL_turns_203 rfl ?_
      refine sh_iadd (pc := 204) dL_turns_204 ?_
      refine l_ast (pc := 205) dL_turns_205 hN (by decide) ?_
      refine sh_aload_n (pc := 206) dL_turns_206 rfl rfl ?_
      refine sh_iconst (pc := 207) (v := 0) dL_turns_207 rfl ?_
      refine sh_dup2 (pc := 208) dL_turns_208 ?_
      refine l_ald (pc := 209) dL_turns_209 hN (by decide) ?_
      refine sh_iconst (pc := 210) (v := 1) dL_turns_210 rfl ?_
      refine sh_iadd (pc := 211) dL_turns_211 ?_
      refine l_ast (pc := 212) dL_turns_212 hN (by decide) ?_
      refine sh_iconst (pc := 213) (v := 0) dL_turns_213 rfl ?_
      refine k_istore (pc := 214) [some (.inr G), some (.inr L), some (.inr N), some (.inl v5), some (.inl 0), none] dL_turns_214 rfl (by decide) ?_
      exact sh_O.locals h (sub_some (sub_some (sub_some (sub_none (sub_some (sub_none sub_nil))))))
  · replace h := h.2 q_3
    refine sh_aload_n (pc := 10) dL_turns_10 rfl rfl ?_
    refine sh_bipush (pc := 11) (v := 7) dL_turns_11 (by decide) ?_
    refine sh_iload_n (pc := 13) dL_turns_13 rfl rfl ?_
    refine sh_imul (pc := 14) dL_turns_14 ?_
    refine sh_iconst (pc := 15) (v := 2) dL_turns_15 rfl ?_
    refine sh_iadd (pc := 16) dL_turns_16 ?_
    obtain ⟨hi_11, h⟩ := h
    refine l_ald (pc := 17) dL_turns_17 hG hi_11 ?_
    refine sh_iconst (pc := 18) (v := 4) dL_turns_18 rfl ?_
    obtain ⟨ho_12, h⟩ := h
    refine l_icmp_ne (pc := 19) (tgt := 27) dL_turns_19 (by decide) ho_12 (fun q_13 => ?_) (fun q_13 => ?_)
    · replace h := h.1 q_13
      refine sh_aload_n (pc := 27) dL_turns_27 rfl rfl ?_
      refine sh_bipush (pc := 28) (v := 7) dL_turns_28 (by decide) ?_
      refine sh_iload_n (pc := 30) dL_turns_30 rfl rfl ?_
      refine sh_imul (pc := 31) dL_turns_31 ?_
      obtain ⟨hi_14, h⟩ := h
      refine l_ald (pc := 32) dL_turns_32 hG hi_14 ?_
      refine sh_aload_n (pc := 33) dL_turns_33 rfl rfl ?_
      refine sh_bipush (pc := 34) (v := 7) dL_turns_34 (by decide) ?_
      refine sh_iload_n (pc := 36) dL_turns_36 rfl rfl ?_
      refine sh_imul (pc := 37) dL_turns_37 ?_
      refine sh_iconst (pc := 38) (v := 2) dL_turns_38 rfl ?_
      refine sh_iadd (pc := 39) dL_turns_39 ?_
      refine l_ald (pc := 40) dL_turns_40 hG hi_11 ?_
      refine l_S2i (pc := 41) dL_turns_41 lk_L_23 rfl h (fun v16 J15 h => ?_)
      refine k_istore (pc := 44) [some (.inr G), some (.inr L), some (.inr N), some (.inl y3), some (.inl v16), none] dL_turns_44 rfl (by decide) ?_
      refine sh_iload (pc := 46) dL_turns_46 rfl ?_
      obtain ⟨hb_17, h⟩ := h
      refine sh_if_lt (pc := 48) (tgt := 67) dL_turns_48 (by decide) hb_17  (fun q_18 => ?_) (fun q_18 => ?_)
      · replace h := h.1 q_18
        exact sh_O.locals h (sub_some (sub_some (sub_some (sub_some (sub_some (sub_none sub_nil))))))
      · replace h := h.2 q_18
        refine sh_aload_n (pc := 51) dL_turns_51 rfl rfl ?_
        refine sh_aload_n (pc := 52) dL_turns_52 rfl rfl ?_
        refine sh_iload (pc := 53) dL_turns_53 rfl ?_
        refine l_S3i (pc := 55) dL_turns_55 lk_L_27 rfl h (fun v20 J19 h => ?_)
        refine sh_bipush (pc := 58) (v := (-5)) dL_turns_58 (by decide) ?_
        obtain ⟨ho_21, h⟩ := h
        refine l_icmp_ne (pc := 60) (tgt := 67) dL_turns_60 (by decide) ho_21 (fun q_22 => ?_) (fun q_22 => ?_)
        · replace h := h.1 q_22
          exact sh_O.locals h (sub_some (sub_some (sub_some (sub_some (sub_some (sub_none sub_nil))))))
        · replace h := h.2 q_22
          refine sh_iconst (pc := 63) (v := 1) dL_turns_63 rfl ?_
          refine sh_goto (pc := 64) (tgt := 68) dL_turns_64 (by decide) ?_
          exact sh_O.locals h (sub_some (sub_some (sub_some (sub_some (sub_some (sub_none sub_nil))))))
    · replace h := h.2 q_13
      refine sh_bipush (pc := 22) (v := (-5)) dL_turns_22 (by decide) ?_
      refine sh_goto (pc := 24) (tgt := 44) dL_turns_24 (by decide) ?_
      refine k_istore (pc := 44) [some (.inr G), some (.inr L), some (.inr N), some (.inl y3), some (.inl (-5)), none] dL_turns_44 rfl (by decide) ?_
      refine sh_iload (pc := 46) dL_turns_46 rfl ?_
      refine sh_if_lt (pc := 48) (tgt := 67) dL_turns_48 (by decide) (bd_lit (by decide))  (fun q_23 => ?_) (fun q_23 => ?_)
      · skip
        exact sh_O.locals h (sub_some (sub_some (sub_some (sub_some (sub_some (sub_none sub_nil))))))
      · exact absurd q_23 (by decide)
set_option maxRecDepth 100000 in
set_option maxHeartbeats 4000000 in
theorem lL_turns_216 {c : sh_Cx} (hx : cx c) {G : Nat} (hG : dy c G 42) {L : Nat} (hL : dy c L 12) {N : Nat} (hN : dy c N 9) {y4 : Int} {I : sh_Mem} {Q : sh_Mem → Prop} (h : (sh_Bd y4 ∧ (sh_Bd (I N 8) ∧ (((I N 8) ≤ y4 → kl c (0, 0) mL_turns 289 [some (.inr G), some (.inr L), some (.inr N), none, some (.inl 0), none] [] I (qlv c Q)) ∧ (y4 < (I N 8) → ((0 ≤ ((7 * y4) + 3) ∧ ((7 * y4) + 3) < (42 : Int)) ∧ (sh_Bd (I G ((7 * y4) + 3)) ∧ (((I G ((7 * y4) + 3)) ≤ 0 → ((0 ≤ ((7 * y4) + 6) ∧ ((7 * y4) + 6) < (42 : Int)) ∧ ((y4 = ((sh_u I G ((7 * y4) + 3) ((I G ((7 * y4) + 3)) - 0)) N 1) ∨ (sh_Bd y4 ∧ sh_Bd ((sh_u I G ((7 * y4) + 3) ((I G ((7 * y4) + 3)) - 0)) N 1))) ∧ ((¬ y4 = ((sh_u I G ((7 * y4) + 3) ((I G ((7 * y4) + 3)) - 0)) N 1) → kl c (0, 0) mL_turns 216 [some (.inr G), some (.inr L), some (.inr N), none, some (.inl (y4 + 1)), none] [] (sh_u (sh_u I G ((7 * y4) + 3) ((I G ((7 * y4) + 3)) - 0)) G ((7 * y4) + 6) (((sh_u I G ((7 * y4) + 3) ((I G ((7 * y4) + 3)) - 0)) G ((7 * y4) + 6)) + 1)) (qlv c Q)) ∧ (y4 = ((sh_u I G ((7 * y4) + 3) ((I G ((7 * y4) + 3)) - 0)) N 1) → kl c (0, 0) mL_turns 216 [some (.inr G), some (.inr L), some (.inr N), none, some (.inl (y4 + 1)), none] [] (sh_u (sh_u I G ((7 * y4) + 3) ((I G ((7 * y4) + 3)) - 0)) G ((7 * y4) + 6) (((sh_u I G ((7 * y4) + 3) ((I G ((7 * y4) + 3)) - 0)) G ((7 * y4) + 6)) + 0)) (qlv c Q)))))) ∧ (0 < (I G ((7 * y4) + 3)) → ((0 ≤ ((7 * y4) + 6) ∧ ((7 * y4) + 6) < (42 : Int)) ∧ ((y4 = ((sh_u I G ((7 * y4) + 3) ((I G ((7 * y4) + 3)) - 1)) N 1) ∨ (sh_Bd y4 ∧ sh_Bd ((sh_u I G ((7 * y4) + 3) ((I G ((7 * y4) + 3)) - 1)) N 1))) ∧ ((¬ y4 = ((sh_u I G ((7 * y4) + 3) ((I G ((7 * y4) + 3)) - 1)) N 1) → kl c (0, 0) mL_turns 216 [some (.inr G), some (.inr L), some (.inr N), none, some (.inl (y4 + 1)), none] [] (sh_u (sh_u I G ((7 * y4) + 3) ((I G ((7 * y4) + 3)) - 1)) G ((7 * y4) + 6) (((sh_u I G ((7 * y4) + 3) ((I G ((7 * y4) + 3)) - 1)) G ((7 * y4) + 6)) + 1)) (qlv c Q)) ∧ (y4 = ((sh_u I G ((7 * y4) + 3) ((I G ((7 * y4) + 3)) - 1)) N 1) → kl c (0, 0) mL_turns 216 [some (.inr G), some (.inr L), some (.inr N), none, some (.inl (y4 + 1)), none] [] (sh_u (sh_u I G ((7 * y4) + 3) ((I G ((7 * y4) + 3)) - 1)) G ((7 * y4) + 6) (((sh_u I G ((7 * y4) + 3) ((I G ((7 * y4) + 3)) - 1)) G ((7 * y4) + 6)) + 0)) (qlv c Q)))))))))))))) : kl c (0, 0) mL_turns 216 [some (.inr G), some (.inr L), some (.inr N), none, some (.inl y4), none] [] I (qlv c Q) := by
  refine sh_iload (pc := 216) dL_turns_216 rfl ?_
  refine sh_aload_n (pc := 218) dL_turns_218 rfl rfl ?_
  refine sh_bipush (pc := 219) (v := 8) dL_turns_219 (by decide) ?_
  refine l_ald (pc := 221) dL_turns_221 hN (by decide) ?_
  obtain ⟨hb_1, h⟩ := h
  obtain ⟨hb_2, h⟩ := h
  refine sh_icmp_ge (pc := 222) (tgt := 286) dL_turns_222 (by decide) hb_1 hb_2 (fun q_3 => ?_) (fun q_3 => ?_)
  · replace h := h.1 q_3
    refine sh_iconst (pc := 286) (v := 0) dL_turns_286 rfl ?_
    refine k_istore (pc := 287) [some (.inr G), some (.inr L), some (.inr N), none, some (.inl 0), none] dL_turns_287 rfl (by decide) ?_
    exact sh_O.locals h (sub_some (sub_some (sub_some (sub_none (sub_some (sub_none sub_nil))))))
  · replace h := h.2 q_3
    refine sh_aload_n (pc := 225) dL_turns_225 rfl rfl ?_
    refine sh_bipush (pc := 226) (v := 7) dL_turns_226 (by decide) ?_
    refine sh_iload (pc := 228) dL_turns_228 rfl ?_
    refine sh_imul (pc := 230) dL_turns_230 ?_
    refine sh_iconst (pc := 231) (v := 3) dL_turns_231 rfl ?_
    refine sh_iadd (pc := 232) dL_turns_232 ?_
    refine sh_dup2 (pc := 233) dL_turns_233 ?_
    obtain ⟨hi_4, h⟩ := h
    refine l_ald (pc := 234) dL_turns_234 hG hi_4 ?_
    refine sh_aload_n (pc := 235) dL_turns_235 rfl rfl ?_
    refine sh_bipush (pc := 236) (v := 7) dL_turns_236 (by decide) ?_
    refine sh_iload (pc := 238) dL_turns_238 rfl ?_
    refine sh_imul (pc := 240) dL_turns_240 ?_
    refine sh_iconst (pc := 241) (v := 3) dL_turns_241 rfl ?_
    refine sh_iadd (pc := 242) dL_turns_242 ?_
    refine l_ald (pc := 243) dL_turns_243 hG hi_4 ?_
    obtain ⟨hb_5, h⟩ := h
    refine sh_if_le (pc := 244) (tgt := 251) dL_turns_244 (by decide) hb_5  (fun q_6 => ?_) (fun q_6 => ?_)
    · replace h := h.1 q_6
      refine sh_iconst (pc := 251) (v := 0) dL_turns_251 rfl ?_
      refine sh_isub (pc := 252) dL_turns_252 ?_
      refine l_ast (pc := 253) dL_turns_253 hG hi_4 ?_
      refine sh_aload_n (pc := 254) dL_turns_254 rfl rfl ?_
      refine sh_bipush (pc := 255) (v := 7) dL_turns_255 (by decide) ?_
      refine sh_iload (pc := 257) dL_turns_257 rfl ?_
      refine sh_imul (pc := 259) dL_turns_259 ?_
      refine sh_bipush (pc := 260) (v := 6) dL_turns_260 (by decide) ?_
      refine sh_iadd (pc := 262) dL_turns_262 ?_
      refine sh_dup2 (pc := 263) dL_turns_263 ?_
      obtain ⟨hi_7, h⟩ := h
      refine l_ald (pc := 264) dL_turns_264 hG hi_7 ?_
      refine sh_iload (pc := 265) dL_turns_265 rfl ?_
      refine sh_aload_n (pc := 267) dL_turns_267 rfl rfl ?_
      refine sh_iconst (pc := 268) (v := 1) dL_turns_268 rfl ?_
      refine l_ald (pc := 269) dL_turns_269 hN (by decide) ?_
      obtain ⟨ho_8, h⟩ := h
      refine l_icmp_ne (pc := 270) (tgt := 277) dL_turns_270 (by decide) ho_8 (fun q_9 => ?_) (fun q_9 => ?_)
      · replace h := h.1 q_9
        refine sh_iconst (pc := 277) (v := 1) dL_turns_277 rfl ?_
        refine sh_iadd (pc := 278) dL_turns_278 ?_
        refine l_ast (pc := 279) dL_turns_279 hG hi_7 ?_
        refine k_iinc (pc := 280) [some (.inr G), some (.inr L), some (.inr N), none, some (.inl (y4 + 1)), none] dL_turns_280 rfl rfl (by decide) ?_
        refine sh_goto (pc := 283) (tgt := 216) dL_turns_283 (by decide) ?_
        exact sh_O.locals h (sub_some (sub_some (sub_some (sub_none (sub_some (sub_none sub_nil))))))
      · replace h := h.2 q_9
        refine sh_iconst (pc := 273) (v := 0) dL_turns_273 rfl ?_
        refine sh_goto (pc := 274) (tgt := 278) dL_turns_274 (by decide) ?_
        refine sh_iadd (pc := 278) dL_turns_278 ?_
        refine l_ast (pc := 279) dL_turns_279 hG hi_7 ?_
        refine k_iinc (pc := 280) [some (.inr G), some (.inr L), some (.inr N), none, some (.inl (y4 + 1)), none] dL_turns_280 rfl rfl (by decide) ?_
        refine sh_goto (pc := 283) (tgt := 216) dL_turns_283 (by decide) ?_
        exact sh_O.locals h (sub_some (sub_some (sub_some (sub_none (sub_some (sub_none sub_nil))))))
    · replace h := h.2 q_6
      refine sh_iconst (pc := 247) (v := 1) dL_turns_247 rfl ?_
      refine sh_goto (pc := 248) (tgt := 252) dL_turns_248 (by decide) ?_
      refine sh_isub (pc := 252) dL_turns_252 ?_
      refine l_ast (pc := 253) dL_turns_253 hG hi_4 ?_
      refine sh_aload_n (pc := 254) dL_turns_254 rfl rfl ?_
      refine sh_bipush (pc := 255) (v := 7) dL_turns_255 (by decide) ?_
      refine sh_iload (pc := 257) dL_turns_257 rfl ?_
      refine sh_imul (pc := 259) dL_turns_259 ?_
      refine sh_bipush (pc := 260) (v := 6) dL_turns_260 (by decide) ?_
      refine sh_iadd (pc := 262) dL_turns_262 ?_
      refine sh_dup2 (pc := 263) dL_turns_263 ?_
      obtain ⟨hi_10, h⟩ := h
      refine l_ald (pc := 264) dL_turns_264 hG hi_10 ?_
      refine sh_iload (pc := 265) dL_turns_265 rfl ?_
      refine sh_aload_n (pc := 267) dL_turns_267 rfl rfl ?_
      refine sh_iconst (pc := 268) (v := 1) dL_turns_268 rfl ?_
      refine l_ald (pc := 269) dL_turns_269 hN (by decide) ?_
      obtain ⟨ho_11, h⟩ := h
      refine l_icmp_ne (pc := 270) (tgt := 277) dL_turns_270 (by decide) ho_11 (fun q_12 => ?_) (fun q_12 => ?_)
      · replace h := h.1 q_12
        refine sh_iconst (pc := 277) (v := 1) dL_turns_277 rfl ?_
        refine sh_iadd (pc := 278) dL_turns_278 ?_
        refine l_ast (pc := 279) dL_turns_279 hG hi_10 ?_
        refine k_iinc (pc := 280) [some (.inr G), some (.inr L), some (.inr N), none, some (.inl (y4 + 1)), none] dL_turns_280 rfl rfl (by decide) ?_
        refine sh_goto (pc := 283) (tgt := 216) dL_turns_283 (by decide) ?_
        exact sh_O.locals h (sub_some (sub_some (sub_some (sub_none (sub_some (sub_none sub_nil))))))
      · replace h := h.2 q_12
        refine sh_iconst (pc := 273) (v := 0) dL_turns_273 rfl ?_
        refine sh_goto (pc := 274) (tgt := 278) dL_turns_274 (by decide) ?_
        refine sh_iadd (pc := 278) dL_turns_278 ?_
        refine l_ast (pc := 279) dL_turns_279 hG hi_10 ?_
        refine k_iinc (pc := 280) [some (.inr G), some (.inr L), some (.inr N), none, some (.inl (y4 + 1)), none] dL_turns_280 rfl rfl (by decide) ?_
        refine sh_goto (pc := 283) (tgt := 216) dL_turns_283 (by decide) ?_
        exact sh_O.locals h (sub_some (sub_some (sub_some (sub_none (sub_some (sub_none sub_nil))))))
set_option maxRecDepth 100000 in
set_option maxHeartbeats 4000000 in
theorem lL_turns_67 {c : sh_Cx} (hx : cx c) {G : Nat} (hG : dy c G 42) {L : Nat} (hL : dy c L 12) {N : Nat} (hN : dy c N 9) {y3 : Int} {y4 : Int} {I : sh_Mem} {Q : sh_Mem → Prop} (h : kl c (0, 0) mL_turns 68 [some (.inr G), some (.inr L), some (.inr N), some (.inl y3), some (.inl y4), none] [.inl 0] I (qlv c Q)) : kl c (0, 0) mL_turns 67 [some (.inr G), some (.inr L), some (.inr N), some (.inl y3), some (.inl y4), none] [] I (qlv c Q) := by
  refine sh_iconst (pc := 67) (v := 0) dL_turns_67 rfl ?_
  exact sh_O.locals h (sub_some (sub_some (sub_some (sub_some (sub_some (sub_none sub_nil))))))
set_option maxRecDepth 100000 in
set_option maxHeartbeats 4000000 in
theorem lL_turns_68 {c : sh_Cx} (hx : cx c) {G : Nat} (hG : dy c G 42) {L : Nat} (hL : dy c L 12) {N : Nat} (hN : dy c N 9) {y3 : Int} {y4 : Int} {z0 : Int} {I : sh_Mem} {Q : sh_Mem → Prop} (h : (sh_Bd z0 ∧ ((z0 = 0 → ((¬ z0 = 0 → kl c (0, 0) mL_turns 107 [some (.inr G), some (.inr L), some (.inr N), some (.inl y3), some (.inl y4), some (.inl z0)] [.inl ((sh_u I N 3 ((I N 3) + 0)) N 4), .inl 4, .inr N] (sh_u I N 3 ((I N 3) + 0)) (qlv c Q)) ∧ (z0 = 0 → ((0 ≤ ((7 * y3) + 2) ∧ ((7 * y3) + 2) < (42 : Int)) ∧ ((((sh_u I N 3 ((I N 3) + 0)) G ((7 * y3) + 2)) = 4 ∨ (sh_Bd ((sh_u I N 3 ((I N 3) + 0)) G ((7 * y3) + 2)) ∧ sh_Bd 4)) ∧ ((¬ ((sh_u I N 3 ((I N 3) + 0)) G ((7 * y3) + 2)) = 4 → kl c (0, 0) mL_turns 112 [some (.inr G), some (.inr L), some (.inr N), some (.inl y3), some (.inl y4), some (.inl z0)] [.inl 1, .inl ((sh_u I N 3 ((I N 3) + 0)) N 4), .inl 4, .inr N] (sh_u I N 3 ((I N 3) + 0)) (qlv c Q)) ∧ (((sh_u I N 3 ((I N 3) + 0)) G ((7 * y3) + 2)) = 4 → kl c (0, 0) mL_turns 107 [some (.inr G), some (.inr L), some (.inr N), some (.inl y3), some (.inl y4), some (.inl z0)] [.inl ((sh_u I N 3 ((I N 3) + 0)) N 4), .inl 4, .inr N] (sh_u I N 3 ((I N 3) + 0)) (qlv c Q)))))))) ∧ (¬ z0 = 0 → ((¬ z0 = 0 → kl c (0, 0) mL_turns 107 [some (.inr G), some (.inr L), some (.inr N), some (.inl y3), some (.inl y4), some (.inl z0)] [.inl ((sh_u I N 3 ((I N 3) + 1)) N 4), .inl 4, .inr N] (sh_u I N 3 ((I N 3) + 1)) (qlv c Q)) ∧ (z0 = 0 → ((0 ≤ ((7 * y3) + 2) ∧ ((7 * y3) + 2) < (42 : Int)) ∧ ((((sh_u I N 3 ((I N 3) + 1)) G ((7 * y3) + 2)) = 4 ∨ (sh_Bd ((sh_u I N 3 ((I N 3) + 1)) G ((7 * y3) + 2)) ∧ sh_Bd 4)) ∧ ((¬ ((sh_u I N 3 ((I N 3) + 1)) G ((7 * y3) + 2)) = 4 → kl c (0, 0) mL_turns 112 [some (.inr G), some (.inr L), some (.inr N), some (.inl y3), some (.inl y4), some (.inl z0)] [.inl 1, .inl ((sh_u I N 3 ((I N 3) + 1)) N 4), .inl 4, .inr N] (sh_u I N 3 ((I N 3) + 1)) (qlv c Q)) ∧ (((sh_u I N 3 ((I N 3) + 1)) G ((7 * y3) + 2)) = 4 → kl c (0, 0) mL_turns 107 [some (.inr G), some (.inr L), some (.inr N), some (.inl y3), some (.inl y4), some (.inl z0)] [.inl ((sh_u I N 3 ((I N 3) + 1)) N 4), .inl 4, .inr N] (sh_u I N 3 ((I N 3) + 1)) (qlv c Q))))))))))) : kl c (0, 0) mL_turns 68 [some (.inr G), some (.inr L), some (.inr N), some (.inl y3), some (.inl y4), none] [.inl z0] I (qlv c Q) := by
  refine k_istore (pc := 68) [some (.inr G), some (.inr L), some (.inr N), some (.inl y3), some (.inl y4), some (.inl z0)] dL_turns_68 rfl (by decide) ?_
  refine sh_aload_n (pc := 70) dL_turns_70 rfl rfl ?_
  refine sh_iconst (pc := 71) (v := 3) dL_turns_71 rfl ?_
  refine sh_dup2 (pc := 72) dL_turns_72 ?_
  refine l_ald (pc := 73) dL_turns_73 hN (by decide) ?_
  refine sh_iload (pc := 74) dL_turns_74 rfl ?_
  obtain ⟨hb_1, h⟩ := h
  refine sh_if_eq (pc := 76) (tgt := 83) dL_turns_76 (by decide) hb_1  (fun q_2 => ?_) (fun q_2 => ?_)
  · replace h := h.1 q_2
    refine sh_iconst (pc := 83) (v := 0) dL_turns_83 rfl ?_
    refine sh_iadd (pc := 84) dL_turns_84 ?_
    refine l_ast (pc := 85) dL_turns_85 hN (by decide) ?_
    refine sh_aload_n (pc := 86) dL_turns_86 rfl rfl ?_
    refine sh_iconst (pc := 87) (v := 4) dL_turns_87 rfl ?_
    refine sh_dup2 (pc := 88) dL_turns_88 ?_
    refine l_ald (pc := 89) dL_turns_89 hN (by decide) ?_
    refine sh_iload (pc := 90) dL_turns_90 rfl ?_
    refine sh_if_ne (pc := 92) (tgt := 107) dL_turns_92 (by decide) hb_1  (fun q_3 => ?_) (fun q_3 => ?_)
    · replace h := h.1 q_3
      exact sh_O.locals h (sub_some (sub_some (sub_some (sub_some (sub_some (sub_some sub_nil))))))
    · replace h := h.2 q_3
      refine sh_aload_n (pc := 95) dL_turns_95 rfl rfl ?_
      refine sh_bipush (pc := 96) (v := 7) dL_turns_96 (by decide) ?_
      refine sh_iload_n (pc := 98) dL_turns_98 rfl rfl ?_
      refine sh_imul (pc := 99) dL_turns_99 ?_
      refine sh_iconst (pc := 100) (v := 2) dL_turns_100 rfl ?_
      refine sh_iadd (pc := 101) dL_turns_101 ?_
      obtain ⟨hi_4, h⟩ := h
      refine l_ald (pc := 102) dL_turns_102 hG hi_4 ?_
      refine sh_iconst (pc := 103) (v := 4) dL_turns_103 rfl ?_
      obtain ⟨ho_5, h⟩ := h
      refine l_icmp_ne (pc := 104) (tgt := 111) dL_turns_104 (by decide) ho_5 (fun q_6 => ?_) (fun q_6 => ?_)
      · replace h := h.1 q_6
        refine sh_iconst (pc := 111) (v := 1) dL_turns_111 rfl ?_
        exact sh_O.locals h (sub_some (sub_some (sub_some (sub_some (sub_some (sub_some sub_nil))))))
      · replace h := h.2 q_6
        exact sh_O.locals h (sub_some (sub_some (sub_some (sub_some (sub_some (sub_some sub_nil))))))
  · replace h := h.2 q_2
    refine sh_iconst (pc := 79) (v := 1) dL_turns_79 rfl ?_
    refine sh_goto (pc := 80) (tgt := 84) dL_turns_80 (by decide) ?_
    refine sh_iadd (pc := 84) dL_turns_84 ?_
    refine l_ast (pc := 85) dL_turns_85 hN (by decide) ?_
    refine sh_aload_n (pc := 86) dL_turns_86 rfl rfl ?_
    refine sh_iconst (pc := 87) (v := 4) dL_turns_87 rfl ?_
    refine sh_dup2 (pc := 88) dL_turns_88 ?_
    refine l_ald (pc := 89) dL_turns_89 hN (by decide) ?_
    refine sh_iload (pc := 90) dL_turns_90 rfl ?_
    refine sh_if_ne (pc := 92) (tgt := 107) dL_turns_92 (by decide) hb_1  (fun q_7 => ?_) (fun q_7 => ?_)
    · replace h := h.1 q_7
      exact sh_O.locals h (sub_some (sub_some (sub_some (sub_some (sub_some (sub_some sub_nil))))))
    · replace h := h.2 q_7
      refine sh_aload_n (pc := 95) dL_turns_95 rfl rfl ?_
      refine sh_bipush (pc := 96) (v := 7) dL_turns_96 (by decide) ?_
      refine sh_iload_n (pc := 98) dL_turns_98 rfl rfl ?_
      refine sh_imul (pc := 99) dL_turns_99 ?_
      refine sh_iconst (pc := 100) (v := 2) dL_turns_100 rfl ?_
      refine sh_iadd (pc := 101) dL_turns_101 ?_
      obtain ⟨hi_8, h⟩ := h
      refine l_ald (pc := 102) dL_turns_102 hG hi_8 ?_
      refine sh_iconst (pc := 103) (v := 4) dL_turns_103 rfl ?_
      obtain ⟨ho_9, h⟩ := h
      refine l_icmp_ne (pc := 104) (tgt := 111) dL_turns_104 (by decide) ho_9 (fun q_10 => ?_) (fun q_10 => ?_)
      · replace h := h.1 q_10
        refine sh_iconst (pc := 111) (v := 1) dL_turns_111 rfl ?_
        exact sh_O.locals h (sub_some (sub_some (sub_some (sub_some (sub_some (sub_some sub_nil))))))
      · replace h := h.2 q_10
        exact sh_O.locals h (sub_some (sub_some (sub_some (sub_some (sub_some (sub_some sub_nil))))))
set_option maxRecDepth 100000 in
set_option maxHeartbeats 4000000 in
theorem lL_turns_289 {c : sh_Cx} (hx : cx c) {G : Nat} (hG : dy c G 42) {L : Nat} (hL : dy c L 12) {N : Nat} (hN : dy c N 9) {y4 : Int} {I : sh_Mem} {Q : sh_Mem → Prop} (h : (sh_Bd y4 ∧ ((12 ≤ y4 → (sh_Bd (I N 7) ∧ (((I N 7) ≤ 0 → Q I) ∧ (0 < (I N 7) → ((0 ≤ (I N 0) ∧ (I N 0) < 2147483648) ∧ ((0 < (I N 7) ∧ (I N 7) < 2147483648) ∧ (sh_Bd ((I N 0) % (I N 7)) ∧ ((¬ ((I N 0) % (I N 7)) = 0 → Q I) ∧ (((I N 0) % (I N 7)) = 0 → kl c (0, 0) mL_turns 364 [some (.inr G), none, some (.inr N), none, some (.inl 0), none] [] I (qlv c Q)))))))))) ∧ (y4 < 12 → ((0 ≤ (y4 + 2) ∧ (y4 + 2) < (12 : Int)) ∧ (sh_Bd (I L (y4 + 2)) ∧ (((I L (y4 + 2)) ≤ 0 → ((0 ≤ y4 ∧ y4 < (12 : Int)) ∧ kl c (0, 0) mL_turns 289 [some (.inr G), some (.inr L), some (.inr N), none, some (.inl (y4 + 4)), none] [] (sh_u I L y4 (I L y4)) (qlv c Q))) ∧ (0 < (I L (y4 + 2)) → ((0 ≤ (I N 0) ∧ (I N 0) < 2147483648) ∧ ((0 < (I L (y4 + 2)) ∧ (I L (y4 + 2)) < 2147483648) ∧ (sh_Bd ((I N 0) % (I L (y4 + 2))) ∧ ((¬ ((I N 0) % (I L (y4 + 2))) = 0 → ((0 ≤ y4 ∧ y4 < (12 : Int)) ∧ kl c (0, 0) mL_turns 289 [some (.inr G), some (.inr L), some (.inr N), none, some (.inl (y4 + 4)), none] [] (sh_u I L y4 (I L y4)) (qlv c Q))) ∧ (((I N 0) % (I L (y4 + 2))) = 0 → ((0 ≤ y4 ∧ y4 < (12 : Int)) ∧ ((0 ≤ ((I L y4) + 1) ∧ ((I L y4) + 1) < 2147483648) ∧ kl c (0, 0) mL_turns 289 [some (.inr G), some (.inr L), some (.inr N), none, some (.inl (y4 + 4)), none] [] (sh_u I L y4 (((I L y4) + 1) % 4)) (qlv c Q)))))))))))))))) : kl c (0, 0) mL_turns 289 [some (.inr G), some (.inr L), some (.inr N), none, some (.inl y4), none] [] I (qlv c Q) := by
  refine sh_iload (pc := 289) dL_turns_289 rfl ?_
  refine sh_bipush (pc := 291) (v := 12) dL_turns_291 (by decide) ?_
  obtain ⟨hb_1, h⟩ := h
  refine sh_icmp_ge (pc := 293) (tgt := 343) dL_turns_293 (by decide) hb_1 (bd_lit (by decide)) (fun q_2 => ?_) (fun q_2 => ?_)
  · replace h := h.1 q_2
    refine sh_aload_n (pc := 343) dL_turns_343 rfl rfl ?_
    refine sh_bipush (pc := 344) (v := 7) dL_turns_344 (by decide) ?_
    refine l_ald (pc := 346) dL_turns_346 hN (by decide) ?_
    obtain ⟨hb_3, h⟩ := h
    refine sh_if_le (pc := 347) (tgt := 459) dL_turns_347 (by decide) hb_3  (fun q_4 => ?_) (fun q_4 => ?_)
    · replace h := h.1 q_4
      exact l_vret ext.rf dL_turns_459 rfl h
    · replace h := h.2 q_4
      refine sh_aload_n (pc := 350) dL_turns_350 rfl rfl ?_
      refine sh_iconst (pc := 351) (v := 0) dL_turns_351 rfl ?_
      refine l_ald (pc := 352) dL_turns_352 hN (by decide) ?_
      refine sh_aload_n (pc := 353) dL_turns_353 rfl rfl ?_
      refine sh_bipush (pc := 354) (v := 7) dL_turns_354 (by decide) ?_
      refine l_ald (pc := 356) dL_turns_356 hN (by decide) ?_
      obtain ⟨hn_5, h⟩ := h
      obtain ⟨hp_6, h⟩ := h
      refine sh_irem (pc := 357) dL_turns_357 hn_5.1 hn_5.2 hp_6.1 hp_6.2 ?_
      obtain ⟨hb_7, h⟩ := h
      refine sh_if_ne (pc := 358) (tgt := 459) dL_turns_358 (by decide) hb_7  (fun q_8 => ?_) (fun q_8 => ?_)
      · replace h := h.1 q_8
        exact l_vret ext.rf dL_turns_459 rfl h
      · replace h := h.2 q_8
        refine sh_iconst (pc := 361) (v := 0) dL_turns_361 rfl ?_
        refine k_istore (pc := 362) [some (.inr G), some (.inr L), some (.inr N), none, some (.inl 0), none] dL_turns_362 rfl (by decide) ?_
        exact sh_O.locals h (sub_some (sub_none (sub_some (sub_none (sub_some (sub_none sub_nil))))))
  · replace h := h.2 q_2
    refine sh_aload_n (pc := 296) dL_turns_296 rfl rfl ?_
    refine sh_iload (pc := 297) dL_turns_297 rfl ?_
    refine sh_aload_n (pc := 299) dL_turns_299 rfl rfl ?_
    refine sh_iload (pc := 300) dL_turns_300 rfl ?_
    refine sh_iconst (pc := 302) (v := 2) dL_turns_302 rfl ?_
    refine sh_iadd (pc := 303) dL_turns_303 ?_
    obtain ⟨hi_9, h⟩ := h
    refine l_ald (pc := 304) dL_turns_304 hL hi_9 ?_
    obtain ⟨hb_10, h⟩ := h
    refine sh_if_le (pc := 305) (tgt := 332) dL_turns_305 (by decide) hb_10  (fun q_11 => ?_) (fun q_11 => ?_)
    · replace h := h.1 q_11
      refine sh_aload_n (pc := 332) dL_turns_332 rfl rfl ?_
      refine sh_iload (pc := 333) dL_turns_333 rfl ?_
      obtain ⟨hi_12, h⟩ := h
      refine l_ald (pc := 335) dL_turns_335 hL hi_12 ?_
      refine l_ast (pc := 336) dL_turns_336 hL hi_12 ?_
      refine k_iinc (pc := 337) [some (.inr G), some (.inr L), some (.inr N), none, some (.inl (y4 + 4)), none] dL_turns_337 rfl rfl (by decide) ?_
      refine sh_goto (pc := 340) (tgt := 289) dL_turns_340 (by decide) ?_
      exact sh_O.locals h (sub_some (sub_some (sub_some (sub_none (sub_some (sub_none sub_nil))))))
    · replace h := h.2 q_11
      refine sh_aload_n (pc := 308) dL_turns_308 rfl rfl ?_
      refine sh_iconst (pc := 309) (v := 0) dL_turns_309 rfl ?_
      refine l_ald (pc := 310) dL_turns_310 hN (by decide) ?_
      refine sh_aload_n (pc := 311) dL_turns_311 rfl rfl ?_
      refine sh_iload (pc := 312) dL_turns_312 rfl ?_
      refine sh_iconst (pc := 314) (v := 2) dL_turns_314 rfl ?_
      refine sh_iadd (pc := 315) dL_turns_315 ?_
      refine l_ald (pc := 316) dL_turns_316 hL hi_9 ?_
      obtain ⟨hn_13, h⟩ := h
      obtain ⟨hp_14, h⟩ := h
      refine sh_irem (pc := 317) dL_turns_317 hn_13.1 hn_13.2 hp_14.1 hp_14.2 ?_
      obtain ⟨hb_15, h⟩ := h
      refine sh_if_ne (pc := 318) (tgt := 332) dL_turns_318 (by decide) hb_15  (fun q_16 => ?_) (fun q_16 => ?_)
      · replace h := h.1 q_16
        refine sh_aload_n (pc := 332) dL_turns_332 rfl rfl ?_
        refine sh_iload (pc := 333) dL_turns_333 rfl ?_
        obtain ⟨hi_17, h⟩ := h
        refine l_ald (pc := 335) dL_turns_335 hL hi_17 ?_
        refine l_ast (pc := 336) dL_turns_336 hL hi_17 ?_
        refine k_iinc (pc := 337) [some (.inr G), some (.inr L), some (.inr N), none, some (.inl (y4 + 4)), none] dL_turns_337 rfl rfl (by decide) ?_
        refine sh_goto (pc := 340) (tgt := 289) dL_turns_340 (by decide) ?_
        exact sh_O.locals h (sub_some (sub_some (sub_some (sub_none (sub_some (sub_none sub_nil))))))
      · replace h := h.2 q_16
        refine sh_aload_n (pc := 321) dL_turns_321 rfl rfl ?_
        refine sh_iload (pc := 322) dL_turns_322 rfl ?_
        obtain ⟨hi_18, h⟩ := h
        refine l_ald (pc := 324) dL_turns_324 hL hi_18 ?_
        refine sh_iconst (pc := 325) (v := 1) dL_turns_325 rfl ?_
        refine sh_iadd (pc := 326) dL_turns_326 ?_
        refine sh_iconst (pc := 327) (v := 4) dL_turns_327 rfl ?_
        obtain ⟨hn_19, h⟩ := h
        refine sh_irem (pc := 328) dL_turns_328 hn_19.1 hn_19.2 (by decide) (by decide) ?_
        refine sh_goto (pc := 329) (tgt := 336) dL_turns_329 (by decide) ?_
        refine l_ast (pc := 336) dL_turns_336 hL hi_18 ?_
        refine k_iinc (pc := 337) [some (.inr G), some (.inr L), some (.inr N), none, some (.inl (y4 + 4)), none] dL_turns_337 rfl rfl (by decide) ?_
        refine sh_goto (pc := 340) (tgt := 289) dL_turns_340 (by decide) ?_
        exact sh_O.locals h (sub_some (sub_some (sub_some (sub_none (sub_some (sub_none sub_nil))))))
set_option maxRecDepth 100000 in
set_option maxHeartbeats 4000000 in
theorem lL_turns_107 {c : sh_Cx} (hx : cx c) {G : Nat} (hG : dy c G 42) {L : Nat} (hL : dy c L 12) {N : Nat} (hN : dy c N 9) {y3 : Int} {y4 : Int} {y5 : Int} {z1 : Int} {z2 : Int} {I : sh_Mem} {Q : sh_Mem → Prop} (h : kl c (0, 0) mL_turns 112 [some (.inr G), some (.inr L), some (.inr N), some (.inl y3), some (.inl y4), some (.inl y5)] [.inl 0, .inl z2, .inl z1, .inr N] I (qlv c Q)) : kl c (0, 0) mL_turns 107 [some (.inr G), some (.inr L), some (.inr N), some (.inl y3), some (.inl y4), some (.inl y5)] [.inl z2, .inl z1, .inr N] I (qlv c Q) := by
  refine sh_iconst (pc := 107) (v := 0) dL_turns_107 rfl ?_
  refine sh_goto (pc := 108) (tgt := 112) dL_turns_108 (by decide) ?_
  exact sh_O.locals h (sub_some (sub_some (sub_some (sub_some (sub_some (sub_some sub_nil))))))
set_option maxRecDepth 100000 in
set_option maxHeartbeats 4000000 in
theorem lL_turns_112 {c : sh_Cx} (hx : cx c) {G : Nat} (hG : dy c G 42) {L : Nat} (hL : dy c L 12) {N : Nat} (hN : dy c N 9) {y3 : Int} {y4 : Int} {y5 : Int} {z1 : Int} {z2 : Int} {z3 : Int} {I : sh_Mem} {Q : sh_Mem → Prop} (h : ((0 ≤ z1 ∧ z1 < (9 : Int)) ∧ (sh_Bd y5 ∧ ((y5 = 0 → ((0 ≤ (7 * y3) ∧ (7 * y3) < (42 : Int)) ∧ kl c (0, 0) mL_turns 2 [some (.inr G), some (.inr L), some (.inr N), some (.inl (y3 + 1)), none, none] [] (sh_u (sh_u I N z1 (z2 + z3)) G (7 * y3) ((sh_u I N z1 (z2 + z3)) G (7 * y3))) (qlv c Q))) ∧ (¬ y5 = 0 → ((0 ≤ (7 * y3) ∧ (7 * y3) < (42 : Int)) ∧ kl c (0, 0) mL_turns 2 [some (.inr G), some (.inr L), some (.inr N), some (.inl (y3 + 1)), none, none] [] (sh_u (sh_u I N z1 (z2 + z3)) G (7 * y3) y4) (qlv c Q))))))) : kl c (0, 0) mL_turns 112 [some (.inr G), some (.inr L), some (.inr N), some (.inl y3), some (.inl y4), some (.inl y5)] [.inl z3, .inl z2, .inl z1, .inr N] I (qlv c Q) := by
  refine sh_iadd (pc := 112) dL_turns_112 ?_
  obtain ⟨hi_1, h⟩ := h
  refine l_ast (pc := 113) dL_turns_113 hN hi_1 ?_
  refine sh_aload_n (pc := 114) dL_turns_114 rfl rfl ?_
  refine sh_bipush (pc := 115) (v := 7) dL_turns_115 (by decide) ?_
  refine sh_iload_n (pc := 117) dL_turns_117 rfl rfl ?_
  refine sh_imul (pc := 118) dL_turns_118 ?_
  refine sh_iload (pc := 119) dL_turns_119 rfl ?_
  obtain ⟨hb_2, h⟩ := h
  refine sh_if_eq (pc := 121) (tgt := 129) dL_turns_121 (by decide) hb_2  (fun q_3 => ?_) (fun q_3 => ?_)
  · replace h := h.1 q_3
    refine sh_aload_n (pc := 129) dL_turns_129 rfl rfl ?_
    refine sh_bipush (pc := 130) (v := 7) dL_turns_130 (by decide) ?_
    refine sh_iload_n (pc := 132) dL_turns_132 rfl rfl ?_
    refine sh_imul (pc := 133) dL_turns_133 ?_
    obtain ⟨hi_4, h⟩ := h
    refine l_ald (pc := 134) dL_turns_134 hG hi_4 ?_
    refine l_ast (pc := 135) dL_turns_135 hG hi_4 ?_
    refine k_iinc (pc := 136) [some (.inr G), some (.inr L), some (.inr N), some (.inl (y3 + 1)), some (.inl y4), some (.inl y5)] dL_turns_136 rfl rfl (by decide) ?_
    refine sh_goto (pc := 139) (tgt := 2) dL_turns_139 (by decide) ?_
    exact sh_O.locals h (sub_some (sub_some (sub_some (sub_some (sub_none (sub_none sub_nil))))))
  · replace h := h.2 q_3
    refine sh_iload (pc := 124) dL_turns_124 rfl ?_
    refine sh_goto (pc := 126) (tgt := 135) dL_turns_126 (by decide) ?_
    obtain ⟨hi_5, h⟩ := h
    refine l_ast (pc := 135) dL_turns_135 hG hi_5 ?_
    refine k_iinc (pc := 136) [some (.inr G), some (.inr L), some (.inr N), some (.inl (y3 + 1)), some (.inl y4), some (.inl y5)] dL_turns_136 rfl rfl (by decide) ?_
    refine sh_goto (pc := 139) (tgt := 2) dL_turns_139 (by decide) ?_
    exact sh_O.locals h (sub_some (sub_some (sub_some (sub_some (sub_none (sub_none sub_nil))))))
set_option maxRecDepth 100000 in
set_option maxHeartbeats 4000000 in
theorem lL_turns_364 {c : sh_Cx} (hx : cx c) {G : Nat} (hG : dy c G 42) {L : Nat} (hL : dy c L 12) {N : Nat} (hN : dy c N 9) {y4 : Int} {I : sh_Mem} {Q : sh_Mem → Prop} (h : (sh_Bd y4 ∧ (sh_Bd (I N 8) ∧ (((I N 8) ≤ y4 → Q (sh_u I N 5 ((I N 5) + 1))) ∧ (y4 < (I N 8) → ((0 ≤ (7 * y4) ∧ (7 * y4) < (42 : Int)) ∧ ((0 ≤ (I G (7 * y4)) ∧ (I G (7 * y4)) < 2147483648) ∧ ((0 ≤ ((7 * y4) + 2) ∧ ((7 * y4) + 2) < (42 : Int)) ∧ ((((sh_u I G (7 * y4) (((10 * ((I G (7 * y4)) % 10)) + 9) - ((I G (7 * y4)) / 10))) G ((7 * y4) + 2)) = 4 ∨ (sh_Bd ((sh_u I G (7 * y4) (((10 * ((I G (7 * y4)) % 10)) + 9) - ((I G (7 * y4)) / 10))) G ((7 * y4) + 2)) ∧ sh_Bd 4)) ∧ ((¬ ((sh_u I G (7 * y4) (((10 * ((I G (7 * y4)) % 10)) + 9) - ((I G (7 * y4)) / 10))) G ((7 * y4) + 2)) = 4 → ((0 ≤ (((sh_u I G (7 * y4) (((10 * ((I G (7 * y4)) % 10)) + 9) - ((I G (7 * y4)) / 10))) G ((7 * y4) + 2)) + 1) ∧ (((sh_u I G (7 * y4) (((10 * ((I G (7 * y4)) % 10)) + 9) - ((I G (7 * y4)) / 10))) G ((7 * y4) + 2)) + 1) < 2147483648) ∧ kl c (0, 0) mL_turns 364 [some (.inr G), none, some (.inr N), none, some (.inl (y4 + 1)), none] [] (sh_u (sh_u I G (7 * y4) (((10 * ((I G (7 * y4)) % 10)) + 9) - ((I G (7 * y4)) / 10))) G ((7 * y4) + 2) ((((sh_u I G (7 * y4) (((10 * ((I G (7 * y4)) % 10)) + 9) - ((I G (7 * y4)) / 10))) G ((7 * y4) + 2)) + 1) % 4)) (qlv c Q))) ∧ (((sh_u I G (7 * y4) (((10 * ((I G (7 * y4)) % 10)) + 9) - ((I G (7 * y4)) / 10))) G ((7 * y4) + 2)) = 4 → kl c (0, 0) mL_turns 364 [some (.inr G), none, some (.inr N), none, some (.inl (y4 + 1)), none] [] (sh_u (sh_u I G (7 * y4) (((10 * ((I G (7 * y4)) % 10)) + 9) - ((I G (7 * y4)) / 10))) G ((7 * y4) + 2) 4) (qlv c Q)))))))))))) : kl c (0, 0) mL_turns 364 [some (.inr G), none, some (.inr N), none, some (.inl y4), none] [] I (qlv c Q) := by
  refine sh_iload (pc := 364) dL_turns_364 rfl ?_
  refine sh_aload_n (pc := 366) dL_turns_366 rfl rfl ?_
  refine sh_bipush (pc := 367) (v := 8) dL_turns_367 (by decide) ?_
  refine l_ald (pc := 369) dL_turns_369 hN (by decide) ?_
  obtain ⟨hb_1, h⟩ := h
  obtain ⟨hb_2, h⟩ := h
  refine sh_icmp_ge (pc := 370) (tgt := 452) dL_turns_370 (by decide) hb_1 hb_2 (fun q_3 => ?_) (fun q_3 => ?_)
  · replace h := h.1 q_3
    refine sh_aload_n (pc := 452) dL_turns_452 rfl rfl ?_
    refine sh_iconst (pc := 453) (v := 5) dL_turns_453 rfl ?_
    refine sh_dup2 (pc := 454) dL_turns_454 ?_
    refine l_ald (pc := 455) dL_turns_455 hN (by decide) ?_
    refine sh_iconst (pc := 456) (v := 1) dL_turns_456 rfl ?_
    refine sh_iadd (pc := 457) dL_turns_457 ?_
    refine l_ast (pc := 458) dL_turns_458 hN (by decide) ?_
    exact l_vret ext.rf dL_turns_459 rfl h
  · replace h := h.2 q_3
    refine sh_aload_n (pc := 373) dL_turns_373 rfl rfl ?_
    refine sh_bipush (pc := 374) (v := 7) dL_turns_374 (by decide) ?_
    refine sh_iload (pc := 376) dL_turns_376 rfl ?_
    refine sh_imul (pc := 378) dL_turns_378 ?_
    refine sh_bipush (pc := 379) (v := 10) dL_turns_379 (by decide) ?_
    refine sh_aload_n (pc := 381) dL_turns_381 rfl rfl ?_
    refine sh_bipush (pc := 382) (v := 7) dL_turns_382 (by decide) ?_
    refine sh_iload (pc := 384) dL_turns_384 rfl ?_
    refine sh_imul (pc := 386) dL_turns_386 ?_
    obtain ⟨hi_4, h⟩ := h
    refine l_ald (pc := 387) dL_turns_387 hG hi_4 ?_
    refine sh_bipush (pc := 388) (v := 10) dL_turns_388 (by decide) ?_
    obtain ⟨hn_5, h⟩ := h
    refine sh_irem (pc := 390) dL_turns_390 hn_5.1 hn_5.2 (by decide) (by decide) ?_
    refine sh_imul (pc := 391) dL_turns_391 ?_
    refine sh_bipush (pc := 392) (v := 9) dL_turns_392 (by decide) ?_
    refine sh_iadd (pc := 394) dL_turns_394 ?_
    refine sh_aload_n (pc := 395) dL_turns_395 rfl rfl ?_
    refine sh_bipush (pc := 396) (v := 7) dL_turns_396 (by decide) ?_
    refine sh_iload (pc := 398) dL_turns_398 rfl ?_
    refine sh_imul (pc := 400) dL_turns_400 ?_
    refine l_ald (pc := 401) dL_turns_401 hG hi_4 ?_
    refine sh_bipush (pc := 402) (v := 10) dL_turns_402 (by decide) ?_
    refine sh_idiv (pc := 404) dL_turns_404 hn_5.1 hn_5.2 (by decide) (by decide) ?_
    refine sh_isub (pc := 405) dL_turns_405 ?_
    refine l_ast (pc := 406) dL_turns_406 hG hi_4 ?_
    refine sh_aload_n (pc := 407) dL_turns_407 rfl rfl ?_
    refine sh_bipush (pc := 408) (v := 7) dL_turns_408 (by decide) ?_
    refine sh_iload (pc := 410) dL_turns_410 rfl ?_
    refine sh_imul (pc := 412) dL_turns_412 ?_
    refine sh_iconst (pc := 413) (v := 2) dL_turns_413 rfl ?_
    refine sh_iadd (pc := 414) dL_turns_414 ?_
    refine sh_aload_n (pc := 415) dL_turns_415 rfl rfl ?_
    refine sh_bipush (pc := 416) (v := 7) dL_turns_416 (by decide) ?_
    refine sh_iload (pc := 418) dL_turns_418 rfl ?_
    refine sh_imul (pc := 420) dL_turns_420 ?_
    refine sh_iconst (pc := 421) (v := 2) dL_turns_421 rfl ?_
    refine sh_iadd (pc := 422) dL_turns_422 ?_
    obtain ⟨hi_6, h⟩ := h
    refine l_ald (pc := 423) dL_turns_423 hG hi_6 ?_
    refine sh_iconst (pc := 424) (v := 4) dL_turns_424 rfl ?_
    obtain ⟨ho_7, h⟩ := h
    refine l_icmp_ne (pc := 425) (tgt := 432) dL_turns_425 (by decide) ho_7 (fun q_8 => ?_) (fun q_8 => ?_)
    · replace h := h.1 q_8
      refine sh_aload_n (pc := 432) dL_turns_432 rfl rfl ?_
      refine sh_bipush (pc := 433) (v := 7) dL_turns_433 (by decide) ?_
      refine sh_iload (pc := 435) dL_turns_435 rfl ?_
      refine sh_imul (pc := 437) dL_turns_437 ?_
      refine sh_iconst (pc := 438) (v := 2) dL_turns_438 rfl ?_
      refine sh_iadd (pc := 439) dL_turns_439 ?_
      refine l_ald (pc := 440) dL_turns_440 hG hi_6 ?_
      refine sh_iconst (pc := 441) (v := 1) dL_turns_441 rfl ?_
      refine sh_iadd (pc := 442) dL_turns_442 ?_
      refine sh_iconst (pc := 443) (v := 4) dL_turns_443 rfl ?_
      obtain ⟨hn_9, h⟩ := h
      refine sh_irem (pc := 444) dL_turns_444 hn_9.1 hn_9.2 (by decide) (by decide) ?_
      refine l_ast (pc := 445) dL_turns_445 hG hi_6 ?_
      refine k_iinc (pc := 446) [some (.inr G), none, some (.inr N), none, some (.inl (y4 + 1)), none] dL_turns_446 rfl rfl (by decide) ?_
      refine sh_goto (pc := 449) (tgt := 364) dL_turns_449 (by decide) ?_
      exact sh_O.locals h (sub_some (sub_none (sub_some (sub_none (sub_some (sub_none sub_nil))))))
    · replace h := h.2 q_8
      refine sh_iconst (pc := 428) (v := 4) dL_turns_428 rfl ?_
      refine sh_goto (pc := 429) (tgt := 445) dL_turns_429 (by decide) ?_
      refine l_ast (pc := 445) dL_turns_445 hG hi_6 ?_
      refine k_iinc (pc := 446) [some (.inr G), none, some (.inr N), none, some (.inl (y4 + 1)), none] dL_turns_446 rfl rfl (by decide) ?_
      refine sh_goto (pc := 449) (tgt := 364) dL_turns_449 (by decide) ?_
      exact sh_O.locals h (sub_some (sub_none (sub_some (sub_none (sub_some (sub_none sub_nil))))))
set_option maxRecDepth 100000 in
set_option maxHeartbeats 4000000 in
theorem eL_copy {c : sh_Cx} (hx : cx c) {M : Nat} {X : Nat} (hX : dy c X M) {Y : Nat} (hY : dy c Y M) {I : sh_Mem} {Q : sh_Mem → Prop} (h : kl c (0, 0) mL_copy 2 [some (.inr X), some (.inr Y), some (.inl 0)] [] I (qlv c Q)) : cl c mL_copy [.inr X, .inr Y] I (lv c Q) := by
  refine l_callV cd_L_copy.2.2.2 (Nat.le_of_ble_eq_true rfl) ?_
  show kl c (0, 0) mL_copy 0 [some (.inr X), some (.inr Y), none] [] I (qlv c Q)
  refine sh_iconst (pc := 0) (v := 0) dL_copy_0 rfl ?_
  refine k_istore_n (pc := 1) [some (.inr X), some (.inr Y), some (.inl 0)] dL_copy_1 rfl rfl (by decide) ?_
  exact sh_O.locals h (sub_some (sub_some (sub_some sub_nil)))
set_option maxRecDepth 100000 in
set_option maxHeartbeats 4000000 in
theorem lL_copy_2 {c : sh_Cx} (hx : cx c) {M : Nat} {X : Nat} (hX : dy c X M) {Y : Nat} (hY : dy c Y M) {y2 : Int} {I : sh_Mem} {Q : sh_Mem → Prop} (h : (sh_Bd y2 ∧ (sh_Bd (M : Int) ∧ (((M : Int) ≤ y2 → Q I) ∧ (y2 < (M : Int) → ((0 ≤ y2 ∧ y2 < (M : Int)) ∧ kl c (0, 0) mL_copy 2 [some (.inr X), some (.inr Y), some (.inl (y2 + 1))] [] (sh_u I Y y2 (I X y2)) (qlv c Q))))))) : kl c (0, 0) mL_copy 2 [some (.inr X), some (.inr Y), some (.inl y2)] [] I (qlv c Q) := by
  refine sh_iload_n (pc := 2) dL_copy_2 rfl rfl ?_
  refine sh_aload_n (pc := 3) dL_copy_3 rfl rfl ?_
  refine l_alen (pc := 4) dL_copy_4 hX ?_
  obtain ⟨hb_1, h⟩ := h
  obtain ⟨hb_2, h⟩ := h
  refine sh_icmp_ge (pc := 5) (tgt := 20) dL_copy_5 (by decide) hb_1 hb_2 (fun q_3 => ?_) (fun q_3 => ?_)
  · replace h := h.1 q_3
    exact l_vret ext.rf dL_copy_20 rfl h
  · replace h := h.2 q_3
    refine sh_aload_n (pc := 8) dL_copy_8 rfl rfl ?_
    refine sh_iload_n (pc := 9) dL_copy_9 rfl rfl ?_
    refine sh_aload_n (pc := 10) dL_copy_10 rfl rfl ?_
    refine sh_iload_n (pc := 11) dL_copy_11 rfl rfl ?_
    obtain ⟨hi_4, h⟩ := h
    refine l_ald (pc := 12) dL_copy_12 hX hi_4 ?_
    refine l_ast (pc := 13) dL_copy_13 hY hi_4 ?_
    refine k_iinc (pc := 14) [some (.inr X), some (.inr Y), some (.inl (y2 + 1))] dL_copy_14 rfl rfl (by decide) ?_
    refine sh_goto (pc := 17) (tgt := 2) dL_copy_17 (by decide) ?_
    exact sh_O.locals h (sub_some (sub_some (sub_some sub_nil)))
