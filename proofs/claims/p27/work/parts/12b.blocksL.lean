/-! ===== 12b: the cases of the law: its checks ===== -/
set_option maxRecDepth 100000 in
set_option maxHeartbeats 4000000 in
theorem eL_areRunners {c : sh_Cx} (hx : cx c) {G : Nat} (hG : dy c G 42) {L : Nat} (hL : dy c L 12) {N : Nat} (hN : dy c N 9) {I : sh_Mem} {Q : Int → sh_Mem → Prop} (h : (cc mX6_runner [.inr 1, .inl (I N 8), .inl 0] I (qi fun v2 J1 => ((v2 = (-1) ∨ (sh_Bd v2 ∧ sh_Bd (-1))) ∧ ((¬ v2 = (-1) → kl c (0, 0) mL_areRunners 52 [some (.inr 1), some (.inr G), some (.inr L), some (.inr N), none, none, none, none, none, none, none] [] (mxM J1 I) (qli c Q)) ∧ (v2 = (-1) → (cc mX6_count [.inr 1, .inl 1] (mxM J1 I) (qi fun v6 J5 => ((v6 = ((mxM J5 (mxM J1 I)) N 8) ∨ (sh_Bd v6 ∧ sh_Bd ((mxM J5 (mxM J1 I)) N 8))) ∧ ((¬ v6 = ((mxM J5 (mxM J1 I)) N 8) → kl c (0, 0) mL_areRunners 52 [some (.inr 1), some (.inr G), some (.inr L), some (.inr N), none, none, none, none, none, none, none] [] (mxM J5 (mxM J1 I)) (qli c Q)) ∧ (v6 = ((mxM J5 (mxM J1 I)) N 8) → (cc mX6_count [.inr 1, .inl 2] (mxM J5 (mxM J1 I)) (qi fun v10 J9 => (sh_Bd ((mxM J9 (mxM J5 (mxM J1 I))) N 8) ∧ ((¬ ((mxM J9 (mxM J5 (mxM J1 I))) N 8) = 0 → ((v10 = ((mxM J9 (mxM J5 (mxM J1 I))) N 1) ∨ (sh_Bd v10 ∧ sh_Bd ((mxM J9 (mxM J5 (mxM J1 I))) N 1))) ∧ ((¬ v10 = ((mxM J9 (mxM J5 (mxM J1 I))) N 1) → kl c (0, 0) mL_areRunners 52 [some (.inr 1), some (.inr G), some (.inr L), some (.inr N), none, none, none, none, none, none, none] [] (mxM J9 (mxM J5 (mxM J1 I))) (qli c Q)) ∧ (v10 = ((mxM J9 (mxM J5 (mxM J1 I))) N 1) → kl c (0, 0) mL_areRunners 53 [some (.inr 1), some (.inr G), some (.inr L), some (.inr N), none, none, none, none, none, none, none] [.inl 1] (mxM J9 (mxM J5 (mxM J1 I))) (qli c Q))))) ∧ (((mxM J9 (mxM J5 (mxM J1 I))) N 8) = 0 → ((v10 = (-5) ∨ (sh_Bd v10 ∧ sh_Bd (-5))) ∧ ((¬ v10 = (-5) → kl c (0, 0) mL_areRunners 52 [some (.inr 1), some (.inr G), some (.inr L), some (.inr N), none, none, none, none, none, none, none] [] (mxM J9 (mxM J5 (mxM J1 I))) (qli c Q)) ∧ (v10 = (-5) → kl c (0, 0) mL_areRunners 53 [some (.inr 1), some (.inr G), some (.inr L), some (.inr N), none, none, none, none, none, none, none] [.inl 1] (mxM J9 (mxM J5 (mxM J1 I))) (qli c Q)))))))))))))))))))) : cl c mL_areRunners [.inr 1, .inr G, .inr L, .inr N] I (li c Q) := by
  refine l_callI cd_L_areRunners.2.2.2 (Nat.le_of_ble_eq_true rfl) ?_
  show kl c (0, 0) mL_areRunners 0 [some (.inr 1), some (.inr G), some (.inr L), some (.inr N), none, none, none, none, none, none, none] [] I (qli c Q)
  refine sh_aload_n (pc := 0) dL_areRunners_0 rfl rfl ?_
  refine sh_aload_n (pc := 1) dL_areRunners_1 rfl rfl ?_
  refine sh_bipush (pc := 2) (v := 8) dL_areRunners_2 (by decide) ?_
  refine l_ald (pc := 4) dL_areRunners_4 hN (by decide) ?_
  refine sh_iconst (pc := 5) (v := 0) dL_areRunners_5 rfl ?_
  refine l_F2 (pc := 6) hx dL_areRunners_6 lk_L_35 rfl h (fun v2 J1 h => ?_)
  refine sh_iconst (pc := 9) (v := (-1)) dL_areRunners_9 rfl ?_
  obtain ⟨ho_3, h⟩ := h
  refine l_icmp_ne (pc := 10) (tgt := 52) dL_areRunners_10 (by decide) ho_3 (fun q_4 => ?_) (fun q_4 => ?_)
  · replace h := h.1 q_4
    exact sh_O.locals h (sub_some (sub_some (sub_some (sub_some (sub_none (sub_none (sub_none (sub_none (sub_none (sub_none (sub_none sub_nil)))))))))))
  · replace h := h.2 q_4
    refine sh_aload_n (pc := 13) dL_areRunners_13 rfl rfl ?_
    refine sh_iconst (pc := 14) (v := 1) dL_areRunners_14 rfl ?_
    refine l_F1 (pc := 15) hx dL_areRunners_15 lk_L_40 rfl h (fun v6 J5 h => ?_)
    refine sh_aload_n (pc := 18) dL_areRunners_18 rfl rfl ?_
    refine sh_bipush (pc := 19) (v := 8) dL_areRunners_19 (by decide) ?_
    refine l_ald (pc := 21) dL_areRunners_21 hN (by decide) ?_
    obtain ⟨ho_7, h⟩ := h
    refine l_icmp_ne (pc := 22) (tgt := 52) dL_areRunners_22 (by decide) ho_7 (fun q_8 => ?_) (fun q_8 => ?_)
    · replace h := h.1 q_8
      exact sh_O.locals h (sub_some (sub_some (sub_some (sub_some (sub_none (sub_none (sub_none (sub_none (sub_none (sub_none (sub_none sub_nil)))))))))))
    · replace h := h.2 q_8
      refine sh_aload_n (pc := 25) dL_areRunners_25 rfl rfl ?_
      refine sh_iconst (pc := 26) (v := 2) dL_areRunners_26 rfl ?_
      refine l_F1 (pc := 27) hx dL_areRunners_27 lk_L_40 rfl h (fun v10 J9 h => ?_)
      refine sh_aload_n (pc := 30) dL_areRunners_30 rfl rfl ?_
      refine sh_bipush (pc := 31) (v := 8) dL_areRunners_31 (by decide) ?_
      refine l_ald (pc := 33) dL_areRunners_33 hN (by decide) ?_
      obtain ⟨hb_11, h⟩ := h
      refine sh_if_ne (pc := 34) (tgt := 42) dL_areRunners_34 (by decide) hb_11  (fun q_12 => ?_) (fun q_12 => ?_)
      · replace h := h.1 q_12
        refine sh_aload_n (pc := 42) dL_areRunners_42 rfl rfl ?_
        refine sh_iconst (pc := 43) (v := 1) dL_areRunners_43 rfl ?_
        refine l_ald (pc := 44) dL_areRunners_44 hN (by decide) ?_
        obtain ⟨ho_13, h⟩ := h
        refine l_icmp_ne (pc := 45) (tgt := 52) dL_areRunners_45 (by decide) ho_13 (fun q_14 => ?_) (fun q_14 => ?_)
        · replace h := h.1 q_14
          exact sh_O.locals h (sub_some (sub_some (sub_some (sub_some (sub_none (sub_none (sub_none (sub_none (sub_none (sub_none (sub_none sub_nil)))))))))))
        · replace h := h.2 q_14
          refine sh_iconst (pc := 48) (v := 1) dL_areRunners_48 rfl ?_
          refine sh_goto (pc := 49) (tgt := 53) dL_areRunners_49 (by decide) ?_
          exact sh_O.locals h (sub_some (sub_some (sub_some (sub_some (sub_none (sub_none (sub_none (sub_none (sub_none (sub_none (sub_none sub_nil)))))))))))
      · replace h := h.2 q_12
        refine sh_bipush (pc := 37) (v := (-5)) dL_areRunners_37 (by decide) ?_
        refine sh_goto (pc := 39) (tgt := 45) dL_areRunners_39 (by decide) ?_
        obtain ⟨ho_15, h⟩ := h
        refine l_icmp_ne (pc := 45) (tgt := 52) dL_areRunners_45 (by decide) ho_15 (fun q_16 => ?_) (fun q_16 => ?_)
        · replace h := h.1 q_16
          exact sh_O.locals h (sub_some (sub_some (sub_some (sub_some (sub_none (sub_none (sub_none (sub_none (sub_none (sub_none (sub_none sub_nil)))))))))))
        · replace h := h.2 q_16
          refine sh_iconst (pc := 48) (v := 1) dL_areRunners_48 rfl ?_
          refine sh_goto (pc := 49) (tgt := 53) dL_areRunners_49 (by decide) ?_
          exact sh_O.locals h (sub_some (sub_some (sub_some (sub_some (sub_none (sub_none (sub_none (sub_none (sub_none (sub_none (sub_none sub_nil)))))))))))
set_option maxRecDepth 100000 in
set_option maxHeartbeats 4000000 in
theorem lL_areRunners_52 {c : sh_Cx} (hx : cx c) {G : Nat} (hG : dy c G 42) {L : Nat} (hL : dy c L 12) {N : Nat} (hN : dy c N 9) {I : sh_Mem} {Q : Int → sh_Mem → Prop} (h : kl c (0, 0) mL_areRunners 53 [some (.inr 1), some (.inr G), some (.inr L), some (.inr N), none, none, none, none, none, none, none] [.inl 0] I (qli c Q)) : kl c (0, 0) mL_areRunners 52 [some (.inr 1), some (.inr G), some (.inr L), some (.inr N), none, none, none, none, none, none, none] [] I (qli c Q) := by
  refine sh_iconst (pc := 52) (v := 0) dL_areRunners_52 rfl ?_
  exact sh_O.locals h (sub_some (sub_some (sub_some (sub_some (sub_none (sub_none (sub_none (sub_none (sub_none (sub_none (sub_none sub_nil)))))))))))
set_option maxRecDepth 100000 in
set_option maxHeartbeats 4000000 in
theorem lL_areRunners_53 {c : sh_Cx} (hx : cx c) {G : Nat} (hG : dy c G 42) {L : Nat} (hL : dy c L 12) {N : Nat} (hN : dy c N 9) {z0 : Int} {I : sh_Mem} {Q : Int → sh_Mem → Prop} (h : kl c (0, 0) mL_areRunners 67 [some (.inr 1), some (.inr G), some (.inr L), some (.inr N), some (.inl z0), some (.inl 0), some (.inl 0), some (.inl 0), some (.inl 0), none, none] [] I (qli c Q)) : kl c (0, 0) mL_areRunners 53 [some (.inr 1), some (.inr G), some (.inr L), some (.inr N), none, none, none, none, none, none, none] [.inl z0] I (qli c Q) := by
  refine k_istore (pc := 53) [some (.inr 1), some (.inr G), some (.inr L), some (.inr N), some (.inl z0), none, none, none, none, none, none] dL_areRunners_53 rfl (by decide) ?_
  refine sh_iconst (pc := 55) (v := 0) dL_areRunners_55 rfl ?_
  refine k_istore (pc := 56) [some (.inr 1), some (.inr G), some (.inr L), some (.inr N), some (.inl z0), some (.inl 0), none, none, none, none, none] dL_areRunners_56 rfl (by decide) ?_
  refine sh_iconst (pc := 58) (v := 0) dL_areRunners_58 rfl ?_
  refine k_istore (pc := 59) [some (.inr 1), some (.inr G), some (.inr L), some (.inr N), some (.inl z0), some (.inl 0), some (.inl 0), none, none, none, none] dL_areRunners_59 rfl (by decide) ?_
  refine sh_iconst (pc := 61) (v := 0) dL_areRunners_61 rfl ?_
  refine k_istore (pc := 62) [some (.inr 1), some (.inr G), some (.inr L), some (.inr N), some (.inl z0), some (.inl 0), some (.inl 0), some (.inl 0), none, none, none] dL_areRunners_62 rfl (by decide) ?_
  refine sh_iconst (pc := 64) (v := 0) dL_areRunners_64 rfl ?_
  refine k_istore (pc := 65) [some (.inr 1), some (.inr G), some (.inr L), some (.inr N), some (.inl z0), some (.inl 0), some (.inl 0), some (.inl 0), some (.inl 0), none, none] dL_areRunners_65 rfl (by decide) ?_
  exact sh_O.locals h (sub_some (sub_some (sub_some (sub_some (sub_some (sub_some (sub_some (sub_some (sub_some (sub_none (sub_none sub_nil)))))))))))
set_option maxRecDepth 100000 in
set_option maxHeartbeats 4000000 in
theorem lL_areRunners_67 {c : sh_Cx} (hx : cx c) {G : Nat} (hG : dy c G 42) {L : Nat} (hL : dy c L 12) {N : Nat} (hN : dy c N 9) {y4 : Int} {y5 : Int} {y6 : Int} {y7 : Int} {y8 : Int} {I : sh_Mem} {Q : Int → sh_Mem → Prop} (h : (sh_Bd y8 ∧ (sh_Bd (I N 8) ∧ (((I N 8) ≤ y8 → (sh_Bd y4 ∧ ((y4 = 0 → Q 0 I) ∧ (¬ y4 = 0 → (sh_Bd y7 ∧ ((¬ y7 = 0 → Q 0 I) ∧ (y7 = 0 → (sh_Bd y6 ∧ ((y6 < 0 → Q 0 I) ∧ (0 ≤ y6 → (cc mX6_count [.inr 1, .inl 0] I (qi fun v11 J10 => ((v11 = ((mxM J10 I) N 0) ∨ (sh_Bd v11 ∧ sh_Bd ((mxM J10 I) N 0))) ∧ ((¬ v11 = ((mxM J10 I) N 0) → Q 0 (mxM J10 I)) ∧ (v11 = ((mxM J10 I) N 0) → (cc mX6_count [.inr 1, .inl 5] (mxM J10 I) (qi fun v15 J14 => ((v15 = y5 ∨ (sh_Bd v15 ∧ sh_Bd y5)) ∧ ((¬ v15 = y5 → Q 0 (mxM J14 (mxM J10 I))) ∧ (v15 = y5 → (cc mX6_count [.inr 1, .inl 6] (mxM J14 (mxM J10 I)) (qi fun v19 J18 => ((v19 = ((mxM J18 (mxM J14 (mxM J10 I))) N 2) ∨ (sh_Bd v19 ∧ sh_Bd ((mxM J18 (mxM J14 (mxM J10 I))) N 2))) ∧ ((¬ v19 = ((mxM J18 (mxM J14 (mxM J10 I))) N 2) → Q 0 (mxM J18 (mxM J14 (mxM J10 I)))) ∧ (v19 = ((mxM J18 (mxM J14 (mxM J10 I))) N 2) → (cc mX6_count [.inr 1, .inl 7] (mxM J18 (mxM J14 (mxM J10 I))) (qi fun v23 J22 => ((v23 = ((mxM J22 (mxM J18 (mxM J14 (mxM J10 I)))) N 3) ∨ (sh_Bd v23 ∧ sh_Bd ((mxM J22 (mxM J18 (mxM J14 (mxM J10 I)))) N 3))) ∧ ((¬ v23 = ((mxM J22 (mxM J18 (mxM J14 (mxM J10 I)))) N 3) → Q 0 (mxM J22 (mxM J18 (mxM J14 (mxM J10 I))))) ∧ (v23 = ((mxM J22 (mxM J18 (mxM J14 (mxM J10 I)))) N 3) → (cc mX6_count [.inr 1, .inl 8] (mxM J22 (mxM J18 (mxM J14 (mxM J10 I)))) (qi fun v27 J26 => ((v27 = ((mxM J26 (mxM J22 (mxM J18 (mxM J14 (mxM J10 I))))) N 4) ∨ (sh_Bd v27 ∧ sh_Bd ((mxM J26 (mxM J22 (mxM J18 (mxM J14 (mxM J10 I))))) N 4))) ∧ ((¬ v27 = ((mxM J26 (mxM J22 (mxM J18 (mxM J14 (mxM J10 I))))) N 4) → Q 0 (mxM J26 (mxM J22 (mxM J18 (mxM J14 (mxM J10 I)))))) ∧ (v27 = ((mxM J26 (mxM J22 (mxM J18 (mxM J14 (mxM J10 I))))) N 4) → (cc mX6_count [.inr 1, .inl 9] (mxM J26 (mxM J22 (mxM J18 (mxM J14 (mxM J10 I))))) (qi fun v31 J30 => ((v31 = ((mxM J30 (mxM J26 (mxM J22 (mxM J18 (mxM J14 (mxM J10 I)))))) N 5) ∨ (sh_Bd v31 ∧ sh_Bd ((mxM J30 (mxM J26 (mxM J22 (mxM J18 (mxM J14 (mxM J10 I)))))) N 5))) ∧ ((¬ v31 = ((mxM J30 (mxM J26 (mxM J22 (mxM J18 (mxM J14 (mxM J10 I)))))) N 5) → Q 0 (mxM J30 (mxM J26 (mxM J22 (mxM J18 (mxM J14 (mxM J10 I))))))) ∧ (v31 = ((mxM J30 (mxM J26 (mxM J22 (mxM J18 (mxM J14 (mxM J10 I)))))) N 5) → (cc mX6_count [.inr 1, .inl 10] (mxM J30 (mxM J26 (mxM J22 (mxM J18 (mxM J14 (mxM J10 I)))))) (qi fun v35 J34 => ((v35 = ((mxM J34 (mxM J30 (mxM J26 (mxM J22 (mxM J18 (mxM J14 (mxM J10 I))))))) N 6) ∨ (sh_Bd v35 ∧ sh_Bd ((mxM J34 (mxM J30 (mxM J26 (mxM J22 (mxM J18 (mxM J14 (mxM J10 I))))))) N 6))) ∧ ((¬ v35 = ((mxM J34 (mxM J30 (mxM J26 (mxM J22 (mxM J18 (mxM J14 (mxM J10 I))))))) N 6) → Q 0 (mxM J34 (mxM J30 (mxM J26 (mxM J22 (mxM J18 (mxM J14 (mxM J10 I)))))))) ∧ (v35 = ((mxM J34 (mxM J30 (mxM J26 (mxM J22 (mxM J18 (mxM J14 (mxM J10 I))))))) N 6) → (cc mX6_count [.inr 1, .inl 11] (mxM J34 (mxM J30 (mxM J26 (mxM J22 (mxM J18 (mxM J14 (mxM J10 I))))))) (qi fun v39 J38 => ((v39 = ((mxM J38 (mxM J34 (mxM J30 (mxM J26 (mxM J22 (mxM J18 (mxM J14 (mxM J10 I)))))))) N 7) ∨ (sh_Bd v39 ∧ sh_Bd ((mxM J38 (mxM J34 (mxM J30 (mxM J26 (mxM J22 (mxM J18 (mxM J14 (mxM J10 I)))))))) N 7))) ∧ ((¬ v39 = ((mxM J38 (mxM J34 (mxM J30 (mxM J26 (mxM J22 (mxM J18 (mxM J14 (mxM J10 I)))))))) N 7) → Q 0 (mxM J38 (mxM J34 (mxM J30 (mxM J26 (mxM J22 (mxM J18 (mxM J14 (mxM J10 I))))))))) ∧ (v39 = ((mxM J38 (mxM J34 (mxM J30 (mxM J26 (mxM J22 (mxM J18 (mxM J14 (mxM J10 I)))))))) N 7) → (cc mX6_count [.inr 1, .inl 14] (mxM J38 (mxM J34 (mxM J30 (mxM J26 (mxM J22 (mxM J18 (mxM J14 (mxM J10 I)))))))) (qi fun v43 J42 => ((v43 = (-2) ∨ (sh_Bd v43 ∧ sh_Bd (-2))) ∧ ((¬ v43 = (-2) → Q 0 (mxM J42 (mxM J38 (mxM J34 (mxM J30 (mxM J26 (mxM J22 (mxM J18 (mxM J14 (mxM J10 I)))))))))) ∧ (v43 = (-2) → Q 1 (mxM J42 (mxM J38 (mxM J34 (mxM J30 (mxM J26 (mxM J22 (mxM J18 (mxM J14 (mxM J10 I)))))))))))))))))))))))))))))))))))))))))))))))))))))))))))))))) ∧ (y8 < (I N 8) → (sh_Bd y4 ∧ ((y4 = 0 → ((y4 = 0 → Q 0 I) ∧ (¬ y4 = 0 → (sh_Bd y7 ∧ ((¬ y7 = 0 → Q 0 I) ∧ (y7 = 0 → (sh_Bd y6 ∧ ((y6 < 0 → Q 0 I) ∧ (0 ≤ y6 → (cc mX6_count [.inr 1, .inl 0] I (qi fun v54 J53 => ((v54 = ((mxM J53 I) N 0) ∨ (sh_Bd v54 ∧ sh_Bd ((mxM J53 I) N 0))) ∧ ((¬ v54 = ((mxM J53 I) N 0) → Q 0 (mxM J53 I)) ∧ (v54 = ((mxM J53 I) N 0) → (cc mX6_count [.inr 1, .inl 5] (mxM J53 I) (qi fun v58 J57 => ((v58 = y5 ∨ (sh_Bd v58 ∧ sh_Bd y5)) ∧ ((¬ v58 = y5 → Q 0 (mxM J57 (mxM J53 I))) ∧ (v58 = y5 → (cc mX6_count [.inr 1, .inl 6] (mxM J57 (mxM J53 I)) (qi fun v62 J61 => ((v62 = ((mxM J61 (mxM J57 (mxM J53 I))) N 2) ∨ (sh_Bd v62 ∧ sh_Bd ((mxM J61 (mxM J57 (mxM J53 I))) N 2))) ∧ ((¬ v62 = ((mxM J61 (mxM J57 (mxM J53 I))) N 2) → Q 0 (mxM J61 (mxM J57 (mxM J53 I)))) ∧ (v62 = ((mxM J61 (mxM J57 (mxM J53 I))) N 2) → (cc mX6_count [.inr 1, .inl 7] (mxM J61 (mxM J57 (mxM J53 I))) (qi fun v66 J65 => ((v66 = ((mxM J65 (mxM J61 (mxM J57 (mxM J53 I)))) N 3) ∨ (sh_Bd v66 ∧ sh_Bd ((mxM J65 (mxM J61 (mxM J57 (mxM J53 I)))) N 3))) ∧ ((¬ v66 = ((mxM J65 (mxM J61 (mxM J57 (mxM J53 I)))) N 3) → Q 0 (mxM J65 (mxM J61 (mxM J57 (mxM J53 I))))) ∧ (v66 = ((mxM J65 (mxM J61 (mxM J57 (mxM J53 I)))) N 3) → (cc mX6_count [.inr 1, .inl 8] (mxM J65 (mxM J61 (mxM J57 (mxM J53 I)))) (qi fun v70 J69 => ((v70 = ((mxM J69 (mxM J65 (mxM J61 (mxM J57 (mxM J53 I))))) N 4) ∨ (sh_Bd v70 ∧ sh_Bd ((mxM J69 (mxM J65 (mxM J61 (mxM J57 (mxM J53 I))))) N 4))) ∧ ((¬ v70 = ((mxM J69 (mxM J65 (mxM J61 (mxM J57 (mxM J53 I))))) N 4) → Q 0 (mxM J69 (mxM J65 (mxM J61 (mxM J57 (mxM J53 I)))))) ∧ (v70 = ((mxM J69 (mxM J65 (mxM J61 (mxM J57 (mxM J53 I))))) N 4) → (cc mX6_count [.inr 1, .inl 9] (mxM J69 (mxM J65 (mxM J61 (mxM J57 (mxM J53 I))))) (qi fun v74 J73 => ((v74 = ((mxM J73 (mxM J69 (mxM J65 (mxM J61 (mxM J57 (mxM J53 I)))))) N 5) ∨ (sh_Bd v74 ∧ sh_Bd ((mxM J73 (mxM J69 (mxM J65 (mxM J61 (mxM J57 (mxM J53 I)))))) N 5))) ∧ ((¬ v74 = ((mxM J73 (mxM J69 (mxM J65 (mxM J61 (mxM J57 (mxM J53 I)))))) N 5) → Q 0 (mxM J73 (mxM J69 (mxM J65 (mxM J61 (mxM J57 (mxM J53 I))))))) ∧ (v74 = ((mxM J73 (mxM J69 (mxM J65 (mxM J61 (mxM J57 (mxM J53 I)))))) N 5) → (cc mX6_count [.inr 1, .inl 10] (mxM J73 (mxM J69 (mxM J65 (mxM J61 (mxM J57 (mxM J53 I)))))) (qi fun v78 J77 => ((v78 = ((mxM J77 (mxM J73 (mxM J69 (mxM J65 (mxM J61 (mxM J57 (mxM J53 I))))))) N 6) ∨ (sh_Bd v78 ∧ sh_Bd ((mxM J77 (mxM J73 (mxM J69 (mxM J65 (mxM J61 (mxM J57 (mxM J53 I))))))) N 6))) ∧ ((¬ v78 = ((mxM J77 (mxM J73 (mxM J69 (mxM J65 (mxM J61 (mxM J57 (mxM J53 I))))))) N 6) → Q 0 (mxM J77 (mxM J73 (mxM J69 (mxM J65 (mxM J61 (mxM J57 (mxM J53 I)))))))) ∧ (v78 = ((mxM J77 (mxM J73 (mxM J69 (mxM J65 (mxM J61 (mxM J57 (mxM J53 I))))))) N 6) → (cc mX6_count [.inr 1, .inl 11] (mxM J77 (mxM J73 (mxM J69 (mxM J65 (mxM J61 (mxM J57 (mxM J53 I))))))) (qi fun v82 J81 => ((v82 = ((mxM J81 (mxM J77 (mxM J73 (mxM J69 (mxM J65 (mxM J61 (mxM J57 (mxM J53 I)))))))) N 7) ∨ (sh_Bd v82 ∧ sh_Bd ((mxM J81 (mxM J77 (mxM J73 (mxM J69 (mxM J65 (mxM J61 (mxM J57 (mxM J53 I)))))))) N 7))) ∧ ((¬ v82 = ((mxM J81 (mxM J77 (mxM J73 (mxM J69 (mxM J65 (mxM J61 (mxM J57 (mxM J53 I)))))))) N 7) → Q 0 (mxM J81 (mxM J77 (mxM J73 (mxM J69 (mxM J65 (mxM J61 (mxM J57 (mxM J53 I))))))))) ∧ (v82 = ((mxM J81 (mxM J77 (mxM J73 (mxM J69 (mxM J65 (mxM J61 (mxM J57 (mxM J53 I)))))))) N 7) → (cc mX6_count [.inr 1, .inl 14] (mxM J81 (mxM J77 (mxM J73 (mxM J69 (mxM J65 (mxM J61 (mxM J57 (mxM J53 I)))))))) (qi fun v86 J85 => ((v86 = (-2) ∨ (sh_Bd v86 ∧ sh_Bd (-2))) ∧ ((¬ v86 = (-2) → Q 0 (mxM J85 (mxM J81 (mxM J77 (mxM J73 (mxM J69 (mxM J65 (mxM J61 (mxM J57 (mxM J53 I)))))))))) ∧ (v86 = (-2) → Q 1 (mxM J85 (mxM J81 (mxM J77 (mxM J73 (mxM J69 (mxM J65 (mxM J61 (mxM J57 (mxM J53 I))))))))))))))))))))))))))))))))))))))))))))))))))))))))))))))) ∧ (¬ y4 = 0 → kl c (0, 0) mL_areRunners 84 [some (.inr 1), some (.inr G), some (.inr L), some (.inr N), some (.inl y4), some (.inl y5), some (.inl y6), some (.inl y7), some (.inl y8), some (.inl 0), none] [] I (qli c Q))))))))) : kl c (0, 0) mL_areRunners 67 [some (.inr 1), some (.inr G), some (.inr L), some (.inr N), some (.inl y4), some (.inl y5), some (.inl y6), some (.inl y7), some (.inl y8), none, none] [] I (qli c Q) := by
  refine sh_iload (pc := 67) dL_areRunners_67 rfl ?_
  refine sh_aload_n (pc := 69) dL_areRunners_69 rfl rfl ?_
  refine sh_bipush (pc := 70) (v := 8) dL_areRunners_70 (by decide) ?_
  refine l_ald (pc := 72) dL_areRunners_72 hN (by decide) ?_
  obtain ⟨hb_1, h⟩ := h
  obtain ⟨hb_2, h⟩ := h
  refine sh_icmp_ge (pc := 73) (tgt := 355) dL_areRunners_73 (by decide) hb_1 hb_2 (fun q_3 => ?_) (fun q_3 => ?_)
  · replace h := h.1 q_3
    refine sh_iload (pc := 355) dL_areRunners_355 rfl ?_
    obtain ⟨hb_4, h⟩ := h
    refine sh_if_eq (pc := 357) (tgt := 480) dL_areRunners_357 (by decide) hb_4  (fun q_5 => ?_) (fun q_5 => ?_)
    · replace h := h.1 q_5
      refine sh_iconst (pc := 480) (v := 0) dL_areRunners_480 rfl ?_
      exact l_zret ext.rf dL_areRunners_481 rfl (Or.inl rfl) h
    · replace h := h.2 q_5
      refine sh_iload (pc := 360) dL_areRunners_360 rfl ?_
      obtain ⟨hb_6, h⟩ := h
      refine sh_if_ne (pc := 362) (tgt := 480) dL_areRunners_362 (by decide) hb_6  (fun q_7 => ?_) (fun q_7 => ?_)
      · replace h := h.1 q_7
        refine sh_iconst (pc := 480) (v := 0) dL_areRunners_480 rfl ?_
        exact l_zret ext.rf dL_areRunners_481 rfl (Or.inl rfl) h
      · replace h := h.2 q_7
        refine sh_iload (pc := 365) dL_areRunners_365 rfl ?_
        obtain ⟨hb_8, h⟩ := h
        refine sh_if_lt (pc := 367) (tgt := 480) dL_areRunners_367 (by decide) hb_8  (fun q_9 => ?_) (fun q_9 => ?_)
        · replace h := h.1 q_9
          refine sh_iconst (pc := 480) (v := 0) dL_areRunners_480 rfl ?_
          exact l_zret ext.rf dL_areRunners_481 rfl (Or.inl rfl) h
        · replace h := h.2 q_9
          refine sh_aload_n (pc := 370) dL_areRunners_370 rfl rfl ?_
          refine sh_iconst (pc := 371) (v := 0) dL_areRunners_371 rfl ?_
          refine l_F1 (pc := 372) hx dL_areRunners_372 lk_L_40 rfl h (fun v11 J10 h => ?_)
          refine sh_aload_n (pc := 375) dL_areRunners_375 rfl rfl ?_
          refine sh_iconst (pc := 376) (v := 0) dL_areRunners_376 rfl ?_
          refine l_ald (pc := 377) dL_areRunners_377 hN (by decide) ?_
          obtain ⟨ho_12, h⟩ := h
          refine l_icmp_ne (pc := 378) (tgt := 480) dL_areRunners_378 (by decide) ho_12 (fun q_13 => ?_) (fun q_13 => ?_)
          · replace h := h.1 q_13
            refine sh_iconst (pc := 480) (v := 0) dL_areRunners_480 rfl ?_
            exact l_zret ext.rf dL_areRunners_481 rfl (Or.inl rfl) h
          · replace h := h.2 q_13
            refine sh_aload_n (pc := 381) dL_areRunners_381 rfl rfl ?_
            refine sh_iconst (pc := 382) (v := 5) dL_areRunners_382 rfl ?_
            refine l_F1 (pc := 383) hx dL_areRunners_383 lk_L_40 rfl h (fun v15 J14 h => ?_)
            refine sh_iload (pc := 386) dL_areRunners_386 rfl ?_
            obtain ⟨ho_16, h⟩ := h
            refine l_icmp_ne (pc := 388) (tgt := 480) dL_areRunners_388 (by decide) ho_16 (fun q_17 => ?_) (fun q_17 => ?_)
            · replace h := h.1 q_17
              refine sh_iconst (pc := 480) (v := 0) dL_areRunners_480 rfl ?_
              exact l_zret ext.rf dL_areRunners_481 rfl (Or.inl rfl) h
            · replace h := h.2 q_17
              refine sh_aload_n (pc := 391) dL_areRunners_391 rfl rfl ?_
              refine sh_bipush (pc := 392) (v := 6) dL_areRunners_392 (by decide) ?_
              refine l_F1 (pc := 394) hx dL_areRunners_394 lk_L_40 rfl h (fun v19 J18 h => ?_)
              refine sh_aload_n (pc := 397) dL_areRunners_397 rfl rfl ?_
              refine sh_iconst (pc := 398) (v := 2) dL_areRunners_398 rfl ?_
              refine l_ald (pc := 399) dL_areRunners_399 hN (by decide) ?_
              obtain ⟨ho_20, h⟩ := h
              refine l_icmp_ne (pc := 400) (tgt := 480) dL_areRunners_400 (by decide) ho_20 (fun q_21 => ?_) (fun q_21 => ?_)
              · replace h := h.1 q_21
                refine sh_iconst (pc := 480) (v := 0) dL_areRunners_480 rfl ?_
                exact l_zret ext.rf dL_areRunners_481 rfl (Or.inl rfl) h
              · replace h := h.2 q_21
                refine sh_aload_n (pc := 403) dL_areRunners_403 rfl rfl ?_
                refine sh_bipush (pc := 404) (v := 7) dL_areRunners_404 (by decide) ?_
                refine l_F1 (pc := 406) hx dL_areRunners_406 lk_L_40 rfl h (fun v23 J22 h => ?_)
                refine sh_aload_n (pc := 409) dL_areRunners_409 rfl rfl ?_
                refine sh_iconst (pc := 410) (v := 3) dL_areRunners_410 rfl ?_
                refine l_ald (pc := 411) dL_areRunners_411 hN (by decide) ?_
                obtain ⟨ho_24, h⟩ := h
                refine l_icmp_ne (pc := 412) (tgt := 480) dL_areRunners_412 (by decide) ho_24 (fun q_25 => ?_) (fun q_25 => ?_)
                · replace h := h.1 q_25
                  refine sh_iconst (pc := 480) (v := 0) dL_areRunners_480 rfl ?_
                  exact l_zret ext.rf dL_areRunners_481 rfl (Or.inl rfl) h
                · replace h := h.2 q_25
                  refine sh_aload_n (pc := 415) dL_areRunners_415 rfl rfl ?_
                  refine sh_bipush (pc := 416) (v := 8) dL_areRunners_416 (by decide) ?_
                  refine l_F1 (pc := 418) hx dL_areRunners_418 lk_L_40 rfl h (fun v27 J26 h => ?_)
                  refine sh_aload_n (pc := 421) dL_areRunners_421 rfl rfl ?_
                  refine sh_iconst (pc := 422) (v := 4) dL_areRunners_422 rfl ?_
                  refine l_ald (pc := 423) dL_areRunners_423 hN (by decide) ?_
                  obtain ⟨ho_28, h⟩ := h
                  refine l_icmp_ne (pc := 424) (tgt := 480) dL_areRunners_424 (by decide) ho_28 (fun q_29 => ?_) (fun q_29 => ?_)
                  · replace h := h.1 q_29
                    refine sh_iconst (pc := 480) (v := 0) dL_areRunners_480 rfl ?_
                    exact l_zret ext.rf dL_areRunners_481 rfl (Or.inl rfl) h
                  · replace h := h.2 q_29
                    refine sh_aload_n (pc := 427) dL_areRunners_427 rfl rfl ?_
                    refine sh_bipush (pc := 428) (v := 9) dL_areRunners_428 (by decide) ?_
                    refine l_F1 (pc := 430) hx dL_areRunners_430 lk_L_40 rfl h (fun v31 J30 h => ?_)
                    refine sh_aload_n (pc := 433) dL_areRunners_433 rfl rfl ?_
                    refine sh_iconst (pc := 434) (v := 5) dL_areRunners_434 rfl ?_
                    refine l_ald (pc := 435) dL_areRunners_435 hN (by decide) ?_
                    obtain ⟨ho_32, h⟩ := h
                    refine l_icmp_ne (pc := 436) (tgt := 480) dL_areRunners_436 (by decide) ho_32 (fun q_33 => ?_) (fun q_33 => ?_)
                    · replace h := h.1 q_33
                      refine sh_iconst (pc := 480) (v := 0) dL_areRunners_480 rfl ?_
                      exact l_zret ext.rf dL_areRunners_481 rfl (Or.inl rfl) h
                    · replace h := h.2 q_33
                      refine sh_aload_n (pc := 439) dL_areRunners_439 rfl rfl ?_
                      refine sh_bipush (pc := 440) (v := 10) dL_areRunners_440 (by decide) ?_
                      refine l_F1 (pc := 442) hx dL_areRunners_442 lk_L_40 rfl h (fun v35 J34 h => ?_)
                      refine sh_aload_n (pc := 445) dL_areRunners_445 rfl rfl ?_
                      refine sh_bipush (pc := 446) (v := 6) dL_areRunners_446 (by decide) ?_
                      refine l_ald (pc := 448) dL_areRunners_448 hN (by decide) ?_
                      obtain ⟨ho_36, h⟩ := h
                      refine l_icmp_ne (pc := 449) (tgt := 480) dL_areRunners_449 (by decide) ho_36 (fun q_37 => ?_) (fun q_37 => ?_)
                      · replace h := h.1 q_37
                        refine sh_iconst (pc := 480) (v := 0) dL_areRunners_480 rfl ?_
                        exact l_zret ext.rf dL_areRunners_481 rfl (Or.inl rfl) h
                      · replace h := h.2 q_37
                        refine sh_aload_n (pc := 452) dL_areRunners_452 rfl rfl ?_
                        refine sh_bipush (pc := 453) (v := 11) dL_areRunners_453 (by decide) ?_
                        refine l_F1 (pc := 455) hx dL_areRunners_455 lk_L_40 rfl h (fun v39 J38 h => ?_)
                        refine sh_aload_n (pc := 458) dL_areRunners_458 rfl rfl ?_
                        refine sh_bipush (pc := 459) (v := 7) dL_areRunners_459 (by decide) ?_
                        refine l_ald (pc := 461) dL_areRunners_461 hN (by decide) ?_
                        obtain ⟨ho_40, h⟩ := h
                        refine l_icmp_ne (pc := 462) (tgt := 480) dL_areRunners_462 (by decide) ho_40 (fun q_41 => ?_) (fun q_41 => ?_)
                        · replace h := h.1 q_41
                          refine sh_iconst (pc := 480) (v := 0) dL_areRunners_480 rfl ?_
                          exact l_zret ext.rf dL_areRunners_481 rfl (Or.inl rfl) h
                        · replace h := h.2 q_41
                          refine sh_aload_n (pc := 465) dL_areRunners_465 rfl rfl ?_
                          refine sh_bipush (pc := 466) (v := 14) dL_areRunners_466 (by decide) ?_
                          refine l_F1 (pc := 468) hx dL_areRunners_468 lk_L_40 rfl h (fun v43 J42 h => ?_)
                          refine sh_bipush (pc := 471) (v := (-2)) dL_areRunners_471 (by decide) ?_
                          obtain ⟨ho_44, h⟩ := h
                          refine l_icmp_ne (pc := 473) (tgt := 480) dL_areRunners_473 (by decide) ho_44 (fun q_45 => ?_) (fun q_45 => ?_)
                          · replace h := h.1 q_45
                            refine sh_iconst (pc := 480) (v := 0) dL_areRunners_480 rfl ?_
                            exact l_zret ext.rf dL_areRunners_481 rfl (Or.inl rfl) h
                          · replace h := h.2 q_45
                            refine sh_iconst (pc := 476) (v := 1) dL_areRunners_476 rfl ?_
                            refine sh_goto (pc := 477) (tgt := 481) dL_areRunners_477 (by decide) ?_
                            exact l_zret ext.rf dL_areRunners_481 rfl (Or.inr rfl) h
  · replace h := h.2 q_3
    refine sh_iload (pc := 76) dL_areRunners_76 rfl ?_
    obtain ⟨hb_46, h⟩ := h
    refine sh_if_eq (pc := 78) (tgt := 355) dL_areRunners_78 (by decide) hb_46  (fun q_47 => ?_) (fun q_47 => ?_)
    · replace h := h.1 q_47
      refine sh_iload (pc := 355) dL_areRunners_355 rfl ?_
      refine sh_if_eq (pc := 357) (tgt := 480) dL_areRunners_357 (by decide) hb_46  (fun q_48 => ?_) (fun q_48 => ?_)
      · replace h := h.1 q_48
        refine sh_iconst (pc := 480) (v := 0) dL_areRunners_480 rfl ?_
        exact l_zret ext.rf dL_areRunners_481 rfl (Or.inl rfl) h
      · replace h := h.2 q_48
        refine sh_iload (pc := 360) dL_areRunners_360 rfl ?_
        obtain ⟨hb_49, h⟩ := h
        refine sh_if_ne (pc := 362) (tgt := 480) dL_areRunners_362 (by decide) hb_49  (fun q_50 => ?_) (fun q_50 => ?_)
        · replace h := h.1 q_50
          refine sh_iconst (pc := 480) (v := 0) dL_areRunners_480 rfl ?_
          exact l_zret ext.rf dL_areRunners_481 rfl (Or.inl rfl) h
        · replace h := h.2 q_50
          refine sh_iload (pc := 365) dL_areRunners_365 rfl ?_
          obtain ⟨hb_51, h⟩ := h
          refine sh_if_lt (pc := 367) (tgt := 480) dL_areRunners_367 (by decide) hb_51  (fun q_52 => ?_) (fun q_52 => ?_)
          · replace h := h.1 q_52
            refine sh_iconst (pc := 480) (v := 0) dL_areRunners_480 rfl ?_
            exact l_zret ext.rf dL_areRunners_481 rfl (Or.inl rfl) h
          · replace h := h.2 q_52
            refine sh_aload_n (pc := 370) dL_areRunners_370 rfl rfl ?_
            refine sh_iconst (pc := 371) (v := 0) dL_areRunners_371 rfl ?_
            refine l_F1 (pc := 372) hx dL_areRunners_372 lk_L_40 rfl h (fun v54 J53 h => ?_)
            refine sh_aload_n (pc := 375) dL_areRunners_375 rfl rfl ?_
            refine sh_iconst (pc := 376) (v := 0) dL_areRunners_376 rfl ?_
            refine l_ald (pc := 377) dL_areRunners_377 hN (by decide) ?_
            obtain ⟨ho_55, h⟩ := h
            refine l_icmp_ne (pc := 378) (tgt := 480) dL_areRunners_378 (by decide) ho_55 (fun q_56 => ?_) (fun q_56 => ?_)
            · replace h := h.1 q_56
              refine sh_iconst (pc := 480) (v := 0) dL_areRunners_480 rfl ?_
              exact l_zret ext.rf dL_areRunners_481 rfl (Or.inl rfl) h
            · replace h := h.2 q_56
              refine sh_aload_n (pc := 381) dL_areRunners_381 rfl rfl ?_
              refine sh_iconst (pc := 382) (v := 5) dL_areRunners_382 rfl ?_
              refine l_F1 (pc := 383) hx dL_areRunners_383 lk_L_40 rfl h (fun v58 J57 h => ?_)
              refine sh_iload (pc := 386) dL_areRunners_386 rfl ?_
              obtain ⟨ho_59, h⟩ := h
              refine l_icmp_ne (pc := 388) (tgt := 480) dL_areRunners_388 (by decide) ho_59 (fun q_60 => ?_) (fun q_60 => ?_)
              · replace h := h.1 q_60
                refine sh_iconst (pc := 480) (v := 0) dL_areRunners_480 rfl ?_
                exact l_zret ext.rf dL_areRunners_481 rfl (Or.inl rfl) h
              · replace h := h.2 q_60
                refine sh_aload_n (pc := 391) dL_areRunners_391 rfl rfl ?_
                refine sh_bipush (pc := 392) (v := 6) dL_areRunners_392 (by decide) ?_
                refine l_F1 (pc := 394) hx dL_areRunners_394 lk_L_40 rfl h (fun v62 J61 h => ?_)
                refine sh_aload_n (pc := 397) dL_areRunners_397 rfl rfl ?_
                refine sh_iconst (pc := 398) (v := 2) dL_areRunners_398 rfl ?_
                refine l_ald (pc := 399) dL_areRunners_399 hN (by decide) ?_
                obtain ⟨ho_63, h⟩ := h
                refine l_icmp_ne (pc := 400) (tgt := 480) dL_areRunners_400 (by decide) ho_63 (fun q_64 => ?_) (fun q_64 => ?_)
                · replace h := h.1 q_64
                  refine sh_iconst (pc := 480) (v := 0) dL_areRunners_480 rfl ?_
                  exact l_zret ext.rf dL_areRunners_481 rfl (Or.inl rfl) h
                · replace h := h.2 q_64
                  refine sh_aload_n (pc := 403) dL_areRunners_403 rfl rfl ?_
                  refine sh_bipush (pc := 404) (v := 7) dL_areRunners_404 (by decide) ?_
                  refine l_F1 (pc := 406) hx dL_areRunners_406 lk_L_40 rfl h (fun v66 J65 h => ?_)
                  refine sh_aload_n (pc := 409) dL_areRunners_409 rfl rfl ?_
                  refine sh_iconst (pc := 410) (v := 3) dL_areRunners_410 rfl ?_
                  refine l_ald (pc := 411) dL_areRunners_411 hN (by decide) ?_
                  obtain ⟨ho_67, h⟩ := h
                  refine l_icmp_ne (pc := 412) (tgt := 480) dL_areRunners_412 (by decide) ho_67 (fun q_68 => ?_) (fun q_68 => ?_)
                  · replace h := h.1 q_68
                    refine sh_iconst (pc := 480) (v := 0) dL_areRunners_480 rfl ?_
                    exact l_zret ext.rf dL_areRunners_481 rfl (Or.inl rfl) h
                  · replace h := h.2 q_68
                    refine sh_aload_n (pc := 415) dL_areRunners_415 rfl rfl ?_
                    refine sh_bipush (pc := 416) (v := 8) dL_areRunners_416 (by decide) ?_
                    refine l_F1 (pc := 418) hx dL_areRunners_418 lk_L_40 rfl h (fun v70 J69 h => ?_)
                    refine sh_aload_n (pc := 421) dL_areRunners_421 rfl rfl ?_
                    refine sh_iconst (pc := 422) (v := 4) dL_areRunners_422 rfl ?_
                    refine l_ald (pc := 423) dL_areRunners_423 hN (by decide) ?_
                    obtain ⟨ho_71, h⟩ := h
                    refine l_icmp_ne (pc := 424) (tgt := 480) dL_areRunners_424 (by decide) ho_71 (fun q_72 => ?_) (fun q_72 => ?_)
                    · replace h := h.1 q_72
                      refine sh_iconst (pc := 480) (v := 0) dL_areRunners_480 rfl ?_
                      exact l_zret ext.rf dL_areRunners_481 rfl (Or.inl rfl) h
                    · replace h := h.2 q_72
                      refine sh_aload_n (pc := 427) dL_areRunners_427 rfl rfl ?_
                      refine sh_bipush (pc := 428) (v := 9) dL_areRunners_428 (by decide) ?_
                      refine l_F1 (pc := 430) hx dL_areRunners_430 lk_L_40 rfl h (fun v74 J73 h => ?_)
                      refine sh_aload_n (pc := 433) dL_areRunners_433 rfl rfl ?_
                      refine sh_iconst (pc := 434) (v := 5) dL_areRunners_434 rfl ?_
                      refine l_ald (pc := 435) dL_areRunners_435 hN (by decide) ?_
                      obtain ⟨ho_75, h⟩ := h
                      refine l_icmp_ne (pc := 436) (tgt := 480) dL_areRunners_436 (by decide) ho_75 (fun q_76 => ?_) (fun q_76 => ?_)
                      · replace h := h.1 q_76
                        refine sh_iconst (pc := 480) (v := 0) dL_areRunners_480 rfl ?_
                        exact l_zret ext.rf dL_areRunners_481 rfl (Or.inl rfl) h
                      · replace h := h.2 q_76
                        refine sh_aload_n (pc := 439) dL_areRunners_439 rfl rfl ?_
                        refine sh_bipush (pc := 440) (v := 10) dL_areRunners_440 (by decide) ?_
                        refine l_F1 (pc := 442) hx dL_areRunners_442 lk_L_40 rfl h (fun v78 J77 h => ?_)
                        refine sh_aload_n (pc := 445) dL_areRunners_445 rfl rfl ?_
                        refine sh_bipush (pc := 446) (v := 6) dL_areRunners_446 (by decide) ?_
                        refine l_ald (pc := 448) dL_areRunners_448 hN (by decide) ?_
                        obtain ⟨ho_79, h⟩ := h
                        refine l_icmp_ne (pc := 449) (tgt := 480) dL_areRunners_449 (by decide) ho_79 (fun q_80 => ?_) (fun q_80 => ?_)
                        · replace h := h.1 q_80
                          refine sh_iconst (pc := 480) (v := 0) dL_areRunners_480 rfl ?_
                          exact l_zret ext.rf dL_areRunners_481 rfl (Or.inl rfl) h
                        · replace h := h.2 q_80
                          refine sh_aload_n (pc := 452) dL_areRunners_452 rfl rfl ?_
                          refine sh_bipush (pc := 453) (v := 11) dL_areRunners_453 (by decide) ?_
                          refine l_F1 (pc := 455) hx dL_areRunners_455 lk_L_40 rfl h (fun v82 J81 h => ?_)
                          refine sh_aload_n (pc := 458) dL_areRunners_458 rfl rfl ?_
                          refine sh_bipush (pc := 459) (v := 7) dL_areRunners_459 (by decide) ?_
                          refine l_ald (pc := 461) dL_areRunners_461 hN (by decide) ?_
                          obtain ⟨ho_83, h⟩ := h
                          refine l_icmp_ne (pc := 462) (tgt := 480) dL_areRunners_462 (by decide) ho_83 (fun q_84 => ?_) (fun q_84 => ?_)
                          · replace h := h.1 q_84
                            refine sh_iconst (pc := 480) (v := 0) dL_areRunners_480 rfl ?_
                            exact l_zret ext.rf dL_areRunners_481 rfl (Or.inl rfl) h
                          · replace h := h.2 q_84
                            refine sh_aload_n (pc := 465) dL_areRunners_465 rfl rfl ?_
                            refine sh_bipush (pc := 466) (v := 14) dL_areRunners_466 (by decide) ?_
                            refine l_F1 (pc := 468) hx dL_areRunners_468 lk_L_40 rfl h (fun v86 J85 h => ?_)
                            refine sh_bipush (pc := 471) (v := (-2)) dL_areRunners_471 (by decide) ?_
                            obtain ⟨ho_87, h⟩ := h
                            refine l_icmp_ne (pc := 473) (tgt := 480) dL_areRunners_473 (by decide) ho_87 (fun q_88 => ?_) (fun q_88 => ?_)
                            · replace h := h.1 q_88
                              refine sh_iconst (pc := 480) (v := 0) dL_areRunners_480 rfl ?_
                              exact l_zret ext.rf dL_areRunners_481 rfl (Or.inl rfl) h
                            · replace h := h.2 q_88
                              refine sh_iconst (pc := 476) (v := 1) dL_areRunners_476 rfl ?_
                              refine sh_goto (pc := 477) (tgt := 481) dL_areRunners_477 (by decide) ?_
                              exact l_zret ext.rf dL_areRunners_481 rfl (Or.inr rfl) h
    · replace h := h.2 q_47
      refine sh_iconst (pc := 81) (v := 0) dL_areRunners_81 rfl ?_
      refine k_istore (pc := 82) [some (.inr 1), some (.inr G), some (.inr L), some (.inr N), some (.inl y4), some (.inl y5), some (.inl y6), some (.inl y7), some (.inl y8), some (.inl 0), none] dL_areRunners_82 rfl (by decide) ?_
      exact sh_O.locals h (sub_some (sub_some (sub_some (sub_some (sub_some (sub_some (sub_some (sub_some (sub_some (sub_some (sub_none sub_nil)))))))))))
set_option maxRecDepth 100000 in
set_option maxHeartbeats 4000000 in
theorem lL_areRunners_84 {c : sh_Cx} (hx : cx c) {G : Nat} (hG : dy c G 42) {L : Nat} (hL : dy c L 12) {N : Nat} (hN : dy c N 9) {y4 : Int} {y5 : Int} {y6 : Int} {y7 : Int} {y8 : Int} {y9 : Int} {I : sh_Mem} {Q : Int → sh_Mem → Prop} (h : (sh_Bd y9 ∧ ((7 ≤ y9 → (cl c mL_cells [.inr G, .inr L, .inr N, .inl y8] I (li c fun v4 J3 => (sh_Bd y4 ∧ ((y4 = 0 → kl c (0, 0) mL_areRunners 191 [some (.inr 1), some (.inr G), some (.inr L), some (.inr N), none, some (.inl y5), some (.inl y6), some (.inl y7), some (.inl y8), some (.inl v4), none] [] J3 (qli c Q)) ∧ (¬ y4 = 0 → (cc mX6_runner [.inr 1, .inl y8, .inl 7] J3 (qi fun v8 J7 => ((v8 = v4 ∨ (sh_Bd v8 ∧ sh_Bd v4)) ∧ ((¬ v8 = v4 → kl c (0, 0) mL_areRunners 191 [some (.inr 1), some (.inr G), some (.inr L), some (.inr N), none, some (.inl y5), some (.inl y6), some (.inl y7), some (.inl y8), some (.inl v4), none] [] (mxM J7 J3) (qli c Q)) ∧ (v8 = v4 → (cc mX6_runner [.inr 1, .inl y8, .inl 8] (mxM J7 J3) (qi fun v12 J11 => ((v12 = (-2) ∨ (sh_Bd v12 ∧ sh_Bd (-2))) ∧ ((¬ v12 = (-2) → kl c (0, 0) mL_areRunners 191 [some (.inr 1), some (.inr G), some (.inr L), some (.inr N), none, some (.inl y5), some (.inl y6), some (.inl y7), some (.inl y8), some (.inl v4), none] [] (mxM J11 (mxM J7 J3)) (qli c Q)) ∧ (v12 = (-2) → ((0 ≤ (7 * y8) ∧ (7 * y8) < (42 : Int)) ∧ (cc mX6_at [.inr 1, .inl ((mxM J11 (mxM J7 J3)) G (7 * y8))] (mxM J11 (mxM J7 J3)) (qi fun v17 J16 => ((v17 = y8 ∨ (sh_Bd v17 ∧ sh_Bd y8)) ∧ ((¬ v17 = y8 → kl c (0, 0) mL_areRunners 191 [some (.inr 1), some (.inr G), some (.inr L), some (.inr N), none, some (.inl y5), some (.inl y6), some (.inl y7), some (.inl y8), some (.inl v4), none] [] (mxM J16 (mxM J11 (mxM J7 J3))) (qli c Q)) ∧ (v17 = y8 → (sh_Bd v4 ∧ ((¬ v4 = 0 → kl c (0, 0) mL_areRunners 206 [some (.inr 1), some (.inr G), some (.inr L), some (.inr N), some (.inl 1), none, some (.inl y6), some (.inl y7), some (.inl y8), some (.inl v4), none] [.inl 0, .inl y5] (mxM J16 (mxM J11 (mxM J7 J3))) (qli c Q)) ∧ (v4 = 0 → kl c (0, 0) mL_areRunners 206 [some (.inr 1), some (.inr G), some (.inr L), some (.inr N), some (.inl 1), none, some (.inl y6), some (.inl y7), some (.inl y8), some (.inl v4), none] [.inl 1, .inl y5] (mxM J16 (mxM J11 (mxM J7 J3))) (qli c Q)))))))))))))))))))))))))) ∧ (y9 < 7 → (sh_Bd y4 ∧ ((y4 = 0 → kl c (0, 0) mL_areRunners 84 [some (.inr 1), some (.inr G), some (.inr L), some (.inr N), some (.inl 0), some (.inl y5), some (.inl y6), some (.inl y7), some (.inl y8), some (.inl (y9 + 1)), none] [] I (qli c Q)) ∧ (¬ y4 = 0 → (cc mX6_runner [.inr 1, .inl y8, .inl y9] I (qi fun v25 J24 => ((0 ≤ ((7 * y8) + y9) ∧ ((7 * y8) + y9) < (42 : Int)) ∧ ((v25 = ((mxM J24 I) G ((7 * y8) + y9)) ∨ (sh_Bd v25 ∧ sh_Bd ((mxM J24 I) G ((7 * y8) + y9)))) ∧ ((¬ v25 = ((mxM J24 I) G ((7 * y8) + y9)) → kl c (0, 0) mL_areRunners 84 [some (.inr 1), some (.inr G), some (.inr L), some (.inr N), some (.inl 0), some (.inl y5), some (.inl y6), some (.inl y7), some (.inl y8), some (.inl (y9 + 1)), none] [] (mxM J24 I) (qli c Q)) ∧ (v25 = ((mxM J24 I) G ((7 * y8) + y9)) → kl c (0, 0) mL_areRunners 84 [some (.inr 1), some (.inr G), some (.inr L), some (.inr N), some (.inl 1), some (.inl y5), some (.inl y6), some (.inl y7), some (.inl y8), some (.inl (y9 + 1)), none] [] (mxM J24 I) (qli c Q)))))))))))))) : kl c (0, 0) mL_areRunners 84 [some (.inr 1), some (.inr G), some (.inr L), some (.inr N), some (.inl y4), some (.inl y5), some (.inl y6), some (.inl y7), some (.inl y8), some (.inl y9), none] [] I (qli c Q) := by
  refine sh_iload (pc := 84) dL_areRunners_84 rfl ?_
  refine sh_bipush (pc := 86) (v := 7) dL_areRunners_86 (by decide) ?_
  obtain ⟨hb_1, h⟩ := h
  refine sh_icmp_ge (pc := 88) (tgt := 130) dL_areRunners_88 (by decide) hb_1 (bd_lit (by decide)) (fun q_2 => ?_) (fun q_2 => ?_)
  · replace h := h.1 q_2
    refine sh_aload_n (pc := 130) dL_areRunners_130 rfl rfl ?_
    refine sh_aload_n (pc := 131) dL_areRunners_131 rfl rfl ?_
    refine sh_aload_n (pc := 132) dL_areRunners_132 rfl rfl ?_
    refine sh_iload (pc := 133) dL_areRunners_133 rfl ?_
    refine l_S4i (pc := 135) dL_areRunners_135 lk_L_44 rfl h (fun v4 J3 h => ?_)
    refine k_istore (pc := 138) [some (.inr 1), some (.inr G), some (.inr L), some (.inr N), some (.inl y4), some (.inl y5), some (.inl y6), some (.inl y7), some (.inl y8), some (.inl v4), none] dL_areRunners_138 rfl (by decide) ?_
    refine sh_iload (pc := 140) dL_areRunners_140 rfl ?_
    obtain ⟨hb_5, h⟩ := h
    refine sh_if_eq (pc := 142) (tgt := 191) dL_areRunners_142 (by decide) hb_5  (fun q_6 => ?_) (fun q_6 => ?_)
    · replace h := h.1 q_6
      exact sh_O.locals h (sub_some (sub_some (sub_some (sub_some (sub_none (sub_some (sub_some (sub_some (sub_some (sub_some (sub_none sub_nil)))))))))))
    · replace h := h.2 q_6
      refine sh_aload_n (pc := 145) dL_areRunners_145 rfl rfl ?_
      refine sh_iload (pc := 146) dL_areRunners_146 rfl ?_
      refine sh_bipush (pc := 148) (v := 7) dL_areRunners_148 (by decide) ?_
      refine l_F2 (pc := 150) hx dL_areRunners_150 lk_L_35 rfl h (fun v8 J7 h => ?_)
      refine sh_iload (pc := 153) dL_areRunners_153 rfl ?_
      obtain ⟨ho_9, h⟩ := h
      refine l_icmp_ne (pc := 155) (tgt := 191) dL_areRunners_155 (by decide) ho_9 (fun q_10 => ?_) (fun q_10 => ?_)
      · replace h := h.1 q_10
        exact sh_O.locals h (sub_some (sub_some (sub_some (sub_some (sub_none (sub_some (sub_some (sub_some (sub_some (sub_some (sub_none sub_nil)))))))))))
      · replace h := h.2 q_10
        refine sh_aload_n (pc := 158) dL_areRunners_158 rfl rfl ?_
        refine sh_iload (pc := 159) dL_areRunners_159 rfl ?_
        refine sh_bipush (pc := 161) (v := 8) dL_areRunners_161 (by decide) ?_
        refine l_F2 (pc := 163) hx dL_areRunners_163 lk_L_35 rfl h (fun v12 J11 h => ?_)
        refine sh_bipush (pc := 166) (v := (-2)) dL_areRunners_166 (by decide) ?_
        obtain ⟨ho_13, h⟩ := h
        refine l_icmp_ne (pc := 168) (tgt := 191) dL_areRunners_168 (by decide) ho_13 (fun q_14 => ?_) (fun q_14 => ?_)
        · replace h := h.1 q_14
          exact sh_O.locals h (sub_some (sub_some (sub_some (sub_some (sub_none (sub_some (sub_some (sub_some (sub_some (sub_some (sub_none sub_nil)))))))))))
        · replace h := h.2 q_14
          refine sh_aload_n (pc := 171) dL_areRunners_171 rfl rfl ?_
          refine sh_aload_n (pc := 172) dL_areRunners_172 rfl rfl ?_
          refine sh_bipush (pc := 173) (v := 7) dL_areRunners_173 (by decide) ?_
          refine sh_iload (pc := 175) dL_areRunners_175 rfl ?_
          refine sh_imul (pc := 177) dL_areRunners_177 ?_
          obtain ⟨hi_15, h⟩ := h
          refine l_ald (pc := 178) dL_areRunners_178 hG hi_15 ?_
          refine l_F1 (pc := 179) hx dL_areRunners_179 lk_L_48 rfl h (fun v17 J16 h => ?_)
          refine sh_iload (pc := 182) dL_areRunners_182 rfl ?_
          obtain ⟨ho_18, h⟩ := h
          refine l_icmp_ne (pc := 184) (tgt := 191) dL_areRunners_184 (by decide) ho_18 (fun q_19 => ?_) (fun q_19 => ?_)
          · replace h := h.1 q_19
            exact sh_O.locals h (sub_some (sub_some (sub_some (sub_some (sub_none (sub_some (sub_some (sub_some (sub_some (sub_some (sub_none sub_nil)))))))))))
          · replace h := h.2 q_19
            refine sh_iconst (pc := 187) (v := 1) dL_areRunners_187 rfl ?_
            refine sh_goto (pc := 188) (tgt := 192) dL_areRunners_188 (by decide) ?_
            refine k_istore (pc := 192) [some (.inr 1), some (.inr G), some (.inr L), some (.inr N), some (.inl 1), some (.inl y5), some (.inl y6), some (.inl y7), some (.inl y8), some (.inl v4), none] dL_areRunners_192 rfl (by decide) ?_
            refine sh_iload (pc := 194) dL_areRunners_194 rfl ?_
            refine sh_iload (pc := 196) dL_areRunners_196 rfl ?_
            obtain ⟨hb_20, h⟩ := h
            refine sh_if_ne (pc := 198) (tgt := 205) dL_areRunners_198 (by decide) hb_20  (fun q_21 => ?_) (fun q_21 => ?_)
            · replace h := h.1 q_21
              refine sh_iconst (pc := 205) (v := 0) dL_areRunners_205 rfl ?_
              exact sh_O.locals h (sub_some (sub_some (sub_some (sub_some (sub_some (sub_none (sub_some (sub_some (sub_some (sub_some (sub_none sub_nil)))))))))))
            · replace h := h.2 q_21
              refine sh_iconst (pc := 201) (v := 1) dL_areRunners_201 rfl ?_
              refine sh_goto (pc := 202) (tgt := 206) dL_areRunners_202 (by decide) ?_
              exact sh_O.locals h (sub_some (sub_some (sub_some (sub_some (sub_some (sub_none (sub_some (sub_some (sub_some (sub_some (sub_none sub_nil)))))))))))
  · replace h := h.2 q_2
    refine sh_iload (pc := 91) dL_areRunners_91 rfl ?_
    obtain ⟨hb_22, h⟩ := h
    refine sh_if_eq (pc := 93) (tgt := 121) dL_areRunners_93 (by decide) hb_22  (fun q_23 => ?_) (fun q_23 => ?_)
    · replace h := h.1 q_23
      refine sh_iconst (pc := 121) (v := 0) dL_areRunners_121 rfl ?_
      refine k_istore (pc := 122) [some (.inr 1), some (.inr G), some (.inr L), some (.inr N), some (.inl 0), some (.inl y5), some (.inl y6), some (.inl y7), some (.inl y8), some (.inl y9), none] dL_areRunners_122 rfl (by decide) ?_
      refine k_iinc (pc := 124) [some (.inr 1), some (.inr G), some (.inr L), some (.inr N), some (.inl 0), some (.inl y5), some (.inl y6), some (.inl y7), some (.inl y8), some (.inl (y9 + 1)), none] dL_areRunners_124 rfl rfl (by decide) ?_
      refine sh_goto (pc := 127) (tgt := 84) dL_areRunners_127 (by decide) ?_
      exact sh_O.locals h (sub_some (sub_some (sub_some (sub_some (sub_some (sub_some (sub_some (sub_some (sub_some (sub_some (sub_none sub_nil)))))))))))
    · replace h := h.2 q_23
      refine sh_aload_n (pc := 96) dL_areRunners_96 rfl rfl ?_
      refine sh_iload (pc := 97) dL_areRunners_97 rfl ?_
      refine sh_iload (pc := 99) dL_areRunners_99 rfl ?_
      refine l_F2 (pc := 101) hx dL_areRunners_101 lk_L_35 rfl h (fun v25 J24 h => ?_)
      refine sh_aload_n (pc := 104) dL_areRunners_104 rfl rfl ?_
      refine sh_bipush (pc := 105) (v := 7) dL_areRunners_105 (by decide) ?_
      refine sh_iload (pc := 107) dL_areRunners_107 rfl ?_
      refine sh_imul (pc := 109) dL_areRunners_109 ?_
      refine sh_iload (pc := 110) dL_areRunners_110 rfl ?_
      refine sh_iadd (pc := 112) dL_areRunners_112 ?_
      obtain ⟨hi_26, h⟩ := h
      refine l_ald (pc := 113) dL_areRunners_113 hG hi_26 ?_
      obtain ⟨ho_27, h⟩ := h
      refine l_icmp_ne (pc := 114) (tgt := 121) dL_areRunners_114 (by decide) ho_27 (fun q_28 => ?_) (fun q_28 => ?_)
      · replace h := h.1 q_28
        refine sh_iconst (pc := 121) (v := 0) dL_areRunners_121 rfl ?_
        refine k_istore (pc := 122) [some (.inr 1), some (.inr G), some (.inr L), some (.inr N), some (.inl 0), some (.inl y5), some (.inl y6), some (.inl y7), some (.inl y8), some (.inl y9), none] dL_areRunners_122 rfl (by decide) ?_
        refine k_iinc (pc := 124) [some (.inr 1), some (.inr G), some (.inr L), some (.inr N), some (.inl 0), some (.inl y5), some (.inl y6), some (.inl y7), some (.inl y8), some (.inl (y9 + 1)), none] dL_areRunners_124 rfl rfl (by decide) ?_
        refine sh_goto (pc := 127) (tgt := 84) dL_areRunners_127 (by decide) ?_
        exact sh_O.locals h (sub_some (sub_some (sub_some (sub_some (sub_some (sub_some (sub_some (sub_some (sub_some (sub_some (sub_none sub_nil)))))))))))
      · replace h := h.2 q_28
        refine sh_iconst (pc := 117) (v := 1) dL_areRunners_117 rfl ?_
        refine sh_goto (pc := 118) (tgt := 122) dL_areRunners_118 (by decide) ?_
        refine k_istore (pc := 122) [some (.inr 1), some (.inr G), some (.inr L), some (.inr N), some (.inl 1), some (.inl y5), some (.inl y6), some (.inl y7), some (.inl y8), some (.inl y9), none] dL_areRunners_122 rfl (by decide) ?_
        refine k_iinc (pc := 124) [some (.inr 1), some (.inr G), some (.inr L), some (.inr N), some (.inl 1), some (.inl y5), some (.inl y6), some (.inl y7), some (.inl y8), some (.inl (y9 + 1)), none] dL_areRunners_124 rfl rfl (by decide) ?_
        refine sh_goto (pc := 127) (tgt := 84) dL_areRunners_127 (by decide) ?_
        exact sh_O.locals h (sub_some (sub_some (sub_some (sub_some (sub_some (sub_some (sub_some (sub_some (sub_some (sub_some (sub_none sub_nil)))))))))))
set_option maxRecDepth 100000 in
set_option maxHeartbeats 4000000 in
theorem lL_areRunners_191 {c : sh_Cx} (hx : cx c) {G : Nat} (hG : dy c G 42) {L : Nat} (hL : dy c L 12) {N : Nat} (hN : dy c N 9) {y5 : Int} {y6 : Int} {y7 : Int} {y8 : Int} {y9 : Int} {I : sh_Mem} {Q : Int → sh_Mem → Prop} (h : (sh_Bd y9 ∧ ((¬ y9 = 0 → kl c (0, 0) mL_areRunners 206 [some (.inr 1), some (.inr G), some (.inr L), some (.inr N), some (.inl 0), none, some (.inl y6), some (.inl y7), some (.inl y8), some (.inl y9), none] [.inl 0, .inl y5] I (qli c Q)) ∧ (y9 = 0 → kl c (0, 0) mL_areRunners 206 [some (.inr 1), some (.inr G), some (.inr L), some (.inr N), some (.inl 0), none, some (.inl y6), some (.inl y7), some (.inl y8), some (.inl y9), none] [.inl 1, .inl y5] I (qli c Q))))) : kl c (0, 0) mL_areRunners 191 [some (.inr 1), some (.inr G), some (.inr L), some (.inr N), none, some (.inl y5), some (.inl y6), some (.inl y7), some (.inl y8), some (.inl y9), none] [] I (qli c Q) := by
  refine sh_iconst (pc := 191) (v := 0) dL_areRunners_191 rfl ?_
  refine k_istore (pc := 192) [some (.inr 1), some (.inr G), some (.inr L), some (.inr N), some (.inl 0), some (.inl y5), some (.inl y6), some (.inl y7), some (.inl y8), some (.inl y9), none] dL_areRunners_192 rfl (by decide) ?_
  refine sh_iload (pc := 194) dL_areRunners_194 rfl ?_
  refine sh_iload (pc := 196) dL_areRunners_196 rfl ?_
  obtain ⟨hb_1, h⟩ := h
  refine sh_if_ne (pc := 198) (tgt := 205) dL_areRunners_198 (by decide) hb_1  (fun q_2 => ?_) (fun q_2 => ?_)
  · replace h := h.1 q_2
    refine sh_iconst (pc := 205) (v := 0) dL_areRunners_205 rfl ?_
    exact sh_O.locals h (sub_some (sub_some (sub_some (sub_some (sub_some (sub_none (sub_some (sub_some (sub_some (sub_some (sub_none sub_nil)))))))))))
  · replace h := h.2 q_2
    refine sh_iconst (pc := 201) (v := 1) dL_areRunners_201 rfl ?_
    refine sh_goto (pc := 202) (tgt := 206) dL_areRunners_202 (by decide) ?_
    exact sh_O.locals h (sub_some (sub_some (sub_some (sub_some (sub_some (sub_none (sub_some (sub_some (sub_some (sub_some (sub_none sub_nil)))))))))))
set_option maxRecDepth 100000 in
set_option maxHeartbeats 4000000 in
theorem lL_areRunners_206 {c : sh_Cx} (hx : cx c) {G : Nat} (hG : dy c G 42) {L : Nat} (hL : dy c L 12) {N : Nat} (hN : dy c N 9) {y4 : Int} {y6 : Int} {y7 : Int} {y8 : Int} {y9 : Int} {z0 : Int} {z1 : Int} {I : sh_Mem} {Q : Int → sh_Mem → Prop} (h : ((0 ≤ ((7 * y8) + 6) ∧ ((7 * y8) + 6) < (42 : Int)) ∧ ((0 ≤ ((7 * y8) + 4) ∧ ((7 * y8) + 4) < (42 : Int)) ∧ ((0 ≤ ((7 * y8) + 5) ∧ ((7 * y8) + 5) < (42 : Int)) ∧ ((y8 = (I N 1) ∨ (sh_Bd y8 ∧ sh_Bd (I N 1))) ∧ ((¬ y8 = (I N 1) → (sh_Bd y9 ∧ ((¬ y9 = 0 → ((0 ≤ ((7 * y8) + 3) ∧ ((7 * y8) + 3) < (42 : Int)) ∧ (sh_Bd (I G ((7 * y8) + 3)) ∧ (((I G ((7 * y8) + 3)) ≤ 0 → ((0 ≤ (7 * (I N 1)) ∧ (7 * (I N 1)) < (42 : Int)) ∧ (cl c mL_shaded [.inr G, .inr L, .inr N, .inl y8, .inl (I G (7 * (I N 1)))] I (li c fun v13 J12 => ((v13 = 1 ∧ (cl c mL_tagged [.inr G, .inr L, .inr N] J12 (li c fun v15 J14 => ((v15 = y8 ∨ (sh_Bd v15 ∧ sh_Bd y8)) ∧ ((¬ v15 = y8 → kl c (0, 0) mL_areRunners 324 [some (.inr 1), some (.inr G), some (.inr L), some (.inr N), some (.inl y4), some (.inl (z0 + z1)), some (.inl (y6 + (I G ((7 * y8) + 6)))), some (.inl (y7 + ((I G ((7 * y8) + 4)) - (I G ((7 * y8) + 5))))), some (.inl y8), none, none] [.inl 5] J14 (qli c Q)) ∧ (v15 = y8 → kl c (0, 0) mL_areRunners 324 [some (.inr 1), some (.inr G), some (.inr L), some (.inr N), some (.inl y4), some (.inl (z0 + z1)), some (.inl (y6 + (I G ((7 * y8) + 6)))), some (.inl (y7 + ((I G ((7 * y8) + 4)) - (I G ((7 * y8) + 5))))), some (.inl y8), none, none] [.inl 0] J14 (qli c Q))))))) ∨ (v13 = 0 ∧ kl c (0, 0) mL_areRunners 324 [some (.inr 1), some (.inr G), some (.inr L), some (.inr N), some (.inl y4), some (.inl (z0 + z1)), some (.inl (y6 + (I G ((7 * y8) + 6)))), some (.inl (y7 + ((I G ((7 * y8) + 4)) - (I G ((7 * y8) + 5))))), some (.inl y8), none, none] [.inl 4] J12 (qli c Q))))))) ∧ (0 < (I G ((7 * y8) + 3)) → kl c (0, 0) mL_areRunners 324 [some (.inr 1), some (.inr G), some (.inr L), some (.inr N), some (.inl y4), some (.inl (z0 + z1)), some (.inl (y6 + (I G ((7 * y8) + 6)))), some (.inl (y7 + ((I G ((7 * y8) + 4)) - (I G ((7 * y8) + 5))))), some (.inl y8), none, none] [.inl 3] I (qli c Q)))))) ∧ (y9 = 0 → kl c (0, 0) mL_areRunners 324 [some (.inr 1), some (.inr G), some (.inr L), some (.inr N), some (.inl y4), some (.inl (z0 + z1)), some (.inl (y6 + (I G ((7 * y8) + 6)))), some (.inl (y7 + ((I G ((7 * y8) + 4)) - (I G ((7 * y8) + 5))))), some (.inl y8), none, none] [.inl 2] I (qli c Q))))) ∧ (y8 = (I N 1) → kl c (0, 0) mL_areRunners 324 [some (.inr 1), some (.inr G), some (.inr L), some (.inr N), some (.inl y4), some (.inl (z0 + z1)), some (.inl (y6 + (I G ((7 * y8) + 6)))), some (.inl (y7 + ((I G ((7 * y8) + 4)) - (I G ((7 * y8) + 5))))), some (.inl y8), none, none] [.inl 1] I (qli c Q)))))))) : kl c (0, 0) mL_areRunners 206 [some (.inr 1), some (.inr G), some (.inr L), some (.inr N), some (.inl y4), none, some (.inl y6), some (.inl y7), some (.inl y8), some (.inl y9), none] [.inl z1, .inl z0] I (qli c Q) := by
  refine sh_iadd (pc := 206) dL_areRunners_206 ?_
  refine k_istore (pc := 207) [some (.inr 1), some (.inr G), some (.inr L), some (.inr N), some (.inl y4), some (.inl (z0 + z1)), some (.inl y6), some (.inl y7), some (.inl y8), some (.inl y9), none] dL_areRunners_207 rfl (by decide) ?_
  refine sh_iload (pc := 209) dL_areRunners_209 rfl ?_
  refine sh_aload_n (pc := 211) dL_areRunners_211 rfl rfl ?_
  refine sh_bipush (pc := 212) (v := 7) dL_areRunners_212 (by decide) ?_
  refine sh_iload (pc := 214) dL_areRunners_214 rfl ?_
  refine sh_imul (pc := 216) dL_areRunners_216 ?_
  refine sh_bipush (pc := 217) (v := 6) dL_areRunners_217 (by decide) ?_
  refine sh_iadd (pc := 219) dL_areRunners_219 ?_
  obtain ⟨hi_1, h⟩ := h
  refine l_ald (pc := 220) dL_areRunners_220 hG hi_1 ?_
  refine sh_iadd (pc := 221) dL_areRunners_221 ?_
  refine k_istore (pc := 222) [some (.inr 1), some (.inr G), some (.inr L), some (.inr N), some (.inl y4), some (.inl (z0 + z1)), some (.inl (y6 + (I G ((7 * y8) + 6)))), some (.inl y7), some (.inl y8), some (.inl y9), none] dL_areRunners_222 rfl (by decide) ?_
  refine sh_iload (pc := 224) dL_areRunners_224 rfl ?_
  refine sh_aload_n (pc := 226) dL_areRunners_226 rfl rfl ?_
  refine sh_bipush (pc := 227) (v := 7) dL_areRunners_227 (by decide) ?_
  refine sh_iload (pc := 229) dL_areRunners_229 rfl ?_
  refine sh_imul (pc := 231) dL_areRunners_231 ?_
  refine sh_iconst (pc := 232) (v := 4) dL_areRunners_232 rfl ?_
  refine sh_iadd (pc := 233) dL_areRunners_233 ?_
  obtain ⟨hi_2, h⟩ := h
  refine l_ald (pc := 234) dL_areRunners_234 hG hi_2 ?_
  refine sh_aload_n (pc := 235) dL_areRunners_235 rfl rfl ?_
  refine sh_bipush (pc := 236) (v := 7) dL_areRunners_236 (by decide) ?_
  refine sh_iload (pc := 238) dL_areRunners_238 rfl ?_
  refine sh_imul (pc := 240) dL_areRunners_240 ?_
  refine sh_iconst (pc := 241) (v := 5) dL_areRunners_241 rfl ?_
  refine sh_iadd (pc := 242) dL_areRunners_242 ?_
  obtain ⟨hi_3, h⟩ := h
  refine l_ald (pc := 243) dL_areRunners_243 hG hi_3 ?_
  refine sh_isub (pc := 244) dL_areRunners_244 ?_
  refine sh_iadd (pc := 245) dL_areRunners_245 ?_
  refine k_istore (pc := 246) [some (.inr 1), some (.inr G), some (.inr L), some (.inr N), some (.inl y4), some (.inl (z0 + z1)), some (.inl (y6 + (I G ((7 * y8) + 6)))), some (.inl (y7 + ((I G ((7 * y8) + 4)) - (I G ((7 * y8) + 5))))), some (.inl y8), some (.inl y9), none] dL_areRunners_246 rfl (by decide) ?_
  refine sh_iload (pc := 248) dL_areRunners_248 rfl ?_
  refine sh_aload_n (pc := 250) dL_areRunners_250 rfl rfl ?_
  refine sh_iconst (pc := 251) (v := 1) dL_areRunners_251 rfl ?_
  refine l_ald (pc := 252) dL_areRunners_252 hN (by decide) ?_
  obtain ⟨ho_4, h⟩ := h
  refine l_icmp_ne (pc := 253) (tgt := 260) dL_areRunners_253 (by decide) ho_4 (fun q_5 => ?_) (fun q_5 => ?_)
  · replace h := h.1 q_5
    refine sh_iload (pc := 260) dL_areRunners_260 rfl ?_
    obtain ⟨hb_6, h⟩ := h
    refine sh_if_ne (pc := 262) (tgt := 269) dL_areRunners_262 (by decide) hb_6  (fun q_7 => ?_) (fun q_7 => ?_)
    · replace h := h.1 q_7
      refine sh_aload_n (pc := 269) dL_areRunners_269 rfl rfl ?_
      refine sh_bipush (pc := 270) (v := 7) dL_areRunners_270 (by decide) ?_
      refine sh_iload (pc := 272) dL_areRunners_272 rfl ?_
      refine sh_imul (pc := 274) dL_areRunners_274 ?_
      refine sh_iconst (pc := 275) (v := 3) dL_areRunners_275 rfl ?_
      refine sh_iadd (pc := 276) dL_areRunners_276 ?_
      obtain ⟨hi_8, h⟩ := h
      refine l_ald (pc := 277) dL_areRunners_277 hG hi_8 ?_
      obtain ⟨hb_9, h⟩ := h
      refine sh_if_le (pc := 278) (tgt := 285) dL_areRunners_278 (by decide) hb_9  (fun q_10 => ?_) (fun q_10 => ?_)
      · replace h := h.1 q_10
        refine sh_aload_n (pc := 285) dL_areRunners_285 rfl rfl ?_
        refine sh_aload_n (pc := 286) dL_areRunners_286 rfl rfl ?_
        refine sh_aload_n (pc := 287) dL_areRunners_287 rfl rfl ?_
        refine sh_iload (pc := 288) dL_areRunners_288 rfl ?_
        refine sh_aload_n (pc := 290) dL_areRunners_290 rfl rfl ?_
        refine sh_bipush (pc := 291) (v := 7) dL_areRunners_291 (by decide) ?_
        refine sh_aload_n (pc := 293) dL_areRunners_293 rfl rfl ?_
        refine sh_iconst (pc := 294) (v := 1) dL_areRunners_294 rfl ?_
        refine l_ald (pc := 295) dL_areRunners_295 hN (by decide) ?_
        refine sh_imul (pc := 296) dL_areRunners_296 ?_
        obtain ⟨hi_11, h⟩ := h
        refine l_ald (pc := 297) dL_areRunners_297 hG hi_11 ?_
        refine l_S5i (pc := 298) dL_areRunners_298 lk_L_19 rfl h (fun v13 J12 h => ?_)
        rcases h with ⟨rfl, h⟩ | ⟨rfl, h⟩
        · skip
          refine sh_if_ne (pc := 301) (tgt := 308) dL_areRunners_301 (by decide) (bd_lit (by decide)) (fun qz => ?_) (fun qz => ?_)
          · skip
            refine sh_aload_n (pc := 308) dL_areRunners_308 rfl rfl ?_
            refine sh_aload_n (pc := 309) dL_areRunners_309 rfl rfl ?_
            refine sh_aload_n (pc := 310) dL_areRunners_310 rfl rfl ?_
            refine l_S3i (pc := 311) dL_areRunners_311 lk_L_31 rfl h (fun v15 J14 h => ?_)
            refine sh_iload (pc := 314) dL_areRunners_314 rfl ?_
            obtain ⟨ho_16, h⟩ := h
            refine l_icmp_ne (pc := 316) (tgt := 323) dL_areRunners_316 (by decide) ho_16 (fun q_17 => ?_) (fun q_17 => ?_)
            · replace h := h.1 q_17
              refine sh_iconst (pc := 323) (v := 5) dL_areRunners_323 rfl ?_
              exact sh_O.locals h (sub_some (sub_some (sub_some (sub_some (sub_some (sub_some (sub_some (sub_some (sub_some (sub_none (sub_none sub_nil)))))))))))
            · replace h := h.2 q_17
              refine sh_iconst (pc := 319) (v := 0) dL_areRunners_319 rfl ?_
              refine sh_goto (pc := 320) (tgt := 324) dL_areRunners_320 (by decide) ?_
              exact sh_O.locals h (sub_some (sub_some (sub_some (sub_some (sub_some (sub_some (sub_some (sub_some (sub_some (sub_none (sub_none sub_nil)))))))))))
          · exact absurd qz (by decide)
        · skip
          refine sh_if_ne (pc := 301) (tgt := 308) dL_areRunners_301 (by decide) (bd_lit (by decide)) (fun qz => ?_) (fun qz => ?_)
          · exact absurd qz (by decide)
          · skip
            refine sh_iconst (pc := 304) (v := 4) dL_areRunners_304 rfl ?_
            refine sh_goto (pc := 305) (tgt := 324) dL_areRunners_305 (by decide) ?_
            exact sh_O.locals h (sub_some (sub_some (sub_some (sub_some (sub_some (sub_some (sub_some (sub_some (sub_some (sub_none (sub_none sub_nil)))))))))))
      · replace h := h.2 q_10
        refine sh_iconst (pc := 281) (v := 3) dL_areRunners_281 rfl ?_
        refine sh_goto (pc := 282) (tgt := 324) dL_areRunners_282 (by decide) ?_
        exact sh_O.locals h (sub_some (sub_some (sub_some (sub_some (sub_some (sub_some (sub_some (sub_some (sub_some (sub_none (sub_none sub_nil)))))))))))
    · replace h := h.2 q_7
      refine sh_iconst (pc := 265) (v := 2) dL_areRunners_265 rfl ?_
      refine sh_goto (pc := 266) (tgt := 324) dL_areRunners_266 (by decide) ?_
      exact sh_O.locals h (sub_some (sub_some (sub_some (sub_some (sub_some (sub_some (sub_some (sub_some (sub_some (sub_none (sub_none sub_nil)))))))))))
  · replace h := h.2 q_5
    refine sh_iconst (pc := 256) (v := 1) dL_areRunners_256 rfl ?_
    refine sh_goto (pc := 257) (tgt := 324) dL_areRunners_257 (by decide) ?_
    exact sh_O.locals h (sub_some (sub_some (sub_some (sub_some (sub_some (sub_some (sub_some (sub_some (sub_some (sub_none (sub_none sub_nil)))))))))))
set_option maxRecDepth 100000 in
set_option maxHeartbeats 4000000 in
theorem lL_areRunners_324 {c : sh_Cx} (hx : cx c) {G : Nat} (hG : dy c G 42) {L : Nat} (hL : dy c L 12) {N : Nat} (hN : dy c N 9) {y4 : Int} {y5 : Int} {y6 : Int} {y7 : Int} {y8 : Int} {z0 : Int} {I : sh_Mem} {Q : Int → sh_Mem → Prop} (h : (sh_Bd y4 ∧ ((y4 = 0 → kl c (0, 0) mL_areRunners 67 [some (.inr 1), some (.inr G), some (.inr L), some (.inr N), some (.inl 0), some (.inl y5), some (.inl y6), some (.inl y7), some (.inl (y8 + 1)), none, none] [] I (qli c Q)) ∧ (¬ y4 = 0 → (cc mX6_reason [.inr 1, .inl y8] I (qi fun v4 J3 => ((v4 = z0 ∨ (sh_Bd v4 ∧ sh_Bd z0)) ∧ ((¬ v4 = z0 → kl c (0, 0) mL_areRunners 67 [some (.inr 1), some (.inr G), some (.inr L), some (.inr N), some (.inl 0), some (.inl y5), some (.inl y6), some (.inl y7), some (.inl (y8 + 1)), none, none] [] (mxM J3 I) (qli c Q)) ∧ (v4 = z0 → kl c (0, 0) mL_areRunners 67 [some (.inr 1), some (.inr G), some (.inr L), some (.inr N), some (.inl 1), some (.inl y5), some (.inl y6), some (.inl y7), some (.inl (y8 + 1)), none, none] [] (mxM J3 I) (qli c Q)))))))))) : kl c (0, 0) mL_areRunners 324 [some (.inr 1), some (.inr G), some (.inr L), some (.inr N), some (.inl y4), some (.inl y5), some (.inl y6), some (.inl y7), some (.inl y8), none, none] [.inl z0] I (qli c Q) := by
  refine k_istore (pc := 324) [some (.inr 1), some (.inr G), some (.inr L), some (.inr N), some (.inl y4), some (.inl y5), some (.inl y6), some (.inl y7), some (.inl y8), none, some (.inl z0)] dL_areRunners_324 rfl (by decide) ?_
  refine sh_iload (pc := 326) dL_areRunners_326 rfl ?_
  obtain ⟨hb_1, h⟩ := h
  refine sh_if_eq (pc := 328) (tgt := 346) dL_areRunners_328 (by decide) hb_1  (fun q_2 => ?_) (fun q_2 => ?_)
  · replace h := h.1 q_2
    refine sh_iconst (pc := 346) (v := 0) dL_areRunners_346 rfl ?_
    refine k_istore (pc := 347) [some (.inr 1), some (.inr G), some (.inr L), some (.inr N), some (.inl 0), some (.inl y5), some (.inl y6), some (.inl y7), some (.inl y8), none, some (.inl z0)] dL_areRunners_347 rfl (by decide) ?_
    refine k_iinc (pc := 349) [some (.inr 1), some (.inr G), some (.inr L), some (.inr N), some (.inl 0), some (.inl y5), some (.inl y6), some (.inl y7), some (.inl (y8 + 1)), none, some (.inl z0)] dL_areRunners_349 rfl rfl (by decide) ?_
    refine sh_goto (pc := 352) (tgt := 67) dL_areRunners_352 (by decide) ?_
    exact sh_O.locals h (sub_some (sub_some (sub_some (sub_some (sub_some (sub_some (sub_some (sub_some (sub_some (sub_none (sub_none sub_nil)))))))))))
  · replace h := h.2 q_2
    refine sh_aload_n (pc := 331) dL_areRunners_331 rfl rfl ?_
    refine sh_iload (pc := 332) dL_areRunners_332 rfl ?_
    refine l_F1 (pc := 334) hx dL_areRunners_334 lk_L_51 rfl h (fun v4 J3 h => ?_)
    refine sh_iload (pc := 337) dL_areRunners_337 rfl ?_
    obtain ⟨ho_5, h⟩ := h
    refine l_icmp_ne (pc := 339) (tgt := 346) dL_areRunners_339 (by decide) ho_5 (fun q_6 => ?_) (fun q_6 => ?_)
    · replace h := h.1 q_6
      refine sh_iconst (pc := 346) (v := 0) dL_areRunners_346 rfl ?_
      refine k_istore (pc := 347) [some (.inr 1), some (.inr G), some (.inr L), some (.inr N), some (.inl 0), some (.inl y5), some (.inl y6), some (.inl y7), some (.inl y8), none, some (.inl z0)] dL_areRunners_347 rfl (by decide) ?_
      refine k_iinc (pc := 349) [some (.inr 1), some (.inr G), some (.inr L), some (.inr N), some (.inl 0), some (.inl y5), some (.inl y6), some (.inl y7), some (.inl (y8 + 1)), none, some (.inl z0)] dL_areRunners_349 rfl rfl (by decide) ?_
      refine sh_goto (pc := 352) (tgt := 67) dL_areRunners_352 (by decide) ?_
      exact sh_O.locals h (sub_some (sub_some (sub_some (sub_some (sub_some (sub_some (sub_some (sub_some (sub_some (sub_none (sub_none sub_nil)))))))))))
    · replace h := h.2 q_6
      refine sh_iconst (pc := 342) (v := 1) dL_areRunners_342 rfl ?_
      refine sh_goto (pc := 343) (tgt := 347) dL_areRunners_343 (by decide) ?_
      refine k_istore (pc := 347) [some (.inr 1), some (.inr G), some (.inr L), some (.inr N), some (.inl 1), some (.inl y5), some (.inl y6), some (.inl y7), some (.inl y8), none, some (.inl z0)] dL_areRunners_347 rfl (by decide) ?_
      refine k_iinc (pc := 349) [some (.inr 1), some (.inr G), some (.inr L), some (.inr N), some (.inl 1), some (.inl y5), some (.inl y6), some (.inl y7), some (.inl (y8 + 1)), none, some (.inl z0)] dL_areRunners_349 rfl rfl (by decide) ?_
      refine sh_goto (pc := 352) (tgt := 67) dL_areRunners_352 (by decide) ?_
      exact sh_O.locals h (sub_some (sub_some (sub_some (sub_some (sub_some (sub_some (sub_some (sub_some (sub_some (sub_none (sub_none sub_nil)))))))))))
set_option maxRecDepth 100000 in
set_option maxHeartbeats 4000000 in
theorem eL_areShadows {c : sh_Cx} (hx : cx c) {G : Nat} (hG : dy c G 42) {L : Nat} (hL : dy c L 12) {N : Nat} (hN : dy c N 9) {I : sh_Mem} {Q : Int → sh_Mem → Prop} (h : (cc mX6_count [.inr 1, .inl 3] (sh_cl I c.1) (qi fun v2 J1 => ((v2 = ((((mxM J1 (sh_cl I c.1)) L 3) + ((mxM J1 (sh_cl I c.1)) L 7)) + ((mxM J1 (sh_cl I c.1)) L 11)) ∨ (sh_Bd v2 ∧ sh_Bd ((((mxM J1 (sh_cl I c.1)) L 3) + ((mxM J1 (sh_cl I c.1)) L 7)) + ((mxM J1 (sh_cl I c.1)) L 11)))) ∧ ((¬ v2 = ((((mxM J1 (sh_cl I c.1)) L 3) + ((mxM J1 (sh_cl I c.1)) L 7)) + ((mxM J1 (sh_cl I c.1)) L 11)) → kl (cp c 3) (1, 3) mL_areShadows 39 [some (.inr 1), some (.inr G), some (.inr L), some (.inr N), some (.inl 0), some (.inr c.1), some (.inl 0), some (.inl 0), none, none, none, none] [] (mxM J1 (sh_cl I c.1)) (qli c Q)) ∧ (v2 = ((((mxM J1 (sh_cl I c.1)) L 3) + ((mxM J1 (sh_cl I c.1)) L 7)) + ((mxM J1 (sh_cl I c.1)) L 11)) → kl (cp c 3) (1, 3) mL_areShadows 39 [some (.inr 1), some (.inr G), some (.inr L), some (.inr N), some (.inl 0), some (.inr c.1), some (.inl 1), some (.inl 0), none, none, none, none] [] (mxM J1 (sh_cl I c.1)) (qli c Q))))))) : cl c mL_areShadows [.inr 1, .inr G, .inr L, .inr N] I (li c Q) := by
  refine l_callI cd_L_areShadows.2.2.2 (Nat.le_of_ble_eq_true rfl) ?_
  show kl c (0, 0) mL_areShadows 0 [some (.inr 1), some (.inr G), some (.inr L), some (.inr N), none, none, none, none, none, none, none, none] [] I (qli c Q)
  refine sh_iconst (pc := 0) (v := 0) dL_areShadows_0 rfl ?_
  refine k_istore (pc := 1) [some (.inr 1), some (.inr G), some (.inr L), some (.inr N), some (.inl 0), none, none, none, none, none, none, none] dL_areShadows_1 rfl (by decide) ?_
  refine sh_iconst (pc := 3) (v := 3) dL_areShadows_3 rfl ?_
  refine l_newa (pc := 4) (N := 3) dL_areShadows_4 wa_int rfl (by decide) hx.1 (by simp [sh_noref]) (by have hk0 := hx.1; have hk2 : (G : Nat) < c.1 := (hG).lt; have hk3 : (L : Nat) < c.1 := (hL).lt; have hk4 : (N : Nat) < c.1 := (hN).lt; intro o ho; simp at ho; omega) (by decide) ?_
  refine l_astore (pc := 6) [some (.inr 1), some (.inr G), some (.inr L), some (.inr N), some (.inl 0), some (.inr c.1), none, none, none, none, none, none] dL_areShadows_6 rfl (by decide) ?_
  refine sh_aload_n (pc := 8) dL_areShadows_8 rfl rfl ?_
  refine sh_iconst (pc := 9) (v := 3) dL_areShadows_9 rfl ?_
  refine l_F1 (pc := 10) (cx.push (N := 3) hx) dL_areShadows_10 lk_L_40 rfl h (fun v2 J1 h => ?_)
  refine sh_aload_n (pc := 13) dL_areShadows_13 rfl rfl ?_
  refine sh_iconst (pc := 14) (v := 3) dL_areShadows_14 rfl ?_
  refine l_ald (pc := 15) dL_areShadows_15 (dy.push hL) (by decide) ?_
  refine sh_aload_n (pc := 16) dL_areShadows_16 rfl rfl ?_
  refine sh_bipush (pc := 17) (v := 7) dL_areShadows_17 (by decide) ?_
  refine l_ald (pc := 19) dL_areShadows_19 (dy.push hL) (by decide) ?_
  refine sh_iadd (pc := 20) dL_areShadows_20 ?_
  refine sh_aload_n (pc := 21) dL_areShadows_21 rfl rfl ?_
  refine sh_bipush (pc := 22) (v := 11) dL_areShadows_22 (by decide) ?_
  refine l_ald (pc := 24) dL_areShadows_24 (dy.push hL) (by decide) ?_
  refine sh_iadd (pc := 25) dL_areShadows_25 ?_
  obtain ⟨ho_3, h⟩ := h
  refine l_icmp_ne (pc := 26) (tgt := 33) dL_areShadows_26 (by decide) ho_3 (fun q_4 => ?_) (fun q_4 => ?_)
  · replace h := h.1 q_4
    refine sh_iconst (pc := 33) (v := 0) dL_areShadows_33 rfl ?_
    refine k_istore (pc := 34) [some (.inr 1), some (.inr G), some (.inr L), some (.inr N), some (.inl 0), some (.inr c.1), some (.inl 0), none, none, none, none, none] dL_areShadows_34 rfl (by decide) ?_
    refine sh_iconst (pc := 36) (v := 0) dL_areShadows_36 rfl ?_
    refine k_istore (pc := 37) [some (.inr 1), some (.inr G), some (.inr L), some (.inr N), some (.inl 0), some (.inr c.1), some (.inl 0), some (.inl 0), none, none, none, none] dL_areShadows_37 rfl (by decide) ?_
    exact sh_O.locals h (sub_some (sub_some (sub_some (sub_some (sub_some (sub_some (sub_some (sub_some (sub_none (sub_none (sub_none (sub_none sub_nil))))))))))))
  · replace h := h.2 q_4
    refine sh_iconst (pc := 29) (v := 1) dL_areShadows_29 rfl ?_
    refine sh_goto (pc := 30) (tgt := 34) dL_areShadows_30 (by decide) ?_
    refine k_istore (pc := 34) [some (.inr 1), some (.inr G), some (.inr L), some (.inr N), some (.inl 0), some (.inr c.1), some (.inl 1), none, none, none, none, none] dL_areShadows_34 rfl (by decide) ?_
    refine sh_iconst (pc := 36) (v := 0) dL_areShadows_36 rfl ?_
    refine k_istore (pc := 37) [some (.inr 1), some (.inr G), some (.inr L), some (.inr N), some (.inl 0), some (.inr c.1), some (.inl 1), some (.inl 0), none, none, none, none] dL_areShadows_37 rfl (by decide) ?_
    exact sh_O.locals h (sub_some (sub_some (sub_some (sub_some (sub_some (sub_some (sub_some (sub_some (sub_none (sub_none (sub_none (sub_none sub_nil))))))))))))
set_option maxRecDepth 100000 in
set_option maxHeartbeats 4000000 in
theorem lL_areShadows_39 {c0 : sh_Cx} {cn : Nat × Nat} {c : sh_Cx} (hx : cx c) {G : Nat} (hG : dy c G 42) {L : Nat} (hL : dy c L 12) {N : Nat} (hN : dy c N 9) (he : ext c0 c) {y4 : Int} {A5 : Nat} (hA5 : dy c A5 3) {y6 : Int} {y7 : Int} {I : sh_Mem} {Q : Int → sh_Mem → Prop} (h : (sh_Bd y7 ∧ ((100 ≤ y7 → kl c cn mL_areShadows 209 [some (.inr 1), none, some (.inr L), none, some (.inl y4), some (.inr A5), some (.inl y6), some (.inl 0), none, none, none, none] [] I (qli c0 Q)) ∧ (y7 < 100 → (sh_Bd y6 ∧ ((y6 = 0 → kl c cn mL_areShadows 209 [some (.inr 1), none, some (.inr L), none, some (.inl y4), some (.inr A5), some (.inl y6), some (.inl 0), none, none, none, none] [] I (qli c0 Q)) ∧ (¬ y6 = 0 → kl c cn mL_areShadows 57 [some (.inr 1), some (.inr G), some (.inr L), some (.inr N), some (.inl y4), some (.inr A5), none, some (.inl y7), some (.inl 0), some (.inl 0), none, none] [] I (qli c0 Q)))))))) : kl c cn mL_areShadows 39 [some (.inr 1), some (.inr G), some (.inr L), some (.inr N), some (.inl y4), some (.inr A5), some (.inl y6), some (.inl y7), none, none, none, none] [] I (qli c0 Q) := by
  refine sh_iload (pc := 39) dL_areShadows_39 rfl ?_
  refine sh_bipush (pc := 41) (v := 100) dL_areShadows_41 (by decide) ?_
  obtain ⟨hb_1, h⟩ := h
  refine sh_icmp_ge (pc := 43) (tgt := 206) dL_areShadows_43 (by decide) hb_1 (bd_lit (by decide)) (fun q_2 => ?_) (fun q_2 => ?_)
  · replace h := h.1 q_2
    refine sh_iconst (pc := 206) (v := 0) dL_areShadows_206 rfl ?_
    refine k_istore (pc := 207) [some (.inr 1), some (.inr G), some (.inr L), some (.inr N), some (.inl y4), some (.inr A5), some (.inl y6), some (.inl 0), none, none, none, none] dL_areShadows_207 rfl (by decide) ?_
    exact sh_O.locals h (sub_some (sub_none (sub_some (sub_none (sub_some (sub_some (sub_some (sub_some (sub_none (sub_none (sub_none (sub_none sub_nil))))))))))))
  · replace h := h.2 q_2
    refine sh_iload (pc := 46) dL_areShadows_46 rfl ?_
    obtain ⟨hb_3, h⟩ := h
    refine sh_if_eq (pc := 48) (tgt := 206) dL_areShadows_48 (by decide) hb_3  (fun q_4 => ?_) (fun q_4 => ?_)
    · replace h := h.1 q_4
      refine sh_iconst (pc := 206) (v := 0) dL_areShadows_206 rfl ?_
      refine k_istore (pc := 207) [some (.inr 1), some (.inr G), some (.inr L), some (.inr N), some (.inl y4), some (.inr A5), some (.inl y6), some (.inl 0), none, none, none, none] dL_areShadows_207 rfl (by decide) ?_
      exact sh_O.locals h (sub_some (sub_none (sub_some (sub_none (sub_some (sub_some (sub_some (sub_some (sub_none (sub_none (sub_none (sub_none sub_nil))))))))))))
    · replace h := h.2 q_4
      refine sh_iconst (pc := 51) (v := 0) dL_areShadows_51 rfl ?_
      refine k_istore (pc := 52) [some (.inr 1), some (.inr G), some (.inr L), some (.inr N), some (.inl y4), some (.inr A5), some (.inl y6), some (.inl y7), some (.inl 0), none, none, none] dL_areShadows_52 rfl (by decide) ?_
      refine sh_iconst (pc := 54) (v := 0) dL_areShadows_54 rfl ?_
      refine k_istore (pc := 55) [some (.inr 1), some (.inr G), some (.inr L), some (.inr N), some (.inl y4), some (.inr A5), some (.inl y6), some (.inl y7), some (.inl 0), some (.inl 0), none, none] dL_areShadows_55 rfl (by decide) ?_
      exact sh_O.locals h (sub_some (sub_some (sub_some (sub_some (sub_some (sub_some (sub_none (sub_some (sub_some (sub_some (sub_none (sub_none sub_nil))))))))))))
set_option maxRecDepth 100000 in
set_option maxHeartbeats 4000000 in
theorem lL_areShadows_209 {c0 : sh_Cx} {cn : Nat × Nat} {c : sh_Cx} (hx : cx c) {G : Nat} (hG : dy c G 42) {L : Nat} (hL : dy c L 12) {N : Nat} (hN : dy c N 9) (he : ext c0 c) {y4 : Int} {A5 : Nat} (hA5 : dy c A5 3) {y6 : Int} {y7 : Int} {I : sh_Mem} {Q : Int → sh_Mem → Prop} (h : (sh_Bd y7 ∧ ((3 ≤ y7 → (sh_Bd y6 ∧ ((y6 = 0 → Q 0 I) ∧ (¬ y6 = 0 → (cc mX6_count [.inr 1, .inl 4] I (qi fun v6 J5 => ((v6 = y4 ∨ (sh_Bd v6 ∧ sh_Bd y4)) ∧ ((¬ v6 = y4 → Q 0 (mxM J5 I)) ∧ (v6 = y4 → Q 1 (mxM J5 I)))))))))) ∧ (y7 < 3 → (sh_Bd y6 ∧ ((y6 = 0 → kl c cn mL_areShadows 209 [some (.inr 1), none, some (.inr L), none, some (.inl y4), some (.inr A5), some (.inl 0), some (.inl (y7 + 1)), none, none, none, none] [] I (qli c0 Q)) ∧ (¬ y6 = 0 → (cc mX6_lamp [.inr 1, .inl y7, .inl 0] I (qi fun v12 J11 => ((0 ≤ (4 * y7) ∧ (4 * y7) < (12 : Int)) ∧ ((v12 = ((mxM J11 I) L (4 * y7)) ∨ (sh_Bd v12 ∧ sh_Bd ((mxM J11 I) L (4 * y7)))) ∧ ((¬ v12 = ((mxM J11 I) L (4 * y7)) → kl c cn mL_areShadows 209 [some (.inr 1), none, some (.inr L), none, some (.inl y4), some (.inr A5), some (.inl 0), some (.inl (y7 + 1)), none, none, none, none] [] (mxM J11 I) (qli c0 Q)) ∧ (v12 = ((mxM J11 I) L (4 * y7)) → (cc mX6_lamp [.inr 1, .inl y7, .inl 1] (mxM J11 I) (qi fun v17 J16 => ((0 ≤ ((4 * y7) + 1) ∧ ((4 * y7) + 1) < (12 : Int)) ∧ ((v17 = ((mxM J16 (mxM J11 I)) L ((4 * y7) + 1)) ∨ (sh_Bd v17 ∧ sh_Bd ((mxM J16 (mxM J11 I)) L ((4 * y7) + 1)))) ∧ ((¬ v17 = ((mxM J16 (mxM J11 I)) L ((4 * y7) + 1)) → kl c cn mL_areShadows 209 [some (.inr 1), none, some (.inr L), none, some (.inl y4), some (.inr A5), some (.inl 0), some (.inl (y7 + 1)), none, none, none, none] [] (mxM J16 (mxM J11 I)) (qli c0 Q)) ∧ (v17 = ((mxM J16 (mxM J11 I)) L ((4 * y7) + 1)) → (cc mX6_lamp [.inr 1, .inl y7, .inl 2] (mxM J16 (mxM J11 I)) (qi fun v22 J21 => ((0 ≤ ((4 * y7) + 2) ∧ ((4 * y7) + 2) < (12 : Int)) ∧ ((v22 = ((mxM J21 (mxM J16 (mxM J11 I))) L ((4 * y7) + 2)) ∨ (sh_Bd v22 ∧ sh_Bd ((mxM J21 (mxM J16 (mxM J11 I))) L ((4 * y7) + 2)))) ∧ ((¬ v22 = ((mxM J21 (mxM J16 (mxM J11 I))) L ((4 * y7) + 2)) → kl c cn mL_areShadows 209 [some (.inr 1), none, some (.inr L), none, some (.inl y4), some (.inr A5), some (.inl 0), some (.inl (y7 + 1)), none, none, none, none] [] (mxM J21 (mxM J16 (mxM J11 I))) (qli c0 Q)) ∧ (v22 = ((mxM J21 (mxM J16 (mxM J11 I))) L ((4 * y7) + 2)) → (cc mX6_lamp [.inr 1, .inl y7, .inl 3] (mxM J21 (mxM J16 (mxM J11 I))) (qi fun v27 J26 => ((0 ≤ ((4 * y7) + 3) ∧ ((4 * y7) + 3) < (12 : Int)) ∧ ((v27 = ((mxM J26 (mxM J21 (mxM J16 (mxM J11 I)))) L ((4 * y7) + 3)) ∨ (sh_Bd v27 ∧ sh_Bd ((mxM J26 (mxM J21 (mxM J16 (mxM J11 I)))) L ((4 * y7) + 3)))) ∧ ((¬ v27 = ((mxM J26 (mxM J21 (mxM J16 (mxM J11 I)))) L ((4 * y7) + 3)) → kl c cn mL_areShadows 209 [some (.inr 1), none, some (.inr L), none, some (.inl y4), some (.inr A5), some (.inl 0), some (.inl (y7 + 1)), none, none, none, none] [] (mxM J26 (mxM J21 (mxM J16 (mxM J11 I)))) (qli c0 Q)) ∧ (v27 = ((mxM J26 (mxM J21 (mxM J16 (mxM J11 I)))) L ((4 * y7) + 3)) → (cc mX6_lamp [.inr 1, .inl y7, .inl 4] (mxM J26 (mxM J21 (mxM J16 (mxM J11 I)))) (qi fun v32 J31 => ((0 ≤ y7 ∧ y7 < (3 : Int)) ∧ ((v32 = ((mxM J31 (mxM J26 (mxM J21 (mxM J16 (mxM J11 I))))) A5 y7) ∨ (sh_Bd v32 ∧ sh_Bd ((mxM J31 (mxM J26 (mxM J21 (mxM J16 (mxM J11 I))))) A5 y7))) ∧ ((¬ v32 = ((mxM J31 (mxM J26 (mxM J21 (mxM J16 (mxM J11 I))))) A5 y7) → kl c cn mL_areShadows 209 [some (.inr 1), none, some (.inr L), none, some (.inl y4), some (.inr A5), some (.inl 0), some (.inl (y7 + 1)), none, none, none, none] [] (mxM J31 (mxM J26 (mxM J21 (mxM J16 (mxM J11 I))))) (qli c0 Q)) ∧ (v32 = ((mxM J31 (mxM J26 (mxM J21 (mxM J16 (mxM J11 I))))) A5 y7) → (cc mX6_lamp [.inr 1, .inl y7, .inl 5] (mxM J31 (mxM J26 (mxM J21 (mxM J16 (mxM J11 I))))) (qi fun v37 J36 => ((v37 = (-2) ∨ (sh_Bd v37 ∧ sh_Bd (-2))) ∧ ((¬ v37 = (-2) → kl c cn mL_areShadows 209 [some (.inr 1), none, some (.inr L), none, some (.inl y4), some (.inr A5), some (.inl 0), some (.inl (y7 + 1)), none, none, none, none] [] (mxM J36 (mxM J31 (mxM J26 (mxM J21 (mxM J16 (mxM J11 I)))))) (qli c0 Q)) ∧ (v37 = (-2) → kl c cn mL_areShadows 209 [some (.inr 1), none, some (.inr L), none, some (.inl y4), some (.inr A5), some (.inl 1), some (.inl (y7 + 1)), none, none, none, none] [] (mxM J36 (mxM J31 (mxM J26 (mxM J21 (mxM J16 (mxM J11 I)))))) (qli c0 Q))))))))))))))))))))))))))))))))))))))))))) : kl c cn mL_areShadows 209 [some (.inr 1), none, some (.inr L), none, some (.inl y4), some (.inr A5), some (.inl y6), some (.inl y7), none, none, none, none] [] I (qli c0 Q) := by
  refine sh_iload (pc := 209) dL_areShadows_209 rfl ?_
  refine sh_iconst (pc := 211) (v := 3) dL_areShadows_211 rfl ?_
  obtain ⟨hb_1, h⟩ := h
  refine sh_icmp_ge (pc := 212) (tgt := 330) dL_areShadows_212 (by decide) hb_1 (bd_lit (by decide)) (fun q_2 => ?_) (fun q_2 => ?_)
  · replace h := h.1 q_2
    refine sh_iload (pc := 330) dL_areShadows_330 rfl ?_
    obtain ⟨hb_3, h⟩ := h
    refine sh_if_eq (pc := 332) (tgt := 349) dL_areShadows_332 (by decide) hb_3  (fun q_4 => ?_) (fun q_4 => ?_)
    · replace h := h.1 q_4
      refine sh_iconst (pc := 349) (v := 0) dL_areShadows_349 rfl ?_
      exact l_zret he dL_areShadows_350 rfl (Or.inl rfl) h
    · replace h := h.2 q_4
      refine sh_aload_n (pc := 335) dL_areShadows_335 rfl rfl ?_
      refine sh_iconst (pc := 336) (v := 4) dL_areShadows_336 rfl ?_
      refine l_F1 (pc := 337) hx dL_areShadows_337 lk_L_40 rfl h (fun v6 J5 h => ?_)
      refine sh_iload (pc := 340) dL_areShadows_340 rfl ?_
      obtain ⟨ho_7, h⟩ := h
      refine l_icmp_ne (pc := 342) (tgt := 349) dL_areShadows_342 (by decide) ho_7 (fun q_8 => ?_) (fun q_8 => ?_)
      · replace h := h.1 q_8
        refine sh_iconst (pc := 349) (v := 0) dL_areShadows_349 rfl ?_
        exact l_zret he dL_areShadows_350 rfl (Or.inl rfl) h
      · replace h := h.2 q_8
        refine sh_iconst (pc := 345) (v := 1) dL_areShadows_345 rfl ?_
        refine sh_goto (pc := 346) (tgt := 350) dL_areShadows_346 (by decide) ?_
        exact l_zret he dL_areShadows_350 rfl (Or.inr rfl) h
  · replace h := h.2 q_2
    refine sh_iload (pc := 215) dL_areShadows_215 rfl ?_
    obtain ⟨hb_9, h⟩ := h
    refine sh_if_eq (pc := 217) (tgt := 321) dL_areShadows_217 (by decide) hb_9  (fun q_10 => ?_) (fun q_10 => ?_)
    · replace h := h.1 q_10
      refine sh_iconst (pc := 321) (v := 0) dL_areShadows_321 rfl ?_
      refine k_istore (pc := 322) [some (.inr 1), none, some (.inr L), none, some (.inl y4), some (.inr A5), some (.inl 0), some (.inl y7), none, none, none, none] dL_areShadows_322 rfl (by decide) ?_
      refine k_iinc (pc := 324) [some (.inr 1), none, some (.inr L), none, some (.inl y4), some (.inr A5), some (.inl 0), some (.inl (y7 + 1)), none, none, none, none] dL_areShadows_324 rfl rfl (by decide) ?_
      refine sh_goto (pc := 327) (tgt := 209) dL_areShadows_327 (by decide) ?_
      exact sh_O.locals h (sub_some (sub_none (sub_some (sub_none (sub_some (sub_some (sub_some (sub_some (sub_none (sub_none (sub_none (sub_none sub_nil))))))))))))
    · replace h := h.2 q_10
      refine sh_aload_n (pc := 220) dL_areShadows_220 rfl rfl ?_
      refine sh_iload (pc := 221) dL_areShadows_221 rfl ?_
      refine sh_iconst (pc := 223) (v := 0) dL_areShadows_223 rfl ?_
      refine l_F2 (pc := 224) hx dL_areShadows_224 lk_L_60 rfl h (fun v12 J11 h => ?_)
      refine sh_aload_n (pc := 227) dL_areShadows_227 rfl rfl ?_
      refine sh_iconst (pc := 228) (v := 4) dL_areShadows_228 rfl ?_
      refine sh_iload (pc := 229) dL_areShadows_229 rfl ?_
      refine sh_imul (pc := 231) dL_areShadows_231 ?_
      obtain ⟨hi_13, h⟩ := h
      refine l_ald (pc := 232) dL_areShadows_232 hL hi_13 ?_
      obtain ⟨ho_14, h⟩ := h
      refine l_icmp_ne (pc := 233) (tgt := 321) dL_areShadows_233 (by decide) ho_14 (fun q_15 => ?_) (fun q_15 => ?_)
      · replace h := h.1 q_15
        refine sh_iconst (pc := 321) (v := 0) dL_areShadows_321 rfl ?_
        refine k_istore (pc := 322) [some (.inr 1), none, some (.inr L), none, some (.inl y4), some (.inr A5), some (.inl 0), some (.inl y7), none, none, none, none] dL_areShadows_322 rfl (by decide) ?_
        refine k_iinc (pc := 324) [some (.inr 1), none, some (.inr L), none, some (.inl y4), some (.inr A5), some (.inl 0), some (.inl (y7 + 1)), none, none, none, none] dL_areShadows_324 rfl rfl (by decide) ?_
        refine sh_goto (pc := 327) (tgt := 209) dL_areShadows_327 (by decide) ?_
        exact sh_O.locals h (sub_some (sub_none (sub_some (sub_none (sub_some (sub_some (sub_some (sub_some (sub_none (sub_none (sub_none (sub_none sub_nil))))))))))))
      · replace h := h.2 q_15
        refine sh_aload_n (pc := 236) dL_areShadows_236 rfl rfl ?_
        refine sh_iload (pc := 237) dL_areShadows_237 rfl ?_
        refine sh_iconst (pc := 239) (v := 1) dL_areShadows_239 rfl ?_
        refine l_F2 (pc := 240) hx dL_areShadows_240 lk_L_60 rfl h (fun v17 J16 h => ?_)
        refine sh_aload_n (pc := 243) dL_areShadows_243 rfl rfl ?_
        refine sh_iconst (pc := 244) (v := 4) dL_areShadows_244 rfl ?_
        refine sh_iload (pc := 245) dL_areShadows_245 rfl ?_
        refine sh_imul (pc := 247) dL_areShadows_247 ?_
        refine sh_iconst (pc := 248) (v := 1) dL_areShadows_248 rfl ?_
        refine sh_iadd (pc := 249) dL_areShadows_249 ?_
        obtain ⟨hi_18, h⟩ := h
        refine l_ald (pc := 250) dL_areShadows_250 hL hi_18 ?_
        obtain ⟨ho_19, h⟩ := h
        refine l_icmp_ne (pc := 251) (tgt := 321) dL_areShadows_251 (by decide) ho_19 (fun q_20 => ?_) (fun q_20 => ?_)
        · replace h := h.1 q_20
          refine sh_iconst (pc := 321) (v := 0) dL_areShadows_321 rfl ?_
          refine k_istore (pc := 322) [some (.inr 1), none, some (.inr L), none, some (.inl y4), some (.inr A5), some (.inl 0), some (.inl y7), none, none, none, none] dL_areShadows_322 rfl (by decide) ?_
          refine k_iinc (pc := 324) [some (.inr 1), none, some (.inr L), none, some (.inl y4), some (.inr A5), some (.inl 0), some (.inl (y7 + 1)), none, none, none, none] dL_areShadows_324 rfl rfl (by decide) ?_
          refine sh_goto (pc := 327) (tgt := 209) dL_areShadows_327 (by decide) ?_
          exact sh_O.locals h (sub_some (sub_none (sub_some (sub_none (sub_some (sub_some (sub_some (sub_some (sub_none (sub_none (sub_none (sub_none sub_nil))))))))))))
        · replace h := h.2 q_20
          refine sh_aload_n (pc := 254) dL_areShadows_254 rfl rfl ?_
          refine sh_iload (pc := 255) dL_areShadows_255 rfl ?_
          refine sh_iconst (pc := 257) (v := 2) dL_areShadows_257 rfl ?_
          refine l_F2 (pc := 258) hx dL_areShadows_258 lk_L_60 rfl h (fun v22 J21 h => ?_)
          refine sh_aload_n (pc := 261) dL_areShadows_261 rfl rfl ?_
          refine sh_iconst (pc := 262) (v := 4) dL_areShadows_262 rfl ?_
          refine sh_iload (pc := 263) dL_areShadows_263 rfl ?_
          refine sh_imul (pc := 265) dL_areShadows_265 ?_
          refine sh_iconst (pc := 266) (v := 2) dL_areShadows_266 rfl ?_
          refine sh_iadd (pc := 267) dL_areShadows_267 ?_
          obtain ⟨hi_23, h⟩ := h
          refine l_ald (pc := 268) dL_areShadows_268 hL hi_23 ?_
          obtain ⟨ho_24, h⟩ := h
          refine l_icmp_ne (pc := 269) (tgt := 321) dL_areShadows_269 (by decide) ho_24 (fun q_25 => ?_) (fun q_25 => ?_)
          · replace h := h.1 q_25
            refine sh_iconst (pc := 321) (v := 0) dL_areShadows_321 rfl ?_
            refine k_istore (pc := 322) [some (.inr 1), none, some (.inr L), none, some (.inl y4), some (.inr A5), some (.inl 0), some (.inl y7), none, none, none, none] dL_areShadows_322 rfl (by decide) ?_
            refine k_iinc (pc := 324) [some (.inr 1), none, some (.inr L), none, some (.inl y4), some (.inr A5), some (.inl 0), some (.inl (y7 + 1)), none, none, none, none] dL_areShadows_324 rfl rfl (by decide) ?_
            refine sh_goto (pc := 327) (tgt := 209) dL_areShadows_327 (by decide) ?_
            exact sh_O.locals h (sub_some (sub_none (sub_some (sub_none (sub_some (sub_some (sub_some (sub_some (sub_none (sub_none (sub_none (sub_none sub_nil))))))))))))
          · replace h := h.2 q_25
            refine sh_aload_n (pc := 272) dL_areShadows_272 rfl rfl ?_
            refine sh_iload (pc := 273) dL_areShadows_273 rfl ?_
            refine sh_iconst (pc := 275) (v := 3) dL_areShadows_275 rfl ?_
            refine l_F2 (pc := 276) hx dL_areShadows_276 lk_L_60 rfl h (fun v27 J26 h => ?_)
            refine sh_aload_n (pc := 279) dL_areShadows_279 rfl rfl ?_
            refine sh_iconst (pc := 280) (v := 4) dL_areShadows_280 rfl ?_
            refine sh_iload (pc := 281) dL_areShadows_281 rfl ?_
            refine sh_imul (pc := 283) dL_areShadows_283 ?_
            refine sh_iconst (pc := 284) (v := 3) dL_areShadows_284 rfl ?_
            refine sh_iadd (pc := 285) dL_areShadows_285 ?_
            obtain ⟨hi_28, h⟩ := h
            refine l_ald (pc := 286) dL_areShadows_286 hL hi_28 ?_
            obtain ⟨ho_29, h⟩ := h
            refine l_icmp_ne (pc := 287) (tgt := 321) dL_areShadows_287 (by decide) ho_29 (fun q_30 => ?_) (fun q_30 => ?_)
            · replace h := h.1 q_30
              refine sh_iconst (pc := 321) (v := 0) dL_areShadows_321 rfl ?_
              refine k_istore (pc := 322) [some (.inr 1), none, some (.inr L), none, some (.inl y4), some (.inr A5), some (.inl 0), some (.inl y7), none, none, none, none] dL_areShadows_322 rfl (by decide) ?_
              refine k_iinc (pc := 324) [some (.inr 1), none, some (.inr L), none, some (.inl y4), some (.inr A5), some (.inl 0), some (.inl (y7 + 1)), none, none, none, none] dL_areShadows_324 rfl rfl (by decide) ?_
              refine sh_goto (pc := 327) (tgt := 209) dL_areShadows_327 (by decide) ?_
              exact sh_O.locals h (sub_some (sub_none (sub_some (sub_none (sub_some (sub_some (sub_some (sub_some (sub_none (sub_none (sub_none (sub_none sub_nil))))))))))))
            · replace h := h.2 q_30
              refine sh_aload_n (pc := 290) dL_areShadows_290 rfl rfl ?_
              refine sh_iload (pc := 291) dL_areShadows_291 rfl ?_
              refine sh_iconst (pc := 293) (v := 4) dL_areShadows_293 rfl ?_
              refine l_F2 (pc := 294) hx dL_areShadows_294 lk_L_60 rfl h (fun v32 J31 h => ?_)
              refine sh_aload (pc := 297) dL_areShadows_297 rfl ?_
              refine sh_iload (pc := 299) dL_areShadows_299 rfl ?_
              obtain ⟨hi_33, h⟩ := h
              refine l_ald (pc := 301) dL_areShadows_301 hA5 hi_33 ?_
              obtain ⟨ho_34, h⟩ := h
              refine l_icmp_ne (pc := 302) (tgt := 321) dL_areShadows_302 (by decide) ho_34 (fun q_35 => ?_) (fun q_35 => ?_)
              · replace h := h.1 q_35
                refine sh_iconst (pc := 321) (v := 0) dL_areShadows_321 rfl ?_
                refine k_istore (pc := 322) [some (.inr 1), none, some (.inr L), none, some (.inl y4), some (.inr A5), some (.inl 0), some (.inl y7), none, none, none, none] dL_areShadows_322 rfl (by decide) ?_
                refine k_iinc (pc := 324) [some (.inr 1), none, some (.inr L), none, some (.inl y4), some (.inr A5), some (.inl 0), some (.inl (y7 + 1)), none, none, none, none] dL_areShadows_324 rfl rfl (by decide) ?_
                refine sh_goto (pc := 327) (tgt := 209) dL_areShadows_327 (by decide) ?_
                exact sh_O.locals h (sub_some (sub_none (sub_some (sub_none (sub_some (sub_some (sub_some (sub_some (sub_none (sub_none (sub_none (sub_none sub_nil))))))))))))
              · replace h := h.2 q_35
                refine sh_aload_n (pc := 305) dL_areShadows_305 rfl rfl ?_
                refine sh_iload (pc := 306) dL_areShadows_306 rfl ?_
                refine sh_iconst (pc := 308) (v := 5) dL_areShadows_308 rfl ?_
                refine l_F2 (pc := 309) hx dL_areShadows_309 lk_L_60 rfl h (fun v37 J36 h => ?_)
                refine sh_bipush (pc := 312) (v := (-2)) dL_areShadows_312 (by decide) ?_
                obtain ⟨ho_38, h⟩ := h
                refine l_icmp_ne (pc := 314) (tgt := 321) dL_areShadows_314 (by decide) ho_38 (fun q_39 => ?_) (fun q_39 => ?_)
                · replace h := h.1 q_39
                  refine sh_iconst (pc := 321) (v := 0) dL_areShadows_321 rfl ?_
                  refine k_istore (pc := 322) [some (.inr 1), none, some (.inr L), none, some (.inl y4), some (.inr A5), some (.inl 0), some (.inl y7), none, none, none, none] dL_areShadows_322 rfl (by decide) ?_
                  refine k_iinc (pc := 324) [some (.inr 1), none, some (.inr L), none, some (.inl y4), some (.inr A5), some (.inl 0), some (.inl (y7 + 1)), none, none, none, none] dL_areShadows_324 rfl rfl (by decide) ?_
                  refine sh_goto (pc := 327) (tgt := 209) dL_areShadows_327 (by decide) ?_
                  exact sh_O.locals h (sub_some (sub_none (sub_some (sub_none (sub_some (sub_some (sub_some (sub_some (sub_none (sub_none (sub_none (sub_none sub_nil))))))))))))
                · replace h := h.2 q_39
                  refine sh_iconst (pc := 317) (v := 1) dL_areShadows_317 rfl ?_
                  refine sh_goto (pc := 318) (tgt := 322) dL_areShadows_318 (by decide) ?_
                  refine k_istore (pc := 322) [some (.inr 1), none, some (.inr L), none, some (.inl y4), some (.inr A5), some (.inl 1), some (.inl y7), none, none, none, none] dL_areShadows_322 rfl (by decide) ?_
                  refine k_iinc (pc := 324) [some (.inr 1), none, some (.inr L), none, some (.inl y4), some (.inr A5), some (.inl 1), some (.inl (y7 + 1)), none, none, none, none] dL_areShadows_324 rfl rfl (by decide) ?_
                  refine sh_goto (pc := 327) (tgt := 209) dL_areShadows_327 (by decide) ?_
                  exact sh_O.locals h (sub_some (sub_none (sub_some (sub_none (sub_some (sub_some (sub_some (sub_some (sub_none (sub_none (sub_none (sub_none sub_nil))))))))))))
set_option maxRecDepth 100000 in
set_option maxHeartbeats 4000000 in
theorem lL_areShadows_57 {c0 : sh_Cx} {cn : Nat × Nat} {c : sh_Cx} (hx : cx c) {G : Nat} (hG : dy c G 42) {L : Nat} (hL : dy c L 12) {N : Nat} (hN : dy c N 9) (he : ext c0 c) {y4 : Int} {A5 : Nat} (hA5 : dy c A5 3) {y7 : Int} {y8 : Int} {y9 : Int} {I : sh_Mem} {Q : Int → sh_Mem → Prop} (h : (sh_Bd y9 ∧ ((3 ≤ y9 → (sh_Bd y8 ∧ ((y8 ≤ 0 → (cc mX6_darkness [.inr 1, .inl y7] I (qi fun v6 J5 => ((v6 = y8 ∨ (sh_Bd v6 ∧ sh_Bd y8)) ∧ ((¬ v6 = y8 → kl c cn mL_areShadows 39 [some (.inr 1), some (.inr G), some (.inr L), some (.inr N), some (.inl (y4 + 0)), some (.inr A5), some (.inl 0), some (.inl (y7 + 1)), none, none, none, none] [] (mxM J5 I) (qli c0 Q)) ∧ (v6 = y8 → (cc mX6_looked [.inr 1, .inl y7] (mxM J5 I) (qi fun v10 J9 => ((v10 = y8 ∨ (sh_Bd v10 ∧ sh_Bd y8)) ∧ ((¬ v10 = y8 → kl c cn mL_areShadows 39 [some (.inr 1), some (.inr G), some (.inr L), some (.inr N), some (.inl (y4 + 0)), some (.inr A5), some (.inl 0), some (.inl (y7 + 1)), none, none, none, none] [] (mxM J9 (mxM J5 I)) (qli c0 Q)) ∧ (v10 = y8 → (cc mX6_at [.inr 1, .inl y7] (mxM J9 (mxM J5 I)) (qi fun v14 J13 => (cl c mL_who [.inr G, .inr N, .inl y7] (mxM J13 (mxM J9 (mxM J5 I))) (li c fun v16 J15 => ((v14 = v16 ∨ (sh_Bd v14 ∧ sh_Bd v16)) ∧ ((¬ v14 = v16 → kl c cn mL_areShadows 39 [some (.inr 1), some (.inr G), some (.inr L), some (.inr N), some (.inl (y4 + 0)), some (.inr A5), some (.inl 0), some (.inl (y7 + 1)), none, none, none, none] [] J15 (qli c0 Q)) ∧ (v14 = v16 → kl c cn mL_areShadows 39 [some (.inr 1), some (.inr G), some (.inr L), some (.inr N), some (.inl (y4 + 0)), some (.inr A5), some (.inl 1), some (.inl (y7 + 1)), none, none, none, none] [] J15 (qli c0 Q))))))))))))))))))) ∧ (0 < y8 → (cc mX6_darkness [.inr 1, .inl y7] I (qi fun v20 J19 => ((v20 = y8 ∨ (sh_Bd v20 ∧ sh_Bd y8)) ∧ ((¬ v20 = y8 → kl c cn mL_areShadows 39 [some (.inr 1), some (.inr G), some (.inr L), some (.inr N), some (.inl (y4 + 1)), some (.inr A5), some (.inl 0), some (.inl (y7 + 1)), none, none, none, none] [] (mxM J19 I) (qli c0 Q)) ∧ (v20 = y8 → (cc mX6_looked [.inr 1, .inl y7] (mxM J19 I) (qi fun v24 J23 => ((v24 = y8 ∨ (sh_Bd v24 ∧ sh_Bd y8)) ∧ ((¬ v24 = y8 → kl c cn mL_areShadows 39 [some (.inr 1), some (.inr G), some (.inr L), some (.inr N), some (.inl (y4 + 1)), some (.inr A5), some (.inl 0), some (.inl (y7 + 1)), none, none, none, none] [] (mxM J23 (mxM J19 I)) (qli c0 Q)) ∧ (v24 = y8 → (cc mX6_at [.inr 1, .inl y7] (mxM J23 (mxM J19 I)) (qi fun v28 J27 => (cl c mL_who [.inr G, .inr N, .inl y7] (mxM J27 (mxM J23 (mxM J19 I))) (li c fun v30 J29 => ((v28 = v30 ∨ (sh_Bd v28 ∧ sh_Bd v30)) ∧ ((¬ v28 = v30 → kl c cn mL_areShadows 39 [some (.inr 1), some (.inr G), some (.inr L), some (.inr N), some (.inl (y4 + 1)), some (.inr A5), some (.inl 0), some (.inl (y7 + 1)), none, none, none, none] [] J29 (qli c0 Q)) ∧ (v28 = v30 → kl c cn mL_areShadows 39 [some (.inr 1), some (.inr G), some (.inr L), some (.inr N), some (.inl (y4 + 1)), some (.inr A5), some (.inl 1), some (.inl (y7 + 1)), none, none, none, none] [] J29 (qli c0 Q)))))))))))))))))))))) ∧ (y9 < 3 → kl c cn mL_areShadows 69 [some (.inr 1), some (.inr G), some (.inr L), some (.inr N), some (.inl y4), some (.inr A5), none, some (.inl y7), some (.inl y8), some (.inl y9), some (.inl 0), some (.inl 0)] [] I (qli c0 Q))))) : kl c cn mL_areShadows 57 [some (.inr 1), some (.inr G), some (.inr L), some (.inr N), some (.inl y4), some (.inr A5), none, some (.inl y7), some (.inl y8), some (.inl y9), none, none] [] I (qli c0 Q) := by
  refine sh_iload (pc := 57) dL_areShadows_57 rfl ?_
  refine sh_iconst (pc := 59) (v := 3) dL_areShadows_59 rfl ?_
  obtain ⟨hb_1, h⟩ := h
  refine sh_icmp_ge (pc := 60) (tgt := 140) dL_areShadows_60 (by decide) hb_1 (bd_lit (by decide)) (fun q_2 => ?_) (fun q_2 => ?_)
  · replace h := h.1 q_2
    refine sh_iload (pc := 140) dL_areShadows_140 rfl ?_
    refine sh_iload (pc := 142) dL_areShadows_142 rfl ?_
    obtain ⟨hb_3, h⟩ := h
    refine sh_if_le (pc := 144) (tgt := 151) dL_areShadows_144 (by decide) hb_3  (fun q_4 => ?_) (fun q_4 => ?_)
    · replace h := h.1 q_4
      refine sh_iconst (pc := 151) (v := 0) dL_areShadows_151 rfl ?_
      refine sh_iadd (pc := 152) dL_areShadows_152 ?_
      refine k_istore (pc := 153) [some (.inr 1), some (.inr G), some (.inr L), some (.inr N), some (.inl (y4 + 0)), some (.inr A5), none, some (.inl y7), some (.inl y8), some (.inl y9), none, none] dL_areShadows_153 rfl (by decide) ?_
      refine sh_aload_n (pc := 155) dL_areShadows_155 rfl rfl ?_
      refine sh_iload (pc := 156) dL_areShadows_156 rfl ?_
      refine l_F1 (pc := 158) hx dL_areShadows_158 lk_L_54 rfl h (fun v6 J5 h => ?_)
      refine sh_iload (pc := 161) dL_areShadows_161 rfl ?_
      obtain ⟨ho_7, h⟩ := h
      refine l_icmp_ne (pc := 163) (tgt := 197) dL_areShadows_163 (by decide) ho_7 (fun q_8 => ?_) (fun q_8 => ?_)
      · replace h := h.1 q_8
        refine sh_iconst (pc := 197) (v := 0) dL_areShadows_197 rfl ?_
        refine k_istore (pc := 198) [some (.inr 1), some (.inr G), some (.inr L), some (.inr N), some (.inl (y4 + 0)), some (.inr A5), some (.inl 0), some (.inl y7), some (.inl y8), some (.inl y9), none, none] dL_areShadows_198 rfl (by decide) ?_
        refine k_iinc (pc := 200) [some (.inr 1), some (.inr G), some (.inr L), some (.inr N), some (.inl (y4 + 0)), some (.inr A5), some (.inl 0), some (.inl (y7 + 1)), some (.inl y8), some (.inl y9), none, none] dL_areShadows_200 rfl rfl (by decide) ?_
        refine sh_goto (pc := 203) (tgt := 39) dL_areShadows_203 (by decide) ?_
        exact sh_O.locals h (sub_some (sub_some (sub_some (sub_some (sub_some (sub_some (sub_some (sub_some (sub_none (sub_none (sub_none (sub_none sub_nil))))))))))))
      · replace h := h.2 q_8
        refine sh_aload_n (pc := 166) dL_areShadows_166 rfl rfl ?_
        refine sh_iload (pc := 167) dL_areShadows_167 rfl ?_
        refine l_F1 (pc := 169) hx dL_areShadows_169 lk_L_57 rfl h (fun v10 J9 h => ?_)
        refine sh_iload (pc := 172) dL_areShadows_172 rfl ?_
        obtain ⟨ho_11, h⟩ := h
        refine l_icmp_ne (pc := 174) (tgt := 197) dL_areShadows_174 (by decide) ho_11 (fun q_12 => ?_) (fun q_12 => ?_)
        · replace h := h.1 q_12
          refine sh_iconst (pc := 197) (v := 0) dL_areShadows_197 rfl ?_
          refine k_istore (pc := 198) [some (.inr 1), some (.inr G), some (.inr L), some (.inr N), some (.inl (y4 + 0)), some (.inr A5), some (.inl 0), some (.inl y7), some (.inl y8), some (.inl y9), none, none] dL_areShadows_198 rfl (by decide) ?_
          refine k_iinc (pc := 200) [some (.inr 1), some (.inr G), some (.inr L), some (.inr N), some (.inl (y4 + 0)), some (.inr A5), some (.inl 0), some (.inl (y7 + 1)), some (.inl y8), some (.inl y9), none, none] dL_areShadows_200 rfl rfl (by decide) ?_
          refine sh_goto (pc := 203) (tgt := 39) dL_areShadows_203 (by decide) ?_
          exact sh_O.locals h (sub_some (sub_some (sub_some (sub_some (sub_some (sub_some (sub_some (sub_some (sub_none (sub_none (sub_none (sub_none sub_nil))))))))))))
        · replace h := h.2 q_12
          refine sh_aload_n (pc := 177) dL_areShadows_177 rfl rfl ?_
          refine sh_iload (pc := 178) dL_areShadows_178 rfl ?_
          refine l_F1 (pc := 180) hx dL_areShadows_180 lk_L_48 rfl h (fun v14 J13 h => ?_)
          refine sh_aload_n (pc := 183) dL_areShadows_183 rfl rfl ?_
          refine sh_aload_n (pc := 184) dL_areShadows_184 rfl rfl ?_
          refine sh_iload (pc := 185) dL_areShadows_185 rfl ?_
          refine l_S3i (pc := 187) dL_areShadows_187 lk_L_27 rfl h (fun v16 J15 h => ?_)
          obtain ⟨ho_17, h⟩ := h
          refine l_icmp_ne (pc := 190) (tgt := 197) dL_areShadows_190 (by decide) ho_17 (fun q_18 => ?_) (fun q_18 => ?_)
          · replace h := h.1 q_18
            refine sh_iconst (pc := 197) (v := 0) dL_areShadows_197 rfl ?_
            refine k_istore (pc := 198) [some (.inr 1), some (.inr G), some (.inr L), some (.inr N), some (.inl (y4 + 0)), some (.inr A5), some (.inl 0), some (.inl y7), some (.inl y8), some (.inl y9), none, none] dL_areShadows_198 rfl (by decide) ?_
            refine k_iinc (pc := 200) [some (.inr 1), some (.inr G), some (.inr L), some (.inr N), some (.inl (y4 + 0)), some (.inr A5), some (.inl 0), some (.inl (y7 + 1)), some (.inl y8), some (.inl y9), none, none] dL_areShadows_200 rfl rfl (by decide) ?_
            refine sh_goto (pc := 203) (tgt := 39) dL_areShadows_203 (by decide) ?_
            exact sh_O.locals h (sub_some (sub_some (sub_some (sub_some (sub_some (sub_some (sub_some (sub_some (sub_none (sub_none (sub_none (sub_none sub_nil))))))))))))
          · replace h := h.2 q_18
            refine sh_iconst (pc := 193) (v := 1) dL_areShadows_193 rfl ?_
            refine sh_goto (pc := 194) (tgt := 198) dL_areShadows_194 (by decide) ?_
            refine k_istore (pc := 198) [some (.inr 1), some (.inr G), some (.inr L), some (.inr N), some (.inl (y4 + 0)), some (.inr A5), some (.inl 1), some (.inl y7), some (.inl y8), some (.inl y9), none, none] dL_areShadows_198 rfl (by decide) ?_
            refine k_iinc (pc := 200) [some (.inr 1), some (.inr G), some (.inr L), some (.inr N), some (.inl (y4 + 0)), some (.inr A5), some (.inl 1), some (.inl (y7 + 1)), some (.inl y8), some (.inl y9), none, none] dL_areShadows_200 rfl rfl (by decide) ?_
            refine sh_goto (pc := 203) (tgt := 39) dL_areShadows_203 (by decide) ?_
            exact sh_O.locals h (sub_some (sub_some (sub_some (sub_some (sub_some (sub_some (sub_some (sub_some (sub_none (sub_none (sub_none (sub_none sub_nil))))))))))))
    · replace h := h.2 q_4
      refine sh_iconst (pc := 147) (v := 1) dL_areShadows_147 rfl ?_
      refine sh_goto (pc := 148) (tgt := 152) dL_areShadows_148 (by decide) ?_
      refine sh_iadd (pc := 152) dL_areShadows_152 ?_
      refine k_istore (pc := 153) [some (.inr 1), some (.inr G), some (.inr L), some (.inr N), some (.inl (y4 + 1)), some (.inr A5), none, some (.inl y7), some (.inl y8), some (.inl y9), none, none] dL_areShadows_153 rfl (by decide) ?_
      refine sh_aload_n (pc := 155) dL_areShadows_155 rfl rfl ?_
      refine sh_iload (pc := 156) dL_areShadows_156 rfl ?_
      refine l_F1 (pc := 158) hx dL_areShadows_158 lk_L_54 rfl h (fun v20 J19 h => ?_)
      refine sh_iload (pc := 161) dL_areShadows_161 rfl ?_
      obtain ⟨ho_21, h⟩ := h
      refine l_icmp_ne (pc := 163) (tgt := 197) dL_areShadows_163 (by decide) ho_21 (fun q_22 => ?_) (fun q_22 => ?_)
      · replace h := h.1 q_22
        refine sh_iconst (pc := 197) (v := 0) dL_areShadows_197 rfl ?_
        refine k_istore (pc := 198) [some (.inr 1), some (.inr G), some (.inr L), some (.inr N), some (.inl (y4 + 1)), some (.inr A5), some (.inl 0), some (.inl y7), some (.inl y8), some (.inl y9), none, none] dL_areShadows_198 rfl (by decide) ?_
        refine k_iinc (pc := 200) [some (.inr 1), some (.inr G), some (.inr L), some (.inr N), some (.inl (y4 + 1)), some (.inr A5), some (.inl 0), some (.inl (y7 + 1)), some (.inl y8), some (.inl y9), none, none] dL_areShadows_200 rfl rfl (by decide) ?_
        refine sh_goto (pc := 203) (tgt := 39) dL_areShadows_203 (by decide) ?_
        exact sh_O.locals h (sub_some (sub_some (sub_some (sub_some (sub_some (sub_some (sub_some (sub_some (sub_none (sub_none (sub_none (sub_none sub_nil))))))))))))
      · replace h := h.2 q_22
        refine sh_aload_n (pc := 166) dL_areShadows_166 rfl rfl ?_
        refine sh_iload (pc := 167) dL_areShadows_167 rfl ?_
        refine l_F1 (pc := 169) hx dL_areShadows_169 lk_L_57 rfl h (fun v24 J23 h => ?_)
        refine sh_iload (pc := 172) dL_areShadows_172 rfl ?_
        obtain ⟨ho_25, h⟩ := h
        refine l_icmp_ne (pc := 174) (tgt := 197) dL_areShadows_174 (by decide) ho_25 (fun q_26 => ?_) (fun q_26 => ?_)
        · replace h := h.1 q_26
          refine sh_iconst (pc := 197) (v := 0) dL_areShadows_197 rfl ?_
          refine k_istore (pc := 198) [some (.inr 1), some (.inr G), some (.inr L), some (.inr N), some (.inl (y4 + 1)), some (.inr A5), some (.inl 0), some (.inl y7), some (.inl y8), some (.inl y9), none, none] dL_areShadows_198 rfl (by decide) ?_
          refine k_iinc (pc := 200) [some (.inr 1), some (.inr G), some (.inr L), some (.inr N), some (.inl (y4 + 1)), some (.inr A5), some (.inl 0), some (.inl (y7 + 1)), some (.inl y8), some (.inl y9), none, none] dL_areShadows_200 rfl rfl (by decide) ?_
          refine sh_goto (pc := 203) (tgt := 39) dL_areShadows_203 (by decide) ?_
          exact sh_O.locals h (sub_some (sub_some (sub_some (sub_some (sub_some (sub_some (sub_some (sub_some (sub_none (sub_none (sub_none (sub_none sub_nil))))))))))))
        · replace h := h.2 q_26
          refine sh_aload_n (pc := 177) dL_areShadows_177 rfl rfl ?_
          refine sh_iload (pc := 178) dL_areShadows_178 rfl ?_
          refine l_F1 (pc := 180) hx dL_areShadows_180 lk_L_48 rfl h (fun v28 J27 h => ?_)
          refine sh_aload_n (pc := 183) dL_areShadows_183 rfl rfl ?_
          refine sh_aload_n (pc := 184) dL_areShadows_184 rfl rfl ?_
          refine sh_iload (pc := 185) dL_areShadows_185 rfl ?_
          refine l_S3i (pc := 187) dL_areShadows_187 lk_L_27 rfl h (fun v30 J29 h => ?_)
          obtain ⟨ho_31, h⟩ := h
          refine l_icmp_ne (pc := 190) (tgt := 197) dL_areShadows_190 (by decide) ho_31 (fun q_32 => ?_) (fun q_32 => ?_)
          · replace h := h.1 q_32
            refine sh_iconst (pc := 197) (v := 0) dL_areShadows_197 rfl ?_
            refine k_istore (pc := 198) [some (.inr 1), some (.inr G), some (.inr L), some (.inr N), some (.inl (y4 + 1)), some (.inr A5), some (.inl 0), some (.inl y7), some (.inl y8), some (.inl y9), none, none] dL_areShadows_198 rfl (by decide) ?_
            refine k_iinc (pc := 200) [some (.inr 1), some (.inr G), some (.inr L), some (.inr N), some (.inl (y4 + 1)), some (.inr A5), some (.inl 0), some (.inl (y7 + 1)), some (.inl y8), some (.inl y9), none, none] dL_areShadows_200 rfl rfl (by decide) ?_
            refine sh_goto (pc := 203) (tgt := 39) dL_areShadows_203 (by decide) ?_
            exact sh_O.locals h (sub_some (sub_some (sub_some (sub_some (sub_some (sub_some (sub_some (sub_some (sub_none (sub_none (sub_none (sub_none sub_nil))))))))))))
          · replace h := h.2 q_32
            refine sh_iconst (pc := 193) (v := 1) dL_areShadows_193 rfl ?_
            refine sh_goto (pc := 194) (tgt := 198) dL_areShadows_194 (by decide) ?_
            refine k_istore (pc := 198) [some (.inr 1), some (.inr G), some (.inr L), some (.inr N), some (.inl (y4 + 1)), some (.inr A5), some (.inl 1), some (.inl y7), some (.inl y8), some (.inl y9), none, none] dL_areShadows_198 rfl (by decide) ?_
            refine k_iinc (pc := 200) [some (.inr 1), some (.inr G), some (.inr L), some (.inr N), some (.inl (y4 + 1)), some (.inr A5), some (.inl 1), some (.inl (y7 + 1)), some (.inl y8), some (.inl y9), none, none] dL_areShadows_200 rfl rfl (by decide) ?_
            refine sh_goto (pc := 203) (tgt := 39) dL_areShadows_203 (by decide) ?_
            exact sh_O.locals h (sub_some (sub_some (sub_some (sub_some (sub_some (sub_some (sub_some (sub_some (sub_none (sub_none (sub_none (sub_none sub_nil))))))))))))
  · replace h := h.2 q_2
    refine sh_iconst (pc := 63) (v := 0) dL_areShadows_63 rfl ?_
    refine k_istore (pc := 64) [some (.inr 1), some (.inr G), some (.inr L), some (.inr N), some (.inl y4), some (.inr A5), none, some (.inl y7), some (.inl y8), some (.inl y9), some (.inl 0), none] dL_areShadows_64 rfl (by decide) ?_
    refine sh_iconst (pc := 66) (v := 0) dL_areShadows_66 rfl ?_
    refine k_istore (pc := 67) [some (.inr 1), some (.inr G), some (.inr L), some (.inr N), some (.inl y4), some (.inr A5), none, some (.inl y7), some (.inl y8), some (.inl y9), some (.inl 0), some (.inl 0)] dL_areShadows_67 rfl (by decide) ?_
    exact sh_O.locals h (sub_some (sub_some (sub_some (sub_some (sub_some (sub_some (sub_none (sub_some (sub_some (sub_some (sub_some (sub_some sub_nil))))))))))))
set_option maxRecDepth 100000 in
set_option maxHeartbeats 4000000 in
theorem lL_areShadows_69 {c0 : sh_Cx} {cn : Nat × Nat} {c : sh_Cx} (hx : cx c) {G : Nat} (hG : dy c G 42) {L : Nat} (hL : dy c L 12) {N : Nat} (hN : dy c N 9) (he : ext c0 c) {y4 : Int} {A5 : Nat} (hA5 : dy c A5 3) {y7 : Int} {y8 : Int} {y9 : Int} {y10 : Int} {y11 : Int} {I : sh_Mem} {Q : Int → sh_Mem → Prop} (h : (sh_Bd y11 ∧ (sh_Bd (I N 8) ∧ (((I N 8) ≤ y11 → ((0 ≤ y9 ∧ y9 < (3 : Int)) ∧ (sh_Bd y10 ∧ ((y10 ≤ 0 → kl c cn mL_areShadows 57 [some (.inr 1), some (.inr G), some (.inr L), some (.inr N), some (.inl y4), some (.inr A5), none, some (.inl y7), some (.inl (y8 + y10)), some (.inl (y9 + 1)), none, none] [] (sh_u I A5 y9 ((I A5 y9) + 0)) (qli c0 Q)) ∧ (0 < y10 → kl c cn mL_areShadows 57 [some (.inr 1), some (.inr G), some (.inr L), some (.inr N), some (.inl y4), some (.inr A5), none, some (.inl y7), some (.inl (y8 + y10)), some (.inl (y9 + 1)), none, none] [] (sh_u I A5 y9 ((I A5 y9) + 1)) (qli c0 Q)))))) ∧ (y11 < (I N 8) → (cl c mL_shades [.inr G, .inr L, .inr N, .inl y11, .inl y9, .inl y7] I (li c fun v8 J7 => ((v8 = 1 ∧ kl c cn mL_areShadows 69 [some (.inr 1), some (.inr G), some (.inr L), some (.inr N), some (.inl y4), some (.inr A5), none, some (.inl y7), some (.inl y8), some (.inl y9), some (.inl (y10 + 1)), some (.inl (y11 + 1))] [] J7 (qli c0 Q)) ∨ (v8 = 0 ∧ kl c cn mL_areShadows 69 [some (.inr 1), some (.inr G), some (.inr L), some (.inr N), some (.inl y4), some (.inr A5), none, some (.inl y7), some (.inl y8), some (.inl y9), some (.inl (y10 + 0)), some (.inl (y11 + 1))] [] J7 (qli c0 Q)))))))))) : kl c cn mL_areShadows 69 [some (.inr 1), some (.inr G), some (.inr L), some (.inr N), some (.inl y4), some (.inr A5), none, some (.inl y7), some (.inl y8), some (.inl y9), some (.inl y10), some (.inl y11)] [] I (qli c0 Q) := by
  refine sh_iload (pc := 69) dL_areShadows_69 rfl ?_
  refine sh_aload_n (pc := 71) dL_areShadows_71 rfl rfl ?_
  refine sh_bipush (pc := 72) (v := 8) dL_areShadows_72 (by decide) ?_
  refine l_ald (pc := 74) dL_areShadows_74 hN (by decide) ?_
  obtain ⟨hb_1, h⟩ := h
  obtain ⟨hb_2, h⟩ := h
  refine sh_icmp_ge (pc := 75) (tgt := 109) dL_areShadows_75 (by decide) hb_1 hb_2 (fun q_3 => ?_) (fun q_3 => ?_)
  · replace h := h.1 q_3
    refine sh_iload (pc := 109) dL_areShadows_109 rfl ?_
    refine sh_iload (pc := 111) dL_areShadows_111 rfl ?_
    refine sh_iadd (pc := 113) dL_areShadows_113 ?_
    refine k_istore (pc := 114) [some (.inr 1), some (.inr G), some (.inr L), some (.inr N), some (.inl y4), some (.inr A5), none, some (.inl y7), some (.inl (y8 + y10)), some (.inl y9), some (.inl y10), some (.inl y11)] dL_areShadows_114 rfl (by decide) ?_
    refine sh_aload (pc := 116) dL_areShadows_116 rfl ?_
    refine sh_iload (pc := 118) dL_areShadows_118 rfl ?_
    refine sh_dup2 (pc := 120) dL_areShadows_120 ?_
    obtain ⟨hi_4, h⟩ := h
    refine l_ald (pc := 121) dL_areShadows_121 hA5 hi_4 ?_
    refine sh_iload (pc := 122) dL_areShadows_122 rfl ?_
    obtain ⟨hb_5, h⟩ := h
    refine sh_if_le (pc := 124) (tgt := 131) dL_areShadows_124 (by decide) hb_5  (fun q_6 => ?_) (fun q_6 => ?_)
    · replace h := h.1 q_6
      refine sh_iconst (pc := 131) (v := 0) dL_areShadows_131 rfl ?_
      refine sh_iadd (pc := 132) dL_areShadows_132 ?_
      refine l_ast (pc := 133) dL_areShadows_133 hA5 hi_4 ?_
      refine k_iinc (pc := 134) [some (.inr 1), some (.inr G), some (.inr L), some (.inr N), some (.inl y4), some (.inr A5), none, some (.inl y7), some (.inl (y8 + y10)), some (.inl (y9 + 1)), some (.inl y10), some (.inl y11)] dL_areShadows_134 rfl rfl (by decide) ?_
      refine sh_goto (pc := 137) (tgt := 57) dL_areShadows_137 (by decide) ?_
      exact sh_O.locals h (sub_some (sub_some (sub_some (sub_some (sub_some (sub_some (sub_none (sub_some (sub_some (sub_some (sub_none (sub_none sub_nil))))))))))))
    · replace h := h.2 q_6
      refine sh_iconst (pc := 127) (v := 1) dL_areShadows_127 rfl ?_
      refine sh_goto (pc := 128) (tgt := 132) dL_areShadows_128 (by decide) ?_
      refine sh_iadd (pc := 132) dL_areShadows_132 ?_
      refine l_ast (pc := 133) dL_areShadows_133 hA5 hi_4 ?_
      refine k_iinc (pc := 134) [some (.inr 1), some (.inr G), some (.inr L), some (.inr N), some (.inl y4), some (.inr A5), none, some (.inl y7), some (.inl (y8 + y10)), some (.inl (y9 + 1)), some (.inl y10), some (.inl y11)] dL_areShadows_134 rfl rfl (by decide) ?_
      refine sh_goto (pc := 137) (tgt := 57) dL_areShadows_137 (by decide) ?_
      exact sh_O.locals h (sub_some (sub_some (sub_some (sub_some (sub_some (sub_some (sub_none (sub_some (sub_some (sub_some (sub_none (sub_none sub_nil))))))))))))
  · replace h := h.2 q_3
    refine sh_iload (pc := 78) dL_areShadows_78 rfl ?_
    refine sh_aload_n (pc := 80) dL_areShadows_80 rfl rfl ?_
    refine sh_aload_n (pc := 81) dL_areShadows_81 rfl rfl ?_
    refine sh_aload_n (pc := 82) dL_areShadows_82 rfl rfl ?_
    refine sh_iload (pc := 83) dL_areShadows_83 rfl ?_
    refine sh_iload (pc := 85) dL_areShadows_85 rfl ?_
    refine sh_iload (pc := 87) dL_areShadows_87 rfl ?_
    refine l_S6i (pc := 89) dL_areShadows_89 lk_L_15 rfl h (fun v8 J7 h => ?_)
    rcases h with ⟨rfl, h⟩ | ⟨rfl, h⟩
    · skip
      refine sh_if_eq (pc := 92) (tgt := 99) dL_areShadows_92 (by decide) (bd_lit (by decide)) (fun qz => ?_) (fun qz => ?_)
      · exact absurd qz (by decide)
      · skip
        refine sh_iconst (pc := 95) (v := 1) dL_areShadows_95 rfl ?_
        refine sh_goto (pc := 96) (tgt := 100) dL_areShadows_96 (by decide) ?_
        refine sh_iadd (pc := 100) dL_areShadows_100 ?_
        refine k_istore (pc := 101) [some (.inr 1), some (.inr G), some (.inr L), some (.inr N), some (.inl y4), some (.inr A5), none, some (.inl y7), some (.inl y8), some (.inl y9), some (.inl (y10 + 1)), some (.inl y11)] dL_areShadows_101 rfl (by decide) ?_
        refine k_iinc (pc := 103) [some (.inr 1), some (.inr G), some (.inr L), some (.inr N), some (.inl y4), some (.inr A5), none, some (.inl y7), some (.inl y8), some (.inl y9), some (.inl (y10 + 1)), some (.inl (y11 + 1))] dL_areShadows_103 rfl rfl (by decide) ?_
        refine sh_goto (pc := 106) (tgt := 69) dL_areShadows_106 (by decide) ?_
        exact sh_O.locals h (sub_some (sub_some (sub_some (sub_some (sub_some (sub_some (sub_none (sub_some (sub_some (sub_some (sub_some (sub_some sub_nil))))))))))))
    · skip
      refine sh_if_eq (pc := 92) (tgt := 99) dL_areShadows_92 (by decide) (bd_lit (by decide)) (fun qz => ?_) (fun qz => ?_)
      · skip
        refine sh_iconst (pc := 99) (v := 0) dL_areShadows_99 rfl ?_
        refine sh_iadd (pc := 100) dL_areShadows_100 ?_
        refine k_istore (pc := 101) [some (.inr 1), some (.inr G), some (.inr L), some (.inr N), some (.inl y4), some (.inr A5), none, some (.inl y7), some (.inl y8), some (.inl y9), some (.inl (y10 + 0)), some (.inl y11)] dL_areShadows_101 rfl (by decide) ?_
        refine k_iinc (pc := 103) [some (.inr 1), some (.inr G), some (.inr L), some (.inr N), some (.inl y4), some (.inr A5), none, some (.inl y7), some (.inl y8), some (.inl y9), some (.inl (y10 + 0)), some (.inl (y11 + 1))] dL_areShadows_103 rfl rfl (by decide) ?_
        refine sh_goto (pc := 106) (tgt := 69) dL_areShadows_106 (by decide) ?_
        exact sh_O.locals h (sub_some (sub_some (sub_some (sub_some (sub_some (sub_some (sub_none (sub_some (sub_some (sub_some (sub_some (sub_some sub_nil))))))))))))
      · exact absurd qz (by decide)
set_option maxRecDepth 100000 in
set_option maxHeartbeats 4000000 in
theorem eL_isShadow {c : sh_Cx} (hx : cx c) {G : Nat} (hG : dy c G 42) {L : Nat} (hL : dy c L 12) {N : Nat} (hN : dy c N 9) {x5 : Int} {x6 : Int} {I : sh_Mem} {Q : Int → sh_Mem → Prop} (h : kl c (0, 0) mL_isShadow 10 [some (.inr 1), some (.inr G), some (.inr L), some (.inr N), some (.inl x5), some (.inl x6), some (.inl 0), some (.inl (-5)), some (.inl 0), none] [] I (qli c Q)) : cl c mL_isShadow [.inr 1, .inr G, .inr L, .inr N, .inl x5, .inl x6] I (li c Q) := by
  refine l_callI cd_L_isShadow.2.2.2 (Nat.le_of_ble_eq_true rfl) ?_
  show kl c (0, 0) mL_isShadow 0 [some (.inr 1), some (.inr G), some (.inr L), some (.inr N), some (.inl x5), some (.inl x6), none, none, none, none] [] I (qli c Q)
  refine sh_iconst (pc := 0) (v := 0) dL_isShadow_0 rfl ?_
  refine k_istore (pc := 1) [some (.inr 1), some (.inr G), some (.inr L), some (.inr N), some (.inl x5), some (.inl x6), some (.inl 0), none, none, none] dL_isShadow_1 rfl (by decide) ?_
  refine sh_bipush (pc := 3) (v := (-5)) dL_isShadow_3 (by decide) ?_
  refine k_istore (pc := 5) [some (.inr 1), some (.inr G), some (.inr L), some (.inr N), some (.inl x5), some (.inl x6), some (.inl 0), some (.inl (-5)), none, none] dL_isShadow_5 rfl (by decide) ?_
  refine sh_iconst (pc := 7) (v := 0) dL_isShadow_7 rfl ?_
  refine k_istore (pc := 8) [some (.inr 1), some (.inr G), some (.inr L), some (.inr N), some (.inl x5), some (.inl x6), some (.inl 0), some (.inl (-5)), some (.inl 0), none] dL_isShadow_8 rfl (by decide) ?_
  exact sh_O.locals h (sub_some (sub_some (sub_some (sub_some (sub_some (sub_some (sub_some (sub_some (sub_some (sub_none sub_nil))))))))))
set_option maxRecDepth 100000 in
set_option maxHeartbeats 4000000 in
theorem lL_isShadow_10 {c : sh_Cx} (hx : cx c) {G : Nat} (hG : dy c G 42) {L : Nat} (hL : dy c L 12) {N : Nat} (hN : dy c N 9) {y4 : Int} {y5 : Int} {y6 : Int} {y7 : Int} {y8 : Int} {I : sh_Mem} {Q : Int → sh_Mem → Prop} (h : (sh_Bd y8 ∧ ((100 ≤ y8 → (cc mX6_shadow [.inr 1, .inl y4, .inl y5, .inl 0] I (qi fun v4 J3 => ((v4 = y6 ∨ (sh_Bd v4 ∧ sh_Bd y6)) ∧ ((¬ v4 = y6 → Q 0 (mxM J3 I)) ∧ (v4 = y6 → (cc mX6_shadow [.inr 1, .inl y4, .inl y5, .inl 1] (mxM J3 I) (qi fun v8 J7 => ((v8 = y7 ∨ (sh_Bd v8 ∧ sh_Bd y7)) ∧ ((¬ v8 = y7 → Q 0 (mxM J7 (mxM J3 I))) ∧ (v8 = y7 → (cc mX6_shadow [.inr 1, .inl y4, .inl y5, .inl 2] (mxM J7 (mxM J3 I)) (qi fun v12 J11 => (sh_Bd y7 ∧ ((0 ≤ y7 → (cl c mL_who [.inr G, .inr N, .inl y7] (mxM J11 (mxM J7 (mxM J3 I))) (li c fun v16 J15 => ((v12 = v16 ∨ (sh_Bd v12 ∧ sh_Bd v16)) ∧ ((¬ v12 = v16 → Q 0 J15) ∧ (v12 = v16 → (cc mX6_shadow [.inr 1, .inl y4, .inl y5, .inl 3] J15 (qi fun v20 J19 => ((v20 = (-2) ∨ (sh_Bd v20 ∧ sh_Bd (-2))) ∧ ((¬ v20 = (-2) → Q 0 (mxM J19 J15)) ∧ (v20 = (-2) → (cc mX6_shadow [.inr 1, .inl y4, .inl 3, .inl 0] (mxM J19 J15) (qi fun v24 J23 => ((v24 = (-1) ∨ (sh_Bd v24 ∧ sh_Bd (-1))) ∧ ((¬ v24 = (-1) → Q 0 (mxM J23 (mxM J19 J15))) ∧ (v24 = (-1) → Q 1 (mxM J23 (mxM J19 J15)))))))))))))))))) ∧ (y7 < 0 → ((v12 = (-5) ∨ (sh_Bd v12 ∧ sh_Bd (-5))) ∧ ((¬ v12 = (-5) → Q 0 (mxM J11 (mxM J7 (mxM J3 I)))) ∧ (v12 = (-5) → (cc mX6_shadow [.inr 1, .inl y4, .inl y5, .inl 3] (mxM J11 (mxM J7 (mxM J3 I))) (qi fun v30 J29 => ((v30 = (-2) ∨ (sh_Bd v30 ∧ sh_Bd (-2))) ∧ ((¬ v30 = (-2) → Q 0 (mxM J29 (mxM J11 (mxM J7 (mxM J3 I))))) ∧ (v30 = (-2) → (cc mX6_shadow [.inr 1, .inl y4, .inl 3, .inl 0] (mxM J29 (mxM J11 (mxM J7 (mxM J3 I)))) (qi fun v34 J33 => ((v34 = (-1) ∨ (sh_Bd v34 ∧ sh_Bd (-1))) ∧ ((¬ v34 = (-1) → Q 0 (mxM J33 (mxM J29 (mxM J11 (mxM J7 (mxM J3 I)))))) ∧ (v34 = (-1) → Q 1 (mxM J33 (mxM J29 (mxM J11 (mxM J7 (mxM J3 I)))))))))))))))))))))))))))))))))) ∧ (y8 < 100 → (cl c mL_shades [.inr G, .inr L, .inr N, .inl y4, .inl y5, .inl y8] I (li c fun v38 J37 => (sh_Bd v38 ∧ ((v38 = 0 → ((v38 = 0 → kl c (0, 0) mL_isShadow 10 [some (.inr 1), some (.inr G), some (.inr L), some (.inr N), some (.inl y4), some (.inl y5), some (.inl (y6 + 0)), some (.inl y7), some (.inl (y8 + 1)), none] [] J37 (qli c Q)) ∧ (¬ v38 = 0 → (sh_Bd y7 ∧ ((y7 < 0 → kl c (0, 0) mL_isShadow 103 [some (.inr 1), some (.inr G), some (.inr L), some (.inr N), some (.inl y4), some (.inl y5), some (.inl (y6 + 0)), none, some (.inl y8), none] [] J37 (qli c Q)) ∧ (0 ≤ y7 → ((0 ≤ (7 * y4) ∧ (7 * y4) < (42 : Int)) ∧ ((0 ≤ (4 * y5) ∧ (4 * y5) < (12 : Int)) ∧ ((0 ≤ ((J37 L (4 * y5)) + 2) ∧ ((J37 L (4 * y5)) + 2) < 2147483648) ∧ (cl c mL_straight [.inl (J37 G (7 * y4)), .inl y8, .inl (((J37 L (4 * y5)) + 2) % 4)] J37 (li c fun v48 J47 => ((0 ≤ ((J47 L (4 * y5)) + 2) ∧ ((J47 L (4 * y5)) + 2) < 2147483648) ∧ (cl c mL_straight [.inl (J47 G (7 * y4)), .inl y7, .inl (((J47 L (4 * y5)) + 2) % 4)] J47 (li c fun v51 J50 => (sh_Bd v48 ∧ (sh_Bd v51 ∧ ((v48 ≤ v51 → kl c (0, 0) mL_isShadow 10 [some (.inr 1), some (.inr G), some (.inr L), some (.inr N), some (.inl y4), some (.inl y5), some (.inl (y6 + 0)), some (.inl y7), some (.inl (y8 + 1)), none] [] J50 (qli c Q)) ∧ (v51 < v48 → kl c (0, 0) mL_isShadow 103 [some (.inr 1), some (.inr G), some (.inr L), some (.inr N), some (.inl y4), some (.inl y5), some (.inl (y6 + 0)), none, some (.inl y8), none] [] J50 (qli c Q))))))))))))))))))) ∧ (¬ v38 = 0 → ((v38 = 0 → kl c (0, 0) mL_isShadow 10 [some (.inr 1), some (.inr G), some (.inr L), some (.inr N), some (.inl y4), some (.inl y5), some (.inl (y6 + 1)), some (.inl y7), some (.inl (y8 + 1)), none] [] J37 (qli c Q)) ∧ (¬ v38 = 0 → (sh_Bd y7 ∧ ((y7 < 0 → kl c (0, 0) mL_isShadow 103 [some (.inr 1), some (.inr G), some (.inr L), some (.inr N), some (.inl y4), some (.inl y5), some (.inl (y6 + 1)), none, some (.inl y8), none] [] J37 (qli c Q)) ∧ (0 ≤ y7 → ((0 ≤ (7 * y4) ∧ (7 * y4) < (42 : Int)) ∧ ((0 ≤ (4 * y5) ∧ (4 * y5) < (12 : Int)) ∧ ((0 ≤ ((J37 L (4 * y5)) + 2) ∧ ((J37 L (4 * y5)) + 2) < 2147483648) ∧ (cl c mL_straight [.inl (J37 G (7 * y4)), .inl y8, .inl (((J37 L (4 * y5)) + 2) % 4)] J37 (li c fun v62 J61 => ((0 ≤ ((J61 L (4 * y5)) + 2) ∧ ((J61 L (4 * y5)) + 2) < 2147483648) ∧ (cl c mL_straight [.inl (J61 G (7 * y4)), .inl y7, .inl (((J61 L (4 * y5)) + 2) % 4)] J61 (li c fun v65 J64 => (sh_Bd v62 ∧ (sh_Bd v65 ∧ ((v62 ≤ v65 → kl c (0, 0) mL_isShadow 10 [some (.inr 1), some (.inr G), some (.inr L), some (.inr N), some (.inl y4), some (.inl y5), some (.inl (y6 + 1)), some (.inl y7), some (.inl (y8 + 1)), none] [] J64 (qli c Q)) ∧ (v65 < v62 → kl c (0, 0) mL_isShadow 103 [some (.inr 1), some (.inr G), some (.inr L), some (.inr N), some (.inl y4), some (.inl y5), some (.inl (y6 + 1)), none, some (.inl y8), none] [] J64 (qli c Q))))))))))))))))))))))))))) : kl c (0, 0) mL_isShadow 10 [some (.inr 1), some (.inr G), some (.inr L), some (.inr N), some (.inl y4), some (.inl y5), some (.inl y6), some (.inl y7), some (.inl y8), none] [] I (qli c Q) := by
  refine sh_iload (pc := 10) dL_isShadow_10 rfl ?_
  refine sh_bipush (pc := 12) (v := 100) dL_isShadow_12 (by decide) ?_
  obtain ⟨hb_1, h⟩ := h
  refine sh_icmp_ge (pc := 14) (tgt := 118) dL_isShadow_14 (by decide) hb_1 (bd_lit (by decide)) (fun q_2 => ?_) (fun q_2 => ?_)
  · replace h := h.1 q_2
    refine sh_aload_n (pc := 118) dL_isShadow_118 rfl rfl ?_
    refine sh_iload (pc := 119) dL_isShadow_119 rfl ?_
    refine sh_iload (pc := 121) dL_isShadow_121 rfl ?_
    refine sh_iconst (pc := 123) (v := 0) dL_isShadow_123 rfl ?_
    refine l_F3 (pc := 124) hx dL_isShadow_124 lk_L_63 rfl h (fun v4 J3 h => ?_)
    refine sh_iload (pc := 127) dL_isShadow_127 rfl ?_
    obtain ⟨ho_5, h⟩ := h
    refine l_icmp_ne (pc := 129) (tgt := 205) dL_isShadow_129 (by decide) ho_5 (fun q_6 => ?_) (fun q_6 => ?_)
    · replace h := h.1 q_6
      refine sh_iconst (pc := 205) (v := 0) dL_isShadow_205 rfl ?_
      exact l_zret ext.rf dL_isShadow_206 rfl (Or.inl rfl) h
    · replace h := h.2 q_6
      refine sh_aload_n (pc := 132) dL_isShadow_132 rfl rfl ?_
      refine sh_iload (pc := 133) dL_isShadow_133 rfl ?_
      refine sh_iload (pc := 135) dL_isShadow_135 rfl ?_
      refine sh_iconst (pc := 137) (v := 1) dL_isShadow_137 rfl ?_
      refine l_F3 (pc := 138) hx dL_isShadow_138 lk_L_63 rfl h (fun v8 J7 h => ?_)
      refine sh_iload (pc := 141) dL_isShadow_141 rfl ?_
      obtain ⟨ho_9, h⟩ := h
      refine l_icmp_ne (pc := 143) (tgt := 205) dL_isShadow_143 (by decide) ho_9 (fun q_10 => ?_) (fun q_10 => ?_)
      · replace h := h.1 q_10
        refine sh_iconst (pc := 205) (v := 0) dL_isShadow_205 rfl ?_
        exact l_zret ext.rf dL_isShadow_206 rfl (Or.inl rfl) h
      · replace h := h.2 q_10
        refine sh_aload_n (pc := 146) dL_isShadow_146 rfl rfl ?_
        refine sh_iload (pc := 147) dL_isShadow_147 rfl ?_
        refine sh_iload (pc := 149) dL_isShadow_149 rfl ?_
        refine sh_iconst (pc := 151) (v := 2) dL_isShadow_151 rfl ?_
        refine l_F3 (pc := 152) hx dL_isShadow_152 lk_L_63 rfl h (fun v12 J11 h => ?_)
        refine sh_iload (pc := 155) dL_isShadow_155 rfl ?_
        obtain ⟨hb_13, h⟩ := h
        refine sh_if_ge (pc := 157) (tgt := 165) dL_isShadow_157 (by decide) hb_13  (fun q_14 => ?_) (fun q_14 => ?_)
        · replace h := h.1 q_14
          refine sh_aload_n (pc := 165) dL_isShadow_165 rfl rfl ?_
          refine sh_aload_n (pc := 166) dL_isShadow_166 rfl rfl ?_
          refine sh_iload (pc := 167) dL_isShadow_167 rfl ?_
          refine l_S3i (pc := 169) dL_isShadow_169 lk_L_27 rfl h (fun v16 J15 h => ?_)
          obtain ⟨ho_17, h⟩ := h
          refine l_icmp_ne (pc := 172) (tgt := 205) dL_isShadow_172 (by decide) ho_17 (fun q_18 => ?_) (fun q_18 => ?_)
          · replace h := h.1 q_18
            refine sh_iconst (pc := 205) (v := 0) dL_isShadow_205 rfl ?_
            exact l_zret ext.rf dL_isShadow_206 rfl (Or.inl rfl) h
          · replace h := h.2 q_18
            refine sh_aload_n (pc := 175) dL_isShadow_175 rfl rfl ?_
            refine sh_iload (pc := 176) dL_isShadow_176 rfl ?_
            refine sh_iload (pc := 178) dL_isShadow_178 rfl ?_
            refine sh_iconst (pc := 180) (v := 3) dL_isShadow_180 rfl ?_
            refine l_F3 (pc := 181) hx dL_isShadow_181 lk_L_63 rfl h (fun v20 J19 h => ?_)
            refine sh_bipush (pc := 184) (v := (-2)) dL_isShadow_184 (by decide) ?_
            obtain ⟨ho_21, h⟩ := h
            refine l_icmp_ne (pc := 186) (tgt := 205) dL_isShadow_186 (by decide) ho_21 (fun q_22 => ?_) (fun q_22 => ?_)
            · replace h := h.1 q_22
              refine sh_iconst (pc := 205) (v := 0) dL_isShadow_205 rfl ?_
              exact l_zret ext.rf dL_isShadow_206 rfl (Or.inl rfl) h
            · replace h := h.2 q_22
              refine sh_aload_n (pc := 189) dL_isShadow_189 rfl rfl ?_
              refine sh_iload (pc := 190) dL_isShadow_190 rfl ?_
              refine sh_iconst (pc := 192) (v := 3) dL_isShadow_192 rfl ?_
              refine sh_iconst (pc := 193) (v := 0) dL_isShadow_193 rfl ?_
              refine l_F3 (pc := 194) hx dL_isShadow_194 lk_L_63 rfl h (fun v24 J23 h => ?_)
              refine sh_iconst (pc := 197) (v := (-1)) dL_isShadow_197 rfl ?_
              obtain ⟨ho_25, h⟩ := h
              refine l_icmp_ne (pc := 198) (tgt := 205) dL_isShadow_198 (by decide) ho_25 (fun q_26 => ?_) (fun q_26 => ?_)
              · replace h := h.1 q_26
                refine sh_iconst (pc := 205) (v := 0) dL_isShadow_205 rfl ?_
                exact l_zret ext.rf dL_isShadow_206 rfl (Or.inl rfl) h
              · replace h := h.2 q_26
                refine sh_iconst (pc := 201) (v := 1) dL_isShadow_201 rfl ?_
                refine sh_goto (pc := 202) (tgt := 206) dL_isShadow_202 (by decide) ?_
                exact l_zret ext.rf dL_isShadow_206 rfl (Or.inr rfl) h
        · replace h := h.2 q_14
          refine sh_bipush (pc := 160) (v := (-5)) dL_isShadow_160 (by decide) ?_
          refine sh_goto (pc := 162) (tgt := 172) dL_isShadow_162 (by decide) ?_
          obtain ⟨ho_27, h⟩ := h
          refine l_icmp_ne (pc := 172) (tgt := 205) dL_isShadow_172 (by decide) ho_27 (fun q_28 => ?_) (fun q_28 => ?_)
          · replace h := h.1 q_28
            refine sh_iconst (pc := 205) (v := 0) dL_isShadow_205 rfl ?_
            exact l_zret ext.rf dL_isShadow_206 rfl (Or.inl rfl) h
          · replace h := h.2 q_28
            refine sh_aload_n (pc := 175) dL_isShadow_175 rfl rfl ?_
            refine sh_iload (pc := 176) dL_isShadow_176 rfl ?_
            refine sh_iload (pc := 178) dL_isShadow_178 rfl ?_
            refine sh_iconst (pc := 180) (v := 3) dL_isShadow_180 rfl ?_
            refine l_F3 (pc := 181) hx dL_isShadow_181 lk_L_63 rfl h (fun v30 J29 h => ?_)
            refine sh_bipush (pc := 184) (v := (-2)) dL_isShadow_184 (by decide) ?_
            obtain ⟨ho_31, h⟩ := h
            refine l_icmp_ne (pc := 186) (tgt := 205) dL_isShadow_186 (by decide) ho_31 (fun q_32 => ?_) (fun q_32 => ?_)
            · replace h := h.1 q_32
              refine sh_iconst (pc := 205) (v := 0) dL_isShadow_205 rfl ?_
              exact l_zret ext.rf dL_isShadow_206 rfl (Or.inl rfl) h
            · replace h := h.2 q_32
              refine sh_aload_n (pc := 189) dL_isShadow_189 rfl rfl ?_
              refine sh_iload (pc := 190) dL_isShadow_190 rfl ?_
              refine sh_iconst (pc := 192) (v := 3) dL_isShadow_192 rfl ?_
              refine sh_iconst (pc := 193) (v := 0) dL_isShadow_193 rfl ?_
              refine l_F3 (pc := 194) hx dL_isShadow_194 lk_L_63 rfl h (fun v34 J33 h => ?_)
              refine sh_iconst (pc := 197) (v := (-1)) dL_isShadow_197 rfl ?_
              obtain ⟨ho_35, h⟩ := h
              refine l_icmp_ne (pc := 198) (tgt := 205) dL_isShadow_198 (by decide) ho_35 (fun q_36 => ?_) (fun q_36 => ?_)
              · replace h := h.1 q_36
                refine sh_iconst (pc := 205) (v := 0) dL_isShadow_205 rfl ?_
                exact l_zret ext.rf dL_isShadow_206 rfl (Or.inl rfl) h
              · replace h := h.2 q_36
                refine sh_iconst (pc := 201) (v := 1) dL_isShadow_201 rfl ?_
                refine sh_goto (pc := 202) (tgt := 206) dL_isShadow_202 (by decide) ?_
                exact l_zret ext.rf dL_isShadow_206 rfl (Or.inr rfl) h
  · replace h := h.2 q_2
    refine sh_aload_n (pc := 17) dL_isShadow_17 rfl rfl ?_
    refine sh_aload_n (pc := 18) dL_isShadow_18 rfl rfl ?_
    refine sh_aload_n (pc := 19) dL_isShadow_19 rfl rfl ?_
    refine sh_iload (pc := 20) dL_isShadow_20 rfl ?_
    refine sh_iload (pc := 22) dL_isShadow_22 rfl ?_
    refine sh_iload (pc := 24) dL_isShadow_24 rfl ?_
    refine l_S6i (pc := 26) dL_isShadow_26 lk_L_15 rfl h (fun v38 J37 h => ?_)
    refine k_istore (pc := 29) [some (.inr 1), some (.inr G), some (.inr L), some (.inr N), some (.inl y4), some (.inl y5), some (.inl y6), some (.inl y7), some (.inl y8), some (.inl v38)] dL_isShadow_29 rfl (by decide) ?_
    refine sh_iload (pc := 31) dL_isShadow_31 rfl ?_
    refine sh_iload (pc := 33) dL_isShadow_33 rfl ?_
    obtain ⟨hb_39, h⟩ := h
    refine sh_if_eq (pc := 35) (tgt := 42) dL_isShadow_35 (by decide) hb_39  (fun q_40 => ?_) (fun q_40 => ?_)
    · replace h := h.1 q_40
      refine sh_iconst (pc := 42) (v := 0) dL_isShadow_42 rfl ?_
      refine sh_iadd (pc := 43) dL_isShadow_43 ?_
      refine k_istore (pc := 44) [some (.inr 1), some (.inr G), some (.inr L), some (.inr N), some (.inl y4), some (.inl y5), some (.inl (y6 + 0)), some (.inl y7), some (.inl y8), some (.inl v38)] dL_isShadow_44 rfl (by decide) ?_
      refine sh_iload (pc := 46) dL_isShadow_46 rfl ?_
      refine sh_if_eq (pc := 48) (tgt := 108) dL_isShadow_48 (by decide) hb_39  (fun q_41 => ?_) (fun q_41 => ?_)
      · replace h := h.1 q_41
        refine sh_iload (pc := 108) dL_isShadow_108 rfl ?_
        refine k_istore (pc := 110) [some (.inr 1), some (.inr G), some (.inr L), some (.inr N), some (.inl y4), some (.inl y5), some (.inl (y6 + 0)), some (.inl y7), some (.inl y8), some (.inl v38)] dL_isShadow_110 rfl (by decide) ?_
        refine k_iinc (pc := 112) [some (.inr 1), some (.inr G), some (.inr L), some (.inr N), some (.inl y4), some (.inl y5), some (.inl (y6 + 0)), some (.inl y7), some (.inl (y8 + 1)), some (.inl v38)] dL_isShadow_112 rfl rfl (by decide) ?_
        refine sh_goto (pc := 115) (tgt := 10) dL_isShadow_115 (by decide) ?_
        exact sh_O.locals h (sub_some (sub_some (sub_some (sub_some (sub_some (sub_some (sub_some (sub_some (sub_some (sub_none sub_nil))))))))))
      · replace h := h.2 q_41
        refine sh_iload (pc := 51) dL_isShadow_51 rfl ?_
        obtain ⟨hb_42, h⟩ := h
        refine sh_if_lt (pc := 53) (tgt := 103) dL_isShadow_53 (by decide) hb_42  (fun q_43 => ?_) (fun q_43 => ?_)
        · replace h := h.1 q_43
          exact sh_O.locals h (sub_some (sub_some (sub_some (sub_some (sub_some (sub_some (sub_some (sub_none (sub_some (sub_none sub_nil))))))))))
        · replace h := h.2 q_43
          refine sh_aload_n (pc := 56) dL_isShadow_56 rfl rfl ?_
          refine sh_bipush (pc := 57) (v := 7) dL_isShadow_57 (by decide) ?_
          refine sh_iload (pc := 59) dL_isShadow_59 rfl ?_
          refine sh_imul (pc := 61) dL_isShadow_61 ?_
          obtain ⟨hi_44, h⟩ := h
          refine l_ald (pc := 62) dL_isShadow_62 hG hi_44 ?_
          refine sh_iload (pc := 63) dL_isShadow_63 rfl ?_
          refine sh_aload_n (pc := 65) dL_isShadow_65 rfl rfl ?_
          refine sh_iconst (pc := 66) (v := 4) dL_isShadow_66 rfl ?_
          refine sh_iload (pc := 67) dL_isShadow_67 rfl ?_
          refine sh_imul (pc := 69) dL_isShadow_69 ?_
          obtain ⟨hi_45, h⟩ := h
          refine l_ald (pc := 70) dL_isShadow_70 hL hi_45 ?_
          refine sh_iconst (pc := 71) (v := 2) dL_isShadow_71 rfl ?_
          refine sh_iadd (pc := 72) dL_isShadow_72 ?_
          refine sh_iconst (pc := 73) (v := 4) dL_isShadow_73 rfl ?_
          obtain ⟨hn_46, h⟩ := h
          refine sh_irem (pc := 74) dL_isShadow_74 hn_46.1 hn_46.2 (by decide) (by decide) ?_
          refine l_S3i (pc := 75) dL_isShadow_75 lk_L_11 rfl h (fun v48 J47 h => ?_)
          refine sh_aload_n (pc := 78) dL_isShadow_78 rfl rfl ?_
          refine sh_bipush (pc := 79) (v := 7) dL_isShadow_79 (by decide) ?_
          refine sh_iload (pc := 81) dL_isShadow_81 rfl ?_
          refine sh_imul (pc := 83) dL_isShadow_83 ?_
          refine l_ald (pc := 84) dL_isShadow_84 hG hi_44 ?_
          refine sh_iload (pc := 85) dL_isShadow_85 rfl ?_
          refine sh_aload_n (pc := 87) dL_isShadow_87 rfl rfl ?_
          refine sh_iconst (pc := 88) (v := 4) dL_isShadow_88 rfl ?_
          refine sh_iload (pc := 89) dL_isShadow_89 rfl ?_
          refine sh_imul (pc := 91) dL_isShadow_91 ?_
          refine l_ald (pc := 92) dL_isShadow_92 hL hi_45 ?_
          refine sh_iconst (pc := 93) (v := 2) dL_isShadow_93 rfl ?_
          refine sh_iadd (pc := 94) dL_isShadow_94 ?_
          refine sh_iconst (pc := 95) (v := 4) dL_isShadow_95 rfl ?_
          obtain ⟨hn_49, h⟩ := h
          refine sh_irem (pc := 96) dL_isShadow_96 hn_49.1 hn_49.2 (by decide) (by decide) ?_
          refine l_S3i (pc := 97) dL_isShadow_97 lk_L_11 rfl h (fun v51 J50 h => ?_)
          obtain ⟨hb_52, h⟩ := h
          obtain ⟨hb_53, h⟩ := h
          refine sh_icmp_le (pc := 100) (tgt := 108) dL_isShadow_100 (by decide) hb_52 hb_53 (fun q_54 => ?_) (fun q_54 => ?_)
          · replace h := h.1 q_54
            refine sh_iload (pc := 108) dL_isShadow_108 rfl ?_
            refine k_istore (pc := 110) [some (.inr 1), some (.inr G), some (.inr L), some (.inr N), some (.inl y4), some (.inl y5), some (.inl (y6 + 0)), some (.inl y7), some (.inl y8), some (.inl v38)] dL_isShadow_110 rfl (by decide) ?_
            refine k_iinc (pc := 112) [some (.inr 1), some (.inr G), some (.inr L), some (.inr N), some (.inl y4), some (.inl y5), some (.inl (y6 + 0)), some (.inl y7), some (.inl (y8 + 1)), some (.inl v38)] dL_isShadow_112 rfl rfl (by decide) ?_
            refine sh_goto (pc := 115) (tgt := 10) dL_isShadow_115 (by decide) ?_
            exact sh_O.locals h (sub_some (sub_some (sub_some (sub_some (sub_some (sub_some (sub_some (sub_some (sub_some (sub_none sub_nil))))))))))
          · replace h := h.2 q_54
            exact sh_O.locals h (sub_some (sub_some (sub_some (sub_some (sub_some (sub_some (sub_some (sub_none (sub_some (sub_none sub_nil))))))))))
    · replace h := h.2 q_40
      refine sh_iconst (pc := 38) (v := 1) dL_isShadow_38 rfl ?_
      refine sh_goto (pc := 39) (tgt := 43) dL_isShadow_39 (by decide) ?_
      refine sh_iadd (pc := 43) dL_isShadow_43 ?_
      refine k_istore (pc := 44) [some (.inr 1), some (.inr G), some (.inr L), some (.inr N), some (.inl y4), some (.inl y5), some (.inl (y6 + 1)), some (.inl y7), some (.inl y8), some (.inl v38)] dL_isShadow_44 rfl (by decide) ?_
      refine sh_iload (pc := 46) dL_isShadow_46 rfl ?_
      refine sh_if_eq (pc := 48) (tgt := 108) dL_isShadow_48 (by decide) hb_39  (fun q_55 => ?_) (fun q_55 => ?_)
      · replace h := h.1 q_55
        refine sh_iload (pc := 108) dL_isShadow_108 rfl ?_
        refine k_istore (pc := 110) [some (.inr 1), some (.inr G), some (.inr L), some (.inr N), some (.inl y4), some (.inl y5), some (.inl (y6 + 1)), some (.inl y7), some (.inl y8), some (.inl v38)] dL_isShadow_110 rfl (by decide) ?_
        refine k_iinc (pc := 112) [some (.inr 1), some (.inr G), some (.inr L), some (.inr N), some (.inl y4), some (.inl y5), some (.inl (y6 + 1)), some (.inl y7), some (.inl (y8 + 1)), some (.inl v38)] dL_isShadow_112 rfl rfl (by decide) ?_
        refine sh_goto (pc := 115) (tgt := 10) dL_isShadow_115 (by decide) ?_
        exact sh_O.locals h (sub_some (sub_some (sub_some (sub_some (sub_some (sub_some (sub_some (sub_some (sub_some (sub_none sub_nil))))))))))
      · replace h := h.2 q_55
        refine sh_iload (pc := 51) dL_isShadow_51 rfl ?_
        obtain ⟨hb_56, h⟩ := h
        refine sh_if_lt (pc := 53) (tgt := 103) dL_isShadow_53 (by decide) hb_56  (fun q_57 => ?_) (fun q_57 => ?_)
        · replace h := h.1 q_57
          exact sh_O.locals h (sub_some (sub_some (sub_some (sub_some (sub_some (sub_some (sub_some (sub_none (sub_some (sub_none sub_nil))))))))))
        · replace h := h.2 q_57
          refine sh_aload_n (pc := 56) dL_isShadow_56 rfl rfl ?_
          refine sh_bipush (pc := 57) (v := 7) dL_isShadow_57 (by decide) ?_
          refine sh_iload (pc := 59) dL_isShadow_59 rfl ?_
          refine sh_imul (pc := 61) dL_isShadow_61 ?_
          obtain ⟨hi_58, h⟩ := h
          refine l_ald (pc := 62) dL_isShadow_62 hG hi_58 ?_
          refine sh_iload (pc := 63) dL_isShadow_63 rfl ?_
          refine sh_aload_n (pc := 65) dL_isShadow_65 rfl rfl ?_
          refine sh_iconst (pc := 66) (v := 4) dL_isShadow_66 rfl ?_
          refine sh_iload (pc := 67) dL_isShadow_67 rfl ?_
          refine sh_imul (pc := 69) dL_isShadow_69 ?_
          obtain ⟨hi_59, h⟩ := h
          refine l_ald (pc := 70) dL_isShadow_70 hL hi_59 ?_
          refine sh_iconst (pc := 71) (v := 2) dL_isShadow_71 rfl ?_
          refine sh_iadd (pc := 72) dL_isShadow_72 ?_
          refine sh_iconst (pc := 73) (v := 4) dL_isShadow_73 rfl ?_
          obtain ⟨hn_60, h⟩ := h
          refine sh_irem (pc := 74) dL_isShadow_74 hn_60.1 hn_60.2 (by decide) (by decide) ?_
          refine l_S3i (pc := 75) dL_isShadow_75 lk_L_11 rfl h (fun v62 J61 h => ?_)
          refine sh_aload_n (pc := 78) dL_isShadow_78 rfl rfl ?_
          refine sh_bipush (pc := 79) (v := 7) dL_isShadow_79 (by decide) ?_
          refine sh_iload (pc := 81) dL_isShadow_81 rfl ?_
          refine sh_imul (pc := 83) dL_isShadow_83 ?_
          refine l_ald (pc := 84) dL_isShadow_84 hG hi_58 ?_
          refine sh_iload (pc := 85) dL_isShadow_85 rfl ?_
          refine sh_aload_n (pc := 87) dL_isShadow_87 rfl rfl ?_
          refine sh_iconst (pc := 88) (v := 4) dL_isShadow_88 rfl ?_
          refine sh_iload (pc := 89) dL_isShadow_89 rfl ?_
          refine sh_imul (pc := 91) dL_isShadow_91 ?_
          refine l_ald (pc := 92) dL_isShadow_92 hL hi_59 ?_
          refine sh_iconst (pc := 93) (v := 2) dL_isShadow_93 rfl ?_
          refine sh_iadd (pc := 94) dL_isShadow_94 ?_
          refine sh_iconst (pc := 95) (v := 4) dL_isShadow_95 rfl ?_
          obtain ⟨hn_63, h⟩ := h
          refine sh_irem (pc := 96) dL_isShadow_96 hn_63.1 hn_63.2 (by decide) (by decide) ?_
          refine l_S3i (pc := 97) dL_isShadow_97 lk_L_11 rfl h (fun v65 J64 h => ?_)
          obtain ⟨hb_66, h⟩ := h
          obtain ⟨hb_67, h⟩ := h
          refine sh_icmp_le (pc := 100) (tgt := 108) dL_isShadow_100 (by decide) hb_66 hb_67 (fun q_68 => ?_) (fun q_68 => ?_)
          · replace h := h.1 q_68
            refine sh_iload (pc := 108) dL_isShadow_108 rfl ?_
            refine k_istore (pc := 110) [some (.inr 1), some (.inr G), some (.inr L), some (.inr N), some (.inl y4), some (.inl y5), some (.inl (y6 + 1)), some (.inl y7), some (.inl y8), some (.inl v38)] dL_isShadow_110 rfl (by decide) ?_
            refine k_iinc (pc := 112) [some (.inr 1), some (.inr G), some (.inr L), some (.inr N), some (.inl y4), some (.inl y5), some (.inl (y6 + 1)), some (.inl y7), some (.inl (y8 + 1)), some (.inl v38)] dL_isShadow_112 rfl rfl (by decide) ?_
            refine sh_goto (pc := 115) (tgt := 10) dL_isShadow_115 (by decide) ?_
            exact sh_O.locals h (sub_some (sub_some (sub_some (sub_some (sub_some (sub_some (sub_some (sub_some (sub_some (sub_none sub_nil))))))))))
          · replace h := h.2 q_68
            exact sh_O.locals h (sub_some (sub_some (sub_some (sub_some (sub_some (sub_some (sub_some (sub_none (sub_some (sub_none sub_nil))))))))))
set_option maxRecDepth 100000 in
set_option maxHeartbeats 4000000 in
theorem lL_isShadow_103 {c : sh_Cx} (hx : cx c) {G : Nat} (hG : dy c G 42) {L : Nat} (hL : dy c L 12) {N : Nat} (hN : dy c N 9) {y4 : Int} {y5 : Int} {y6 : Int} {y8 : Int} {I : sh_Mem} {Q : Int → sh_Mem → Prop} (h : kl c (0, 0) mL_isShadow 10 [some (.inr 1), some (.inr G), some (.inr L), some (.inr N), some (.inl y4), some (.inl y5), some (.inl y6), some (.inl y8), some (.inl (y8 + 1)), none] [] I (qli c Q)) : kl c (0, 0) mL_isShadow 103 [some (.inr 1), some (.inr G), some (.inr L), some (.inr N), some (.inl y4), some (.inl y5), some (.inl y6), none, some (.inl y8), none] [] I (qli c Q) := by
  refine sh_iload (pc := 103) dL_isShadow_103 rfl ?_
  refine sh_goto (pc := 105) (tgt := 110) dL_isShadow_105 (by decide) ?_
  refine k_istore (pc := 110) [some (.inr 1), some (.inr G), some (.inr L), some (.inr N), some (.inl y4), some (.inl y5), some (.inl y6), some (.inl y8), some (.inl y8), none] dL_isShadow_110 rfl (by decide) ?_
  refine k_iinc (pc := 112) [some (.inr 1), some (.inr G), some (.inr L), some (.inr N), some (.inl y4), some (.inl y5), some (.inl y6), some (.inl y8), some (.inl (y8 + 1)), none] dL_isShadow_112 rfl rfl (by decide) ?_
  refine sh_goto (pc := 115) (tgt := 10) dL_isShadow_115 (by decide) ?_
  exact sh_O.locals h (sub_some (sub_some (sub_some (sub_some (sub_some (sub_some (sub_some (sub_some (sub_some (sub_none sub_nil))))))))))
set_option maxRecDepth 100000 in
set_option maxHeartbeats 4000000 in
theorem eL_steps {c : sh_Cx} (hx : cx c) {G : Nat} (hG : dy c G 42) {L : Nat} (hL : dy c L 12) {N : Nat} (hN : dy c N 9) {x4 : Int} {I : sh_Mem} {Q : Int → sh_Mem → Prop} (h : ((0 ≤ (7 * ((sh_cl (sh_cl I c.1) (cp c 50).1) N 1)) ∧ (7 * ((sh_cl (sh_cl I c.1) (cp c 50).1) N 1)) < (42 : Int)) ∧ ((0 ≤ ((sh_cl (sh_cl I c.1) (cp c 50).1) G (7 * ((sh_cl (sh_cl I c.1) (cp c 50).1) N 1))) ∧ ((sh_cl (sh_cl I c.1) (cp c 50).1) G (7 * ((sh_cl (sh_cl I c.1) (cp c 50).1) N 1))) < 2147483648) ∧ (sh_Bd ((sh_cl (sh_cl I c.1) (cp c 50).1) G (7 * ((sh_cl (sh_cl I c.1) (cp c 50).1) N 1))) ∧ ((50 ≤ ((sh_cl (sh_cl I c.1) (cp c 50).1) G (7 * ((sh_cl (sh_cl I c.1) (cp c 50).1) N 1))) → ((0 ≤ (((sh_cl (sh_cl I c.1) (cp c 50).1) G (7 * ((sh_cl (sh_cl I c.1) (cp c 50).1) N 1))) % 50) ∧ (((sh_cl (sh_cl I c.1) (cp c 50).1) G (7 * ((sh_cl (sh_cl I c.1) (cp c 50).1) N 1))) % 50) < (50 : Int)) ∧ ((50 ≤ ((sh_cl (sh_cl I c.1) (cp c 50).1) G (7 * ((sh_cl (sh_cl I c.1) (cp c 50).1) N 1))) → kl (cp (cp c 50) 50) (2, 100) mL_steps 65 [some (.inr G), some (.inr L), some (.inr N), some (.inl x4), some (.inr c.1), some (.inr (cp c 50).1), none, some (.inl 0), none, none, none] [] (sh_u (sh_u (sh_cl (sh_cl I c.1) (cp c 50).1) c.1 (((sh_cl (sh_cl I c.1) (cp c 50).1) G (7 * ((sh_cl (sh_cl I c.1) (cp c 50).1) N 1))) % 50) 0) (cp c 50).1 (((sh_cl (sh_cl I c.1) (cp c 50).1) G (7 * ((sh_cl (sh_cl I c.1) (cp c 50).1) N 1))) % 50) 1) (qli c Q)) ∧ (((sh_cl (sh_cl I c.1) (cp c 50).1) G (7 * ((sh_cl (sh_cl I c.1) (cp c 50).1) N 1))) < 50 → kl (cp (cp c 50) 50) (2, 100) mL_steps 65 [some (.inr G), some (.inr L), some (.inr N), some (.inl x4), some (.inr c.1), some (.inr (cp c 50).1), none, some (.inl 0), none, none, none] [] (sh_u (sh_u (sh_cl (sh_cl I c.1) (cp c 50).1) c.1 (((sh_cl (sh_cl I c.1) (cp c 50).1) G (7 * ((sh_cl (sh_cl I c.1) (cp c 50).1) N 1))) % 50) 0) (cp c 50).1 (((sh_cl (sh_cl I c.1) (cp c 50).1) G (7 * ((sh_cl (sh_cl I c.1) (cp c 50).1) N 1))) % 50) 0) (qli c Q))))) ∧ (((sh_cl (sh_cl I c.1) (cp c 50).1) G (7 * ((sh_cl (sh_cl I c.1) (cp c 50).1) N 1))) < 50 → ((0 ≤ (((sh_cl (sh_cl I c.1) (cp c 50).1) G (7 * ((sh_cl (sh_cl I c.1) (cp c 50).1) N 1))) % 50) ∧ (((sh_cl (sh_cl I c.1) (cp c 50).1) G (7 * ((sh_cl (sh_cl I c.1) (cp c 50).1) N 1))) % 50) < (50 : Int)) ∧ ((50 ≤ ((sh_cl (sh_cl I c.1) (cp c 50).1) G (7 * ((sh_cl (sh_cl I c.1) (cp c 50).1) N 1))) → kl (cp (cp c 50) 50) (2, 100) mL_steps 65 [some (.inr G), some (.inr L), some (.inr N), some (.inl x4), some (.inr c.1), some (.inr (cp c 50).1), none, some (.inl 0), none, none, none] [] (sh_u (sh_u (sh_cl (sh_cl I c.1) (cp c 50).1) c.1 (((sh_cl (sh_cl I c.1) (cp c 50).1) G (7 * ((sh_cl (sh_cl I c.1) (cp c 50).1) N 1))) % 50) 1) (cp c 50).1 (((sh_cl (sh_cl I c.1) (cp c 50).1) G (7 * ((sh_cl (sh_cl I c.1) (cp c 50).1) N 1))) % 50) 1) (qli c Q)) ∧ (((sh_cl (sh_cl I c.1) (cp c 50).1) G (7 * ((sh_cl (sh_cl I c.1) (cp c 50).1) N 1))) < 50 → kl (cp (cp c 50) 50) (2, 100) mL_steps 65 [some (.inr G), some (.inr L), some (.inr N), some (.inl x4), some (.inr c.1), some (.inr (cp c 50).1), none, some (.inl 0), none, none, none] [] (sh_u (sh_u (sh_cl (sh_cl I c.1) (cp c 50).1) c.1 (((sh_cl (sh_cl I c.1) (cp c 50).1) G (7 * ((sh_cl (sh_cl I c.1) (cp c 50).1) N 1))) % 50) 1) (cp c 50).1 (((sh_cl (sh_cl I c.1) (cp c 50).1) G (7 * ((sh_cl (sh_cl I c.1) (cp c 50).1) N 1))) % 50) 0) (qli c Q)))))))))) : cl c mL_steps [.inr G, .inr L, .inr N, .inl x4] I (li c Q) := by
  refine l_callI cd_L_steps.2.2.2 (Nat.le_of_ble_eq_true rfl) ?_
  show kl c (0, 0) mL_steps 0 [some (.inr G), some (.inr L), some (.inr N), some (.inl x4), none, none, none, none, none, none, none] [] I (qli c Q)
  refine sh_bipush (pc := 0) (v := 50) dL_steps_0 (by decide) ?_
  refine l_newa (pc := 2) (N := 50) dL_steps_2 wa_int rfl (by decide) hx.1 (by simp [sh_noref]) (by have hk0 := hx.1; have hk1 : (G : Nat) < c.1 := (hG).lt; have hk2 : (L : Nat) < c.1 := (hL).lt; have hk3 : (N : Nat) < c.1 := (hN).lt; intro o ho; simp at ho; omega) (by decide) ?_
  refine l_astore (pc := 4) [some (.inr G), some (.inr L), some (.inr N), some (.inl x4), some (.inr c.1), none, none, none, none, none, none] dL_steps_4 rfl (by decide) ?_
  refine sh_bipush (pc := 6) (v := 50) dL_steps_6 (by decide) ?_
  refine l_newa (pc := 8) (N := 50) dL_steps_8 wa_int rfl (by decide) (cx.push (N := 50) hx).1 (by simp [sh_noref]) (by have hk0 := (cx.push (N := 50) hx).1; have hk1 : (G : Nat) < (cp c 50).1 := ((dy.push hG)).lt; have hk2 : (L : Nat) < (cp c 50).1 := ((dy.push hL)).lt; have hk3 : (N : Nat) < (cp c 50).1 := ((dy.push hN)).lt; have hk4 : (c.1 : Nat) < (cp c 50).1 := ((dy.top hx.1 (by decide))).lt; intro o ho; simp at ho; omega) (by decide) ?_
  refine l_astore (pc := 10) [some (.inr G), some (.inr L), some (.inr N), some (.inl x4), some (.inr c.1), some (.inr (cp c 50).1), none, none, none, none, none] dL_steps_10 rfl (by decide) ?_
  refine sh_aload_n (pc := 12) dL_steps_12 rfl rfl ?_
  refine sh_bipush (pc := 13) (v := 7) dL_steps_13 (by decide) ?_
  refine sh_aload_n (pc := 15) dL_steps_15 rfl rfl ?_
  refine sh_iconst (pc := 16) (v := 1) dL_steps_16 rfl ?_
  refine l_ald (pc := 17) dL_steps_17 (dy.push (dy.push hN)) (by decide) ?_
  refine sh_imul (pc := 18) dL_steps_18 ?_
  obtain ⟨hi_1, h⟩ := h
  refine l_ald (pc := 19) dL_steps_19 (dy.push (dy.push hG)) hi_1 ?_
  refine k_istore (pc := 20) [some (.inr G), some (.inr L), some (.inr N), some (.inl x4), some (.inr c.1), some (.inr (cp c 50).1), some (.inl ((sh_cl (sh_cl I c.1) (cp c 50).1) G (7 * ((sh_cl (sh_cl I c.1) (cp c 50).1) N 1)))), none, none, none, none] dL_steps_20 rfl (by decide) ?_
  refine sh_aload (pc := 22) dL_steps_22 rfl ?_
  refine sh_iload (pc := 24) dL_steps_24 rfl ?_
  refine sh_bipush (pc := 26) (v := 50) dL_steps_26 (by decide) ?_
  obtain ⟨hn_2, h⟩ := h
  refine sh_irem (pc := 28) dL_steps_28 hn_2.1 hn_2.2 (by decide) (by decide) ?_
  refine sh_iload (pc := 29) dL_steps_29 rfl ?_
  refine sh_bipush (pc := 31) (v := 50) dL_steps_31 (by decide) ?_
  obtain ⟨hb_3, h⟩ := h
  refine sh_icmp_ge (pc := 33) (tgt := 40) dL_steps_33 (by decide) hb_3 (bd_lit (by decide)) (fun q_4 => ?_) (fun q_4 => ?_)
  · replace h := h.1 q_4
    refine sh_iconst (pc := 40) (v := 0) dL_steps_40 rfl ?_
    obtain ⟨hi_5, h⟩ := h
    refine l_ast (pc := 41) dL_steps_41 (dy.push (dy.top hx.1 (by decide))) hi_5 ?_
    refine sh_aload (pc := 42) dL_steps_42 rfl ?_
    refine sh_iload (pc := 44) dL_steps_44 rfl ?_
    refine sh_bipush (pc := 46) (v := 50) dL_steps_46 (by decide) ?_
    refine sh_irem (pc := 48) dL_steps_48 hn_2.1 hn_2.2 (by decide) (by decide) ?_
    refine sh_iload (pc := 49) dL_steps_49 rfl ?_
    refine sh_bipush (pc := 51) (v := 50) dL_steps_51 (by decide) ?_
    refine sh_icmp_ge (pc := 53) (tgt := 60) dL_steps_53 (by decide) hb_3 (bd_lit (by decide)) (fun q_6 => ?_) (fun q_6 => ?_)
    · replace h := h.1 q_6
      refine sh_iconst (pc := 60) (v := 1) dL_steps_60 rfl ?_
      refine l_ast (pc := 61) dL_steps_61 (dy.top (cx.push (N := 50) hx).1 (by decide)) hi_5 ?_
      refine sh_iconst (pc := 62) (v := 0) dL_steps_62 rfl ?_
      refine k_istore (pc := 63) [some (.inr G), some (.inr L), some (.inr N), some (.inl x4), some (.inr c.1), some (.inr (cp c 50).1), some (.inl ((sh_cl (sh_cl I c.1) (cp c 50).1) G (7 * ((sh_cl (sh_cl I c.1) (cp c 50).1) N 1)))), some (.inl 0), none, none, none] dL_steps_63 rfl (by decide) ?_
      exact sh_O.locals h (sub_some (sub_some (sub_some (sub_some (sub_some (sub_some (sub_none (sub_some (sub_none (sub_none (sub_none sub_nil)))))))))))
    · replace h := h.2 q_6
      refine sh_iconst (pc := 56) (v := 0) dL_steps_56 rfl ?_
      refine sh_goto (pc := 57) (tgt := 61) dL_steps_57 (by decide) ?_
      refine l_ast (pc := 61) dL_steps_61 (dy.top (cx.push (N := 50) hx).1 (by decide)) hi_5 ?_
      refine sh_iconst (pc := 62) (v := 0) dL_steps_62 rfl ?_
      refine k_istore (pc := 63) [some (.inr G), some (.inr L), some (.inr N), some (.inl x4), some (.inr c.1), some (.inr (cp c 50).1), some (.inl ((sh_cl (sh_cl I c.1) (cp c 50).1) G (7 * ((sh_cl (sh_cl I c.1) (cp c 50).1) N 1)))), some (.inl 0), none, none, none] dL_steps_63 rfl (by decide) ?_
      exact sh_O.locals h (sub_some (sub_some (sub_some (sub_some (sub_some (sub_some (sub_none (sub_some (sub_none (sub_none (sub_none sub_nil)))))))))))
  · replace h := h.2 q_4
    refine sh_iconst (pc := 36) (v := 1) dL_steps_36 rfl ?_
    refine sh_goto (pc := 37) (tgt := 41) dL_steps_37 (by decide) ?_
    obtain ⟨hi_7, h⟩ := h
    refine l_ast (pc := 41) dL_steps_41 (dy.push (dy.top hx.1 (by decide))) hi_7 ?_
    refine sh_aload (pc := 42) dL_steps_42 rfl ?_
    refine sh_iload (pc := 44) dL_steps_44 rfl ?_
    refine sh_bipush (pc := 46) (v := 50) dL_steps_46 (by decide) ?_
    refine sh_irem (pc := 48) dL_steps_48 hn_2.1 hn_2.2 (by decide) (by decide) ?_
    refine sh_iload (pc := 49) dL_steps_49 rfl ?_
    refine sh_bipush (pc := 51) (v := 50) dL_steps_51 (by decide) ?_
    refine sh_icmp_ge (pc := 53) (tgt := 60) dL_steps_53 (by decide) hb_3 (bd_lit (by decide)) (fun q_8 => ?_) (fun q_8 => ?_)
    · replace h := h.1 q_8
      refine sh_iconst (pc := 60) (v := 1) dL_steps_60 rfl ?_
      refine l_ast (pc := 61) dL_steps_61 (dy.top (cx.push (N := 50) hx).1 (by decide)) hi_7 ?_
      refine sh_iconst (pc := 62) (v := 0) dL_steps_62 rfl ?_
      refine k_istore (pc := 63) [some (.inr G), some (.inr L), some (.inr N), some (.inl x4), some (.inr c.1), some (.inr (cp c 50).1), some (.inl ((sh_cl (sh_cl I c.1) (cp c 50).1) G (7 * ((sh_cl (sh_cl I c.1) (cp c 50).1) N 1)))), some (.inl 0), none, none, none] dL_steps_63 rfl (by decide) ?_
      exact sh_O.locals h (sub_some (sub_some (sub_some (sub_some (sub_some (sub_some (sub_none (sub_some (sub_none (sub_none (sub_none sub_nil)))))))))))
    · replace h := h.2 q_8
      refine sh_iconst (pc := 56) (v := 0) dL_steps_56 rfl ?_
      refine sh_goto (pc := 57) (tgt := 61) dL_steps_57 (by decide) ?_
      refine l_ast (pc := 61) dL_steps_61 (dy.top (cx.push (N := 50) hx).1 (by decide)) hi_7 ?_
      refine sh_iconst (pc := 62) (v := 0) dL_steps_62 rfl ?_
      refine k_istore (pc := 63) [some (.inr G), some (.inr L), some (.inr N), some (.inl x4), some (.inr c.1), some (.inr (cp c 50).1), some (.inl ((sh_cl (sh_cl I c.1) (cp c 50).1) G (7 * ((sh_cl (sh_cl I c.1) (cp c 50).1) N 1)))), some (.inl 0), none, none, none] dL_steps_63 rfl (by decide) ?_
      exact sh_O.locals h (sub_some (sub_some (sub_some (sub_some (sub_some (sub_some (sub_none (sub_some (sub_none (sub_none (sub_none sub_nil)))))))))))
set_option maxRecDepth 100000 in
set_option maxHeartbeats 4000000 in
theorem lL_steps_65 {c0 : sh_Cx} {cn : Nat × Nat} {c : sh_Cx} (hx : cx c) {G : Nat} (hG : dy c G 42) {L : Nat} (hL : dy c L 12) {N : Nat} (hN : dy c N 9) (he : ext c0 c) {y3 : Int} {A4 : Nat} (hA4 : dy c A4 50) {A5 : Nat} (hA5 : dy c A5 50) {y7 : Int} {I : sh_Mem} {Q : Int → sh_Mem → Prop} (h : (sh_Bd y7 ∧ ((100 ≤ y7 → Q (-5) I) ∧ (y7 < 100 → kl c cn mL_steps 75 [some (.inr G), some (.inr L), some (.inr N), some (.inl y3), some (.inr A4), some (.inr A5), none, some (.inl y7), some (.inl 0), none, none] [] I (qli c0 Q))))) : kl c cn mL_steps 65 [some (.inr G), some (.inr L), some (.inr N), some (.inl y3), some (.inr A4), some (.inr A5), none, some (.inl y7), none, none, none] [] I (qli c0 Q) := by
  refine sh_iload (pc := 65) dL_steps_65 rfl ?_
  refine sh_bipush (pc := 67) (v := 100) dL_steps_67 (by decide) ?_
  obtain ⟨hb_1, h⟩ := h
  refine sh_icmp_ge (pc := 69) (tgt := 262) dL_steps_69 (by decide) hb_1 (bd_lit (by decide)) (fun q_2 => ?_) (fun q_2 => ?_)
  · replace h := h.1 q_2
    refine sh_bipush (pc := 262) (v := (-5)) dL_steps_262 (by decide) ?_
    exact l_iret he dL_steps_264 rfl h
  · replace h := h.2 q_2
    refine sh_iconst (pc := 72) (v := 0) dL_steps_72 rfl ?_
    refine k_istore (pc := 73) [some (.inr G), some (.inr L), some (.inr N), some (.inl y3), some (.inr A4), some (.inr A5), none, some (.inl y7), some (.inl 0), none, none] dL_steps_73 rfl (by decide) ?_
    exact sh_O.locals h (sub_some (sub_some (sub_some (sub_some (sub_some (sub_some (sub_none (sub_some (sub_some (sub_none (sub_none sub_nil)))))))))))
set_option maxRecDepth 100000 in
set_option maxHeartbeats 4000000 in
theorem lL_steps_75 {c0 : sh_Cx} {cn : Nat × Nat} {c : sh_Cx} (hx : cx c) {G : Nat} (hG : dy c G 42) {L : Nat} (hL : dy c L 12) {N : Nat} (hN : dy c N 9) (he : ext c0 c) {y3 : Int} {A4 : Nat} (hA4 : dy c A4 50) {A5 : Nat} (hA5 : dy c A5 50) {y7 : Int} {y8 : Int} {I : sh_Mem} {Q : Int → sh_Mem → Prop} (h : (sh_Bd y8 ∧ ((100 ≤ y8 → kl c cn mL_steps 65 [some (.inr G), some (.inr L), some (.inr N), some (.inl y3), some (.inr A4), some (.inr A5), none, some (.inl (y7 + 1)), none, none, none] [] I (qli c0 Q)) ∧ (y8 < 100 → ((50 ≤ y8 → ((0 ≤ (y8 - 50) ∧ (y8 - 50) < (50 : Int)) ∧ (((I A5 (y8 - 50)) = (y7 + 1) ∨ (sh_Bd (I A5 (y8 - 50)) ∧ sh_Bd (y7 + 1))) ∧ ((¬ (I A5 (y8 - 50)) = (y7 + 1) → kl c cn mL_steps 75 [some (.inr G), some (.inr L), some (.inr N), some (.inl y3), some (.inr A4), some (.inr A5), none, some (.inl y7), some (.inl (y8 + 1)), none, none] [] I (qli c0 Q)) ∧ ((I A5 (y8 - 50)) = (y7 + 1) → (cl c mL_shaded [.inr G, .inr L, .inr N, .inl y3, .inl y8] I (li c fun v8 J7 => ((v8 = 1 ∧ Q y7 J7) ∨ (v8 = 0 ∧ kl c cn mL_steps 130 [some (.inr G), some (.inr L), some (.inr N), some (.inl y3), some (.inr A4), some (.inr A5), none, some (.inl y7), some (.inl y8), some (.inl 0), none] [] J7 (qli c0 Q)))))))))) ∧ (y8 < 50 → ((0 ≤ y8 ∧ y8 < (50 : Int)) ∧ (((I A4 y8) = (y7 + 1) ∨ (sh_Bd (I A4 y8) ∧ sh_Bd (y7 + 1))) ∧ ((¬ (I A4 y8) = (y7 + 1) → kl c cn mL_steps 75 [some (.inr G), some (.inr L), some (.inr N), some (.inl y3), some (.inr A4), some (.inr A5), none, some (.inl y7), some (.inl (y8 + 1)), none, none] [] I (qli c0 Q)) ∧ ((I A4 y8) = (y7 + 1) → (cl c mL_shaded [.inr G, .inr L, .inr N, .inl y3, .inl y8] I (li c fun v13 J12 => ((v13 = 1 ∧ Q y7 J12) ∨ (v13 = 0 ∧ kl c cn mL_steps 130 [some (.inr G), some (.inr L), some (.inr N), some (.inl y3), some (.inr A4), some (.inr A5), none, some (.inl y7), some (.inl y8), some (.inl 0), none] [] J12 (qli c0 Q))))))))))))))) : kl c cn mL_steps 75 [some (.inr G), some (.inr L), some (.inr N), some (.inl y3), some (.inr A4), some (.inr A5), none, some (.inl y7), some (.inl y8), none, none] [] I (qli c0 Q) := by
  refine sh_iload (pc := 75) dL_steps_75 rfl ?_
  refine sh_bipush (pc := 77) (v := 100) dL_steps_77 (by decide) ?_
  obtain ⟨hb_1, h⟩ := h
  refine sh_icmp_ge (pc := 79) (tgt := 256) dL_steps_79 (by decide) hb_1 (bd_lit (by decide)) (fun q_2 => ?_) (fun q_2 => ?_)
  · replace h := h.1 q_2
    refine k_iinc (pc := 256) [some (.inr G), some (.inr L), some (.inr N), some (.inl y3), some (.inr A4), some (.inr A5), none, some (.inl (y7 + 1)), some (.inl y8), none, none] dL_steps_256 rfl rfl (by decide) ?_
    refine sh_goto (pc := 259) (tgt := 65) dL_steps_259 (by decide) ?_
    exact sh_O.locals h (sub_some (sub_some (sub_some (sub_some (sub_some (sub_some (sub_none (sub_some (sub_none (sub_none (sub_none sub_nil)))))))))))
  · replace h := h.2 q_2
    refine sh_iload (pc := 82) dL_steps_82 rfl ?_
    refine sh_bipush (pc := 84) (v := 50) dL_steps_84 (by decide) ?_
    refine sh_icmp_ge (pc := 86) (tgt := 97) dL_steps_86 (by decide) hb_1 (bd_lit (by decide)) (fun q_3 => ?_) (fun q_3 => ?_)
    · replace h := h.1 q_3
      refine sh_aload (pc := 97) dL_steps_97 rfl ?_
      refine sh_iload (pc := 99) dL_steps_99 rfl ?_
      refine sh_bipush (pc := 101) (v := 50) dL_steps_101 (by decide) ?_
      refine sh_isub (pc := 103) dL_steps_103 ?_
      obtain ⟨hi_4, h⟩ := h
      refine l_ald (pc := 104) dL_steps_104 hA5 hi_4 ?_
      refine sh_iload (pc := 105) dL_steps_105 rfl ?_
      refine sh_iconst (pc := 107) (v := 1) dL_steps_107 rfl ?_
      refine sh_iadd (pc := 108) dL_steps_108 ?_
      obtain ⟨ho_5, h⟩ := h
      refine l_icmp_ne (pc := 109) (tgt := 250) dL_steps_109 (by decide) ho_5 (fun q_6 => ?_) (fun q_6 => ?_)
      · replace h := h.1 q_6
        refine k_iinc (pc := 250) [some (.inr G), some (.inr L), some (.inr N), some (.inl y3), some (.inr A4), some (.inr A5), none, some (.inl y7), some (.inl (y8 + 1)), none, none] dL_steps_250 rfl rfl (by decide) ?_
        refine sh_goto (pc := 253) (tgt := 75) dL_steps_253 (by decide) ?_
        exact sh_O.locals h (sub_some (sub_some (sub_some (sub_some (sub_some (sub_some (sub_none (sub_some (sub_some (sub_none (sub_none sub_nil)))))))))))
      · replace h := h.2 q_6
        refine sh_aload_n (pc := 112) dL_steps_112 rfl rfl ?_
        refine sh_aload_n (pc := 113) dL_steps_113 rfl rfl ?_
        refine sh_aload_n (pc := 114) dL_steps_114 rfl rfl ?_
        refine sh_iload_n (pc := 115) dL_steps_115 rfl rfl ?_
        refine sh_iload (pc := 116) dL_steps_116 rfl ?_
        refine l_S5i (pc := 118) dL_steps_118 lk_L_19 rfl h (fun v8 J7 h => ?_)
        rcases h with ⟨rfl, h⟩ | ⟨rfl, h⟩
        · skip
          refine sh_if_eq (pc := 121) (tgt := 127) dL_steps_121 (by decide) (bd_lit (by decide)) (fun qz => ?_) (fun qz => ?_)
          · exact absurd qz (by decide)
          · skip
            refine sh_iload (pc := 124) dL_steps_124 rfl ?_
            exact l_iret he dL_steps_126 rfl h
        · skip
          refine sh_if_eq (pc := 121) (tgt := 127) dL_steps_121 (by decide) (bd_lit (by decide)) (fun qz => ?_) (fun qz => ?_)
          · skip
            refine sh_iconst (pc := 127) (v := 0) dL_steps_127 rfl ?_
            refine k_istore (pc := 128) [some (.inr G), some (.inr L), some (.inr N), some (.inl y3), some (.inr A4), some (.inr A5), none, some (.inl y7), some (.inl y8), some (.inl 0), none] dL_steps_128 rfl (by decide) ?_
            exact sh_O.locals h (sub_some (sub_some (sub_some (sub_some (sub_some (sub_some (sub_none (sub_some (sub_some (sub_some (sub_none sub_nil)))))))))))
          · exact absurd qz (by decide)
    · replace h := h.2 q_3
      refine sh_aload (pc := 89) dL_steps_89 rfl ?_
      refine sh_iload (pc := 91) dL_steps_91 rfl ?_
      obtain ⟨hi_9, h⟩ := h
      refine l_ald (pc := 93) dL_steps_93 hA4 hi_9 ?_
      refine sh_goto (pc := 94) (tgt := 105) dL_steps_94 (by decide) ?_
      refine sh_iload (pc := 105) dL_steps_105 rfl ?_
      refine sh_iconst (pc := 107) (v := 1) dL_steps_107 rfl ?_
      refine sh_iadd (pc := 108) dL_steps_108 ?_
      obtain ⟨ho_10, h⟩ := h
      refine l_icmp_ne (pc := 109) (tgt := 250) dL_steps_109 (by decide) ho_10 (fun q_11 => ?_) (fun q_11 => ?_)
      · replace h := h.1 q_11
        refine k_iinc (pc := 250) [some (.inr G), some (.inr L), some (.inr N), some (.inl y3), some (.inr A4), some (.inr A5), none, some (.inl y7), some (.inl (y8 + 1)), none, none] dL_steps_250 rfl rfl (by decide) ?_
        refine sh_goto (pc := 253) (tgt := 75) dL_steps_253 (by decide) ?_
        exact sh_O.locals h (sub_some (sub_some (sub_some (sub_some (sub_some (sub_some (sub_none (sub_some (sub_some (sub_none (sub_none sub_nil)))))))))))
      · replace h := h.2 q_11
        refine sh_aload_n (pc := 112) dL_steps_112 rfl rfl ?_
        refine sh_aload_n (pc := 113) dL_steps_113 rfl rfl ?_
        refine sh_aload_n (pc := 114) dL_steps_114 rfl rfl ?_
        refine sh_iload_n (pc := 115) dL_steps_115 rfl rfl ?_
        refine sh_iload (pc := 116) dL_steps_116 rfl ?_
        refine l_S5i (pc := 118) dL_steps_118 lk_L_19 rfl h (fun v13 J12 h => ?_)
        rcases h with ⟨rfl, h⟩ | ⟨rfl, h⟩
        · skip
          refine sh_if_eq (pc := 121) (tgt := 127) dL_steps_121 (by decide) (bd_lit (by decide)) (fun qz => ?_) (fun qz => ?_)
          · exact absurd qz (by decide)
          · skip
            refine sh_iload (pc := 124) dL_steps_124 rfl ?_
            exact l_iret he dL_steps_126 rfl h
        · skip
          refine sh_if_eq (pc := 121) (tgt := 127) dL_steps_121 (by decide) (bd_lit (by decide)) (fun qz => ?_) (fun qz => ?_)
          · skip
            refine sh_iconst (pc := 127) (v := 0) dL_steps_127 rfl ?_
            refine k_istore (pc := 128) [some (.inr G), some (.inr L), some (.inr N), some (.inl y3), some (.inr A4), some (.inr A5), none, some (.inl y7), some (.inl y8), some (.inl 0), none] dL_steps_128 rfl (by decide) ?_
            exact sh_O.locals h (sub_some (sub_some (sub_some (sub_some (sub_some (sub_some (sub_none (sub_some (sub_some (sub_some (sub_none sub_nil)))))))))))
          · exact absurd qz (by decide)
set_option maxRecDepth 100000 in
set_option maxHeartbeats 4000000 in
theorem lL_steps_130 {c0 : sh_Cx} {cn : Nat × Nat} {c : sh_Cx} (hx : cx c) {G : Nat} (hG : dy c G 42) {L : Nat} (hL : dy c L 12) {N : Nat} (hN : dy c N 9) (he : ext c0 c) {y3 : Int} {A4 : Nat} (hA4 : dy c A4 50) {A5 : Nat} (hA5 : dy c A5 50) {y7 : Int} {y8 : Int} {y9 : Int} {I : sh_Mem} {Q : Int → sh_Mem → Prop} (h : (sh_Bd y9 ∧ ((4 ≤ y9 → kl c cn mL_steps 75 [some (.inr G), some (.inr L), some (.inr N), some (.inl y3), some (.inr A4), some (.inr A5), none, some (.inl y7), some (.inl (y8 + 1)), none, none] [] I (qli c0 Q)) ∧ (y9 < 4 → (cl c mL_beside [.inl y8, .inl y9] I (li c fun v4 J3 => (sh_Bd v4 ∧ ((v4 < 0 → kl c cn mL_steps 130 [some (.inr G), some (.inr L), some (.inr N), some (.inl y3), some (.inr A4), some (.inr A5), none, some (.inl y7), some (.inl y8), some (.inl (y9 + 1)), none] [] J3 (qli c0 Q)) ∧ (0 ≤ v4 → (cl c mL_who [.inr G, .inr N, .inl v4] J3 (li c fun v8 J7 => ((v8 = (-5) ∨ (sh_Bd v8 ∧ sh_Bd (-5))) ∧ ((¬ v8 = (-5) → kl c cn mL_steps 130 [some (.inr G), some (.inr L), some (.inr N), some (.inl y3), some (.inr A4), some (.inr A5), none, some (.inl y7), some (.inl y8), some (.inl (y9 + 1)), none] [] J7 (qli c0 Q)) ∧ (v8 = (-5) → ((0 ≤ v4 ∧ v4 < 2147483648) ∧ ((50 ≤ v4 → ((0 ≤ (v4 % 50) ∧ (v4 % 50) < (50 : Int)) ∧ kl c cn mL_steps 202 [some (.inr G), some (.inr L), some (.inr N), some (.inl y3), some (.inr A4), some (.inr A5), none, some (.inl y7), some (.inl y8), some (.inl y9), some (.inl v4)] [.inl (J7 A4 (v4 % 50)), .inl (v4 % 50), .inr A4] J7 (qli c0 Q))) ∧ (v4 < 50 → ((0 ≤ (v4 % 50) ∧ (v4 % 50) < (50 : Int)) ∧ (sh_Bd (J7 A4 (v4 % 50)) ∧ ((¬ (J7 A4 (v4 % 50)) = 0 → kl c cn mL_steps 202 [some (.inr G), some (.inr L), some (.inr N), some (.inl y3), some (.inr A4), some (.inr A5), none, some (.inl y7), some (.inl y8), some (.inl y9), some (.inl v4)] [.inl (J7 A4 (v4 % 50)), .inl (v4 % 50), .inr A4] J7 (qli c0 Q)) ∧ ((J7 A4 (v4 % 50)) = 0 → kl c cn mL_steps 202 [some (.inr G), some (.inr L), some (.inr N), some (.inl y3), some (.inr A4), some (.inr A5), none, some (.inl y7), some (.inl y8), some (.inl y9), some (.inl v4)] [.inl (y7 + 2), .inl (v4 % 50), .inr A4] J7 (qli c0 Q)))))))))))))))))))))) : kl c cn mL_steps 130 [some (.inr G), some (.inr L), some (.inr N), some (.inl y3), some (.inr A4), some (.inr A5), none, some (.inl y7), some (.inl y8), some (.inl y9), none] [] I (qli c0 Q) := by
  refine sh_iload (pc := 130) dL_steps_130 rfl ?_
  refine sh_iconst (pc := 132) (v := 4) dL_steps_132 rfl ?_
  obtain ⟨hb_1, h⟩ := h
  refine sh_icmp_ge (pc := 133) (tgt := 250) dL_steps_133 (by decide) hb_1 (bd_lit (by decide)) (fun q_2 => ?_) (fun q_2 => ?_)
  · replace h := h.1 q_2
    refine k_iinc (pc := 250) [some (.inr G), some (.inr L), some (.inr N), some (.inl y3), some (.inr A4), some (.inr A5), none, some (.inl y7), some (.inl (y8 + 1)), some (.inl y9), none] dL_steps_250 rfl rfl (by decide) ?_
    refine sh_goto (pc := 253) (tgt := 75) dL_steps_253 (by decide) ?_
    exact sh_O.locals h (sub_some (sub_some (sub_some (sub_some (sub_some (sub_some (sub_none (sub_some (sub_some (sub_none (sub_none sub_nil)))))))))))
  · replace h := h.2 q_2
    refine sh_iload (pc := 136) dL_steps_136 rfl ?_
    refine sh_iload (pc := 138) dL_steps_138 rfl ?_
    refine l_S2i (pc := 140) dL_steps_140 lk_L_23 rfl h (fun v4 J3 h => ?_)
    refine k_istore (pc := 143) [some (.inr G), some (.inr L), some (.inr N), some (.inl y3), some (.inr A4), some (.inr A5), none, some (.inl y7), some (.inl y8), some (.inl y9), some (.inl v4)] dL_steps_143 rfl (by decide) ?_
    refine sh_iload (pc := 145) dL_steps_145 rfl ?_
    obtain ⟨hb_5, h⟩ := h
    refine sh_if_lt (pc := 147) (tgt := 244) dL_steps_147 (by decide) hb_5  (fun q_6 => ?_) (fun q_6 => ?_)
    · replace h := h.1 q_6
      refine k_iinc (pc := 244) [some (.inr G), some (.inr L), some (.inr N), some (.inl y3), some (.inr A4), some (.inr A5), none, some (.inl y7), some (.inl y8), some (.inl (y9 + 1)), some (.inl v4)] dL_steps_244 rfl rfl (by decide) ?_
      refine sh_goto (pc := 247) (tgt := 130) dL_steps_247 (by decide) ?_
      exact sh_O.locals h (sub_some (sub_some (sub_some (sub_some (sub_some (sub_some (sub_none (sub_some (sub_some (sub_some (sub_none sub_nil)))))))))))
    · replace h := h.2 q_6
      refine sh_aload_n (pc := 150) dL_steps_150 rfl rfl ?_
      refine sh_aload_n (pc := 151) dL_steps_151 rfl rfl ?_
      refine sh_iload (pc := 152) dL_steps_152 rfl ?_
      refine l_S3i (pc := 154) dL_steps_154 lk_L_27 rfl h (fun v8 J7 h => ?_)
      refine sh_bipush (pc := 157) (v := (-5)) dL_steps_157 (by decide) ?_
      obtain ⟨ho_9, h⟩ := h
      refine l_icmp_ne (pc := 159) (tgt := 244) dL_steps_159 (by decide) ho_9 (fun q_10 => ?_) (fun q_10 => ?_)
      · replace h := h.1 q_10
        refine k_iinc (pc := 244) [some (.inr G), some (.inr L), some (.inr N), some (.inl y3), some (.inr A4), some (.inr A5), none, some (.inl y7), some (.inl y8), some (.inl (y9 + 1)), some (.inl v4)] dL_steps_244 rfl rfl (by decide) ?_
        refine sh_goto (pc := 247) (tgt := 130) dL_steps_247 (by decide) ?_
        exact sh_O.locals h (sub_some (sub_some (sub_some (sub_some (sub_some (sub_some (sub_none (sub_some (sub_some (sub_some (sub_none sub_nil)))))))))))
      · replace h := h.2 q_10
        refine sh_aload (pc := 162) dL_steps_162 rfl ?_
        refine sh_iload (pc := 164) dL_steps_164 rfl ?_
        refine sh_bipush (pc := 166) (v := 50) dL_steps_166 (by decide) ?_
        obtain ⟨hn_11, h⟩ := h
        refine sh_irem (pc := 168) dL_steps_168 hn_11.1 hn_11.2 (by decide) (by decide) ?_
        refine sh_iload (pc := 169) dL_steps_169 rfl ?_
        refine sh_bipush (pc := 171) (v := 50) dL_steps_171 (by decide) ?_
        refine sh_icmp_ge (pc := 173) (tgt := 194) dL_steps_173 (by decide) hb_5 (bd_lit (by decide)) (fun q_12 => ?_) (fun q_12 => ?_)
        · replace h := h.1 q_12
          refine sh_aload (pc := 194) dL_steps_194 rfl ?_
          refine sh_iload (pc := 196) dL_steps_196 rfl ?_
          refine sh_bipush (pc := 198) (v := 50) dL_steps_198 (by decide) ?_
          refine sh_irem (pc := 200) dL_steps_200 hn_11.1 hn_11.2 (by decide) (by decide) ?_
          obtain ⟨hi_13, h⟩ := h
          refine l_ald (pc := 201) dL_steps_201 hA4 hi_13 ?_
          exact sh_O.locals h (sub_some (sub_some (sub_some (sub_some (sub_some (sub_some (sub_none (sub_some (sub_some (sub_some (sub_some sub_nil)))))))))))
        · replace h := h.2 q_12
          refine sh_aload (pc := 176) dL_steps_176 rfl ?_
          refine sh_iload (pc := 178) dL_steps_178 rfl ?_
          refine sh_bipush (pc := 180) (v := 50) dL_steps_180 (by decide) ?_
          refine sh_irem (pc := 182) dL_steps_182 hn_11.1 hn_11.2 (by decide) (by decide) ?_
          obtain ⟨hi_14, h⟩ := h
          refine l_ald (pc := 183) dL_steps_183 hA4 hi_14 ?_
          obtain ⟨hb_15, h⟩ := h
          refine sh_if_ne (pc := 184) (tgt := 194) dL_steps_184 (by decide) hb_15  (fun q_16 => ?_) (fun q_16 => ?_)
          · replace h := h.1 q_16
            refine sh_aload (pc := 194) dL_steps_194 rfl ?_
            refine sh_iload (pc := 196) dL_steps_196 rfl ?_
            refine sh_bipush (pc := 198) (v := 50) dL_steps_198 (by decide) ?_
            refine sh_irem (pc := 200) dL_steps_200 hn_11.1 hn_11.2 (by decide) (by decide) ?_
            refine l_ald (pc := 201) dL_steps_201 hA4 hi_14 ?_
            exact sh_O.locals h (sub_some (sub_some (sub_some (sub_some (sub_some (sub_some (sub_none (sub_some (sub_some (sub_some (sub_some sub_nil)))))))))))
          · replace h := h.2 q_16
            refine sh_iload (pc := 187) dL_steps_187 rfl ?_
            refine sh_iconst (pc := 189) (v := 2) dL_steps_189 rfl ?_
            refine sh_iadd (pc := 190) dL_steps_190 ?_
            refine sh_goto (pc := 191) (tgt := 202) dL_steps_191 (by decide) ?_
            exact sh_O.locals h (sub_some (sub_some (sub_some (sub_some (sub_some (sub_some (sub_none (sub_some (sub_some (sub_some (sub_some sub_nil)))))))))))
set_option maxRecDepth 100000 in
set_option maxHeartbeats 4000000 in
theorem lL_steps_202 {c0 : sh_Cx} {cn : Nat × Nat} {c : sh_Cx} (hx : cx c) {G : Nat} (hG : dy c G 42) {L : Nat} (hL : dy c L 12) {N : Nat} (hN : dy c N 9) (he : ext c0 c) {y3 : Int} {A4 : Nat} (hA4 : dy c A4 50) {A5 : Nat} (hA5 : dy c A5 50) {y7 : Int} {y8 : Int} {y9 : Int} {y10 : Int} {A100 : Nat} (hA100 : dy c A100 50) {z1 : Int} {z2 : Int} {I : sh_Mem} {Q : Int → sh_Mem → Prop} (h : ((0 ≤ z1 ∧ z1 < (50 : Int)) ∧ ((0 ≤ y10 ∧ y10 < 2147483648) ∧ (sh_Bd y10 ∧ ((y10 ≤ 49 → ((0 ≤ (y10 % 50) ∧ (y10 % 50) < (50 : Int)) ∧ kl c cn mL_steps 130 [some (.inr G), some (.inr L), some (.inr N), some (.inl y3), some (.inr A4), some (.inr A5), none, some (.inl y7), some (.inl y8), some (.inl (y9 + 1)), none] [] (sh_u (sh_u I A100 z1 z2) A5 (y10 % 50) ((sh_u I A100 z1 z2) A5 (y10 % 50))) (qli c0 Q))) ∧ (49 < y10 → ((0 ≤ (y10 % 50) ∧ (y10 % 50) < (50 : Int)) ∧ (sh_Bd ((sh_u I A100 z1 z2) A5 (y10 % 50)) ∧ ((¬ ((sh_u I A100 z1 z2) A5 (y10 % 50)) = 0 → kl c cn mL_steps 130 [some (.inr G), some (.inr L), some (.inr N), some (.inl y3), some (.inr A4), some (.inr A5), none, some (.inl y7), some (.inl y8), some (.inl (y9 + 1)), none] [] (sh_u (sh_u I A100 z1 z2) A5 (y10 % 50) ((sh_u I A100 z1 z2) A5 (y10 % 50))) (qli c0 Q)) ∧ (((sh_u I A100 z1 z2) A5 (y10 % 50)) = 0 → kl c cn mL_steps 130 [some (.inr G), some (.inr L), some (.inr N), some (.inl y3), some (.inr A4), some (.inr A5), none, some (.inl y7), some (.inl y8), some (.inl (y9 + 1)), none] [] (sh_u (sh_u I A100 z1 z2) A5 (y10 % 50) (y7 + 2)) (qli c0 Q))))))))))) : kl c cn mL_steps 202 [some (.inr G), some (.inr L), some (.inr N), some (.inl y3), some (.inr A4), some (.inr A5), none, some (.inl y7), some (.inl y8), some (.inl y9), some (.inl y10)] [.inl z2, .inl z1, .inr A100] I (qli c0 Q) := by
  obtain ⟨hi_1, h⟩ := h
  refine l_ast (pc := 202) dL_steps_202 hA100 hi_1 ?_
  refine sh_aload (pc := 203) dL_steps_203 rfl ?_
  refine sh_iload (pc := 205) dL_steps_205 rfl ?_
  refine sh_bipush (pc := 207) (v := 50) dL_steps_207 (by decide) ?_
  obtain ⟨hn_2, h⟩ := h
  refine sh_irem (pc := 209) dL_steps_209 hn_2.1 hn_2.2 (by decide) (by decide) ?_
  refine sh_iload (pc := 210) dL_steps_210 rfl ?_
  refine sh_bipush (pc := 212) (v := 49) dL_steps_212 (by decide) ?_
  obtain ⟨hb_3, h⟩ := h
  refine sh_icmp_le (pc := 214) (tgt := 235) dL_steps_214 (by decide) hb_3 (bd_lit (by decide)) (fun q_4 => ?_) (fun q_4 => ?_)
  · replace h := h.1 q_4
    refine sh_aload (pc := 235) dL_steps_235 rfl ?_
    refine sh_iload (pc := 237) dL_steps_237 rfl ?_
    refine sh_bipush (pc := 239) (v := 50) dL_steps_239 (by decide) ?_
    refine sh_irem (pc := 241) dL_steps_241 hn_2.1 hn_2.2 (by decide) (by decide) ?_
    obtain ⟨hi_5, h⟩ := h
    refine l_ald (pc := 242) dL_steps_242 hA5 hi_5 ?_
    refine l_ast (pc := 243) dL_steps_243 hA5 hi_5 ?_
    refine k_iinc (pc := 244) [some (.inr G), some (.inr L), some (.inr N), some (.inl y3), some (.inr A4), some (.inr A5), none, some (.inl y7), some (.inl y8), some (.inl (y9 + 1)), some (.inl y10)] dL_steps_244 rfl rfl (by decide) ?_
    refine sh_goto (pc := 247) (tgt := 130) dL_steps_247 (by decide) ?_
    exact sh_O.locals h (sub_some (sub_some (sub_some (sub_some (sub_some (sub_some (sub_none (sub_some (sub_some (sub_some (sub_none sub_nil)))))))))))
  · replace h := h.2 q_4
    refine sh_aload (pc := 217) dL_steps_217 rfl ?_
    refine sh_iload (pc := 219) dL_steps_219 rfl ?_
    refine sh_bipush (pc := 221) (v := 50) dL_steps_221 (by decide) ?_
    refine sh_irem (pc := 223) dL_steps_223 hn_2.1 hn_2.2 (by decide) (by decide) ?_
    obtain ⟨hi_6, h⟩ := h
    refine l_ald (pc := 224) dL_steps_224 hA5 hi_6 ?_
    obtain ⟨hb_7, h⟩ := h
    refine sh_if_ne (pc := 225) (tgt := 235) dL_steps_225 (by decide) hb_7  (fun q_8 => ?_) (fun q_8 => ?_)
    · replace h := h.1 q_8
      refine sh_aload (pc := 235) dL_steps_235 rfl ?_
      refine sh_iload (pc := 237) dL_steps_237 rfl ?_
      refine sh_bipush (pc := 239) (v := 50) dL_steps_239 (by decide) ?_
      refine sh_irem (pc := 241) dL_steps_241 hn_2.1 hn_2.2 (by decide) (by decide) ?_
      refine l_ald (pc := 242) dL_steps_242 hA5 hi_6 ?_
      refine l_ast (pc := 243) dL_steps_243 hA5 hi_6 ?_
      refine k_iinc (pc := 244) [some (.inr G), some (.inr L), some (.inr N), some (.inl y3), some (.inr A4), some (.inr A5), none, some (.inl y7), some (.inl y8), some (.inl (y9 + 1)), some (.inl y10)] dL_steps_244 rfl rfl (by decide) ?_
      refine sh_goto (pc := 247) (tgt := 130) dL_steps_247 (by decide) ?_
      exact sh_O.locals h (sub_some (sub_some (sub_some (sub_some (sub_some (sub_some (sub_none (sub_some (sub_some (sub_some (sub_none sub_nil)))))))))))
    · replace h := h.2 q_8
      refine sh_iload (pc := 228) dL_steps_228 rfl ?_
      refine sh_iconst (pc := 230) (v := 2) dL_steps_230 rfl ?_
      refine sh_iadd (pc := 231) dL_steps_231 ?_
      refine sh_goto (pc := 232) (tgt := 243) dL_steps_232 (by decide) ?_
      refine l_ast (pc := 243) dL_steps_243 hA5 hi_6 ?_
      refine k_iinc (pc := 244) [some (.inr G), some (.inr L), some (.inr N), some (.inl y3), some (.inr A4), some (.inr A5), none, some (.inl y7), some (.inl y8), some (.inl (y9 + 1)), some (.inl y10)] dL_steps_244 rfl rfl (by decide) ?_
      refine sh_goto (pc := 247) (tgt := 130) dL_steps_247 (by decide) ?_
      exact sh_O.locals h (sub_some (sub_some (sub_some (sub_some (sub_some (sub_some (sub_none (sub_some (sub_some (sub_some (sub_none sub_nil)))))))))))
set_option maxRecDepth 100000 in
set_option maxHeartbeats 4000000 in
theorem eL_would {c : sh_Cx} (hx : cx c) {G : Nat} (hG : dy c G 42) {L : Nat} (hL : dy c L 12) {N : Nat} (hN : dy c N 9) {x5 : Int} {I : sh_Mem} {Q : Int → sh_Mem → Prop} (h : (cl (cp (cp (cp c 42) 12) 9) mL_copy [.inr G, .inr c.1] (sh_cl (sh_cl (sh_cl I c.1) (cp c 42).1) (cp (cp c 42) 12).1) (lv (cp (cp (cp c 42) 12) 9) fun J1 => (cl (cp (cp (cp c 42) 12) 9) mL_copy [.inr L, .inr (cp c 42).1] J1 (lv (cp (cp (cp c 42) 12) 9) fun J3 => (cl (cp (cp (cp c 42) 12) 9) mL_copy [.inr N, .inr (cp (cp c 42) 12).1] J3 (lv (cp (cp (cp c 42) 12) 9) fun J5 => kl (cp (cp (cp c 42) 12) 9) (3, 63) mL_would 43 [some (.inr 1), none, none, some (.inr N), some (.inl x5), some (.inr c.1), some (.inr (cp c 42).1), some (.inr (cp (cp c 42) 12).1), some (.inl (-5)), some (.inl 1)] [] J5 (qli c Q)))))))) : cl c mL_would [.inr 1, .inr G, .inr L, .inr N, .inl x5] I (li c Q) := by
  refine l_callI cd_L_would.2.2.2 (Nat.le_of_ble_eq_true rfl) ?_
  show kl c (0, 0) mL_would 0 [some (.inr 1), some (.inr G), some (.inr L), some (.inr N), some (.inl x5), none, none, none, none, none] [] I (qli c Q)
  refine sh_bipush (pc := 0) (v := 42) dL_would_0 (by decide) ?_
  refine l_newa (pc := 2) (N := 42) dL_would_2 wa_int rfl (by decide) hx.1 (by simp [sh_noref]) (by have hk0 := hx.1; have hk2 : (G : Nat) < c.1 := (hG).lt; have hk3 : (L : Nat) < c.1 := (hL).lt; have hk4 : (N : Nat) < c.1 := (hN).lt; intro o ho; simp at ho; omega) (by decide) ?_
  refine l_astore (pc := 4) [some (.inr 1), some (.inr G), some (.inr L), some (.inr N), some (.inl x5), some (.inr c.1), none, none, none, none] dL_would_4 rfl (by decide) ?_
  refine sh_bipush (pc := 6) (v := 12) dL_would_6 (by decide) ?_
  refine l_newa (pc := 8) (N := 12) dL_would_8 wa_int rfl (by decide) (cx.push (N := 42) hx).1 (by simp [sh_noref]) (by have hk0 := (cx.push (N := 42) hx).1; have hk2 : (G : Nat) < (cp c 42).1 := ((dy.push hG)).lt; have hk3 : (L : Nat) < (cp c 42).1 := ((dy.push hL)).lt; have hk4 : (N : Nat) < (cp c 42).1 := ((dy.push hN)).lt; have hk5 : (c.1 : Nat) < (cp c 42).1 := ((dy.top hx.1 (by decide))).lt; intro o ho; simp at ho; omega) (by decide) ?_
  refine l_astore (pc := 10) [some (.inr 1), some (.inr G), some (.inr L), some (.inr N), some (.inl x5), some (.inr c.1), some (.inr (cp c 42).1), none, none, none] dL_would_10 rfl (by decide) ?_
  refine sh_bipush (pc := 12) (v := 9) dL_would_12 (by decide) ?_
  refine l_newa (pc := 14) (N := 9) dL_would_14 wa_int rfl (by decide) (cx.push (N := 12) (cx.push (N := 42) hx)).1 (by simp [sh_noref]) (by have hk0 := (cx.push (N := 12) (cx.push (N := 42) hx)).1; have hk2 : (G : Nat) < (cp (cp c 42) 12).1 := ((dy.push (dy.push hG))).lt; have hk3 : (L : Nat) < (cp (cp c 42) 12).1 := ((dy.push (dy.push hL))).lt; have hk4 : (N : Nat) < (cp (cp c 42) 12).1 := ((dy.push (dy.push hN))).lt; have hk5 : (c.1 : Nat) < (cp (cp c 42) 12).1 := ((dy.push (dy.top hx.1 (by decide)))).lt; have hk6 : ((cp c 42).1 : Nat) < (cp (cp c 42) 12).1 := ((dy.top (cx.push (N := 42) hx).1 (by decide))).lt; intro o ho; simp at ho; omega) (by decide) ?_
  refine l_astore (pc := 16) [some (.inr 1), some (.inr G), some (.inr L), some (.inr N), some (.inl x5), some (.inr c.1), some (.inr (cp c 42).1), some (.inr (cp (cp c 42) 12).1), none, none] dL_would_16 rfl (by decide) ?_
  refine sh_aload_n (pc := 18) dL_would_18 rfl rfl ?_
  refine sh_aload (pc := 19) dL_would_19 rfl ?_
  refine l_S2v (pc := 21) dL_would_21 lk_L_76 rfl h (fun J1 h => ?_)
  refine sh_aload_n (pc := 24) dL_would_24 rfl rfl ?_
  refine sh_aload (pc := 25) dL_would_25 rfl ?_
  refine l_S2v (pc := 27) dL_would_27 lk_L_76 rfl h (fun J3 h => ?_)
  refine sh_aload_n (pc := 30) dL_would_30 rfl rfl ?_
  refine sh_aload (pc := 31) dL_would_31 rfl ?_
  refine l_S2v (pc := 33) dL_would_33 lk_L_76 rfl h (fun J5 h => ?_)
  refine sh_bipush (pc := 36) (v := (-5)) dL_would_36 (by decide) ?_
  refine k_istore (pc := 38) [some (.inr 1), some (.inr G), some (.inr L), some (.inr N), some (.inl x5), some (.inr c.1), some (.inr (cp c 42).1), some (.inr (cp (cp c 42) 12).1), some (.inl (-5)), none] dL_would_38 rfl (by decide) ?_
  refine sh_iconst (pc := 40) (v := 1) dL_would_40 rfl ?_
  refine k_istore (pc := 41) [some (.inr 1), some (.inr G), some (.inr L), some (.inr N), some (.inl x5), some (.inr c.1), some (.inr (cp c 42).1), some (.inr (cp (cp c 42) 12).1), some (.inl (-5)), some (.inl 1)] dL_would_41 rfl (by decide) ?_
  exact sh_O.locals h (sub_some (sub_none (sub_none (sub_some (sub_some (sub_some (sub_some (sub_some (sub_some (sub_some sub_nil))))))))))
set_option maxRecDepth 100000 in
set_option maxHeartbeats 4000000 in
theorem lL_would_43 {c0 : sh_Cx} {cn : Nat × Nat} {c : sh_Cx} (hx : cx c) {G : Nat} (hG : dy c G 42) {L : Nat} (hL : dy c L 12) {N : Nat} (hN : dy c N 9) (he : ext c0 c) {y4 : Int} {A5 : Nat} (hA5 : dy c A5 42) {A6 : Nat} (hA6 : dy c A6 12) {A7 : Nat} (hA7 : dy c A7 9) {y8 : Int} {y9 : Int} {I : sh_Mem} {Q : Int → sh_Mem → Prop} (h : (sh_Bd y9 ∧ (sh_Bd y4 ∧ ((y4 < y9 → (cc mX6_ifTurns [.inr 1, .inl y4, .inl 0] I (qi fun v5 J4 => ((v5 = (((mxM J4 I) A7 2) - ((mxM J4 I) N 2)) ∨ (sh_Bd v5 ∧ sh_Bd (((mxM J4 I) A7 2) - ((mxM J4 I) N 2)))) ∧ ((¬ v5 = (((mxM J4 I) A7 2) - ((mxM J4 I) N 2)) → Q 0 (mxM J4 I)) ∧ (v5 = (((mxM J4 I) A7 2) - ((mxM J4 I) N 2)) → (cc mX6_ifTurns [.inr 1, .inl y4, .inl 1] (mxM J4 I) (qi fun v9 J8 => (sh_Bd ((mxM J8 (mxM J4 I)) N 8) ∧ ((¬ ((mxM J8 (mxM J4 I)) N 8) = 0 → ((v9 = ((mxM J8 (mxM J4 I)) A7 1) ∨ (sh_Bd v9 ∧ sh_Bd ((mxM J8 (mxM J4 I)) A7 1))) ∧ ((¬ v9 = ((mxM J8 (mxM J4 I)) A7 1) → Q 0 (mxM J8 (mxM J4 I))) ∧ (v9 = ((mxM J8 (mxM J4 I)) A7 1) → (cc mX6_ifTurns [.inr 1, .inl y4, .inl 2] (mxM J8 (mxM J4 I)) (qi fun v15 J14 => ((v15 = y8 ∨ (sh_Bd v15 ∧ sh_Bd y8)) ∧ ((¬ v15 = y8 → Q 0 (mxM J14 (mxM J8 (mxM J4 I)))) ∧ (v15 = y8 → Q 1 (mxM J14 (mxM J8 (mxM J4 I)))))))))))) ∧ (((mxM J8 (mxM J4 I)) N 8) = 0 → ((v9 = (-5) ∨ (sh_Bd v9 ∧ sh_Bd (-5))) ∧ ((¬ v9 = (-5) → Q 0 (mxM J8 (mxM J4 I))) ∧ (v9 = (-5) → (cc mX6_ifTurns [.inr 1, .inl y4, .inl 2] (mxM J8 (mxM J4 I)) (qi fun v21 J20 => ((v21 = y8 ∨ (sh_Bd v21 ∧ sh_Bd y8)) ∧ ((¬ v21 = y8 → Q 0 (mxM J20 (mxM J8 (mxM J4 I)))) ∧ (v21 = y8 → Q 1 (mxM J20 (mxM J8 (mxM J4 I)))))))))))))))))))))) ∧ (y9 ≤ y4 → (cl c mL_turns [.inr A5, .inr A6, .inr A7] I (lv c fun J24 => (sh_Bd y8 ∧ ((0 ≤ y8 → kl c cn mL_would 43 [some (.inr 1), none, none, some (.inr N), some (.inl y4), some (.inr A5), some (.inr A6), some (.inr A7), some (.inl y8), some (.inl (y9 + 1))] [] J24 (qli c0 Q)) ∧ (y8 < 0 → (sh_Bd (J24 A7 2) ∧ (sh_Bd (J24 N 2) ∧ (((J24 A7 2) ≤ (J24 N 2) → kl c cn mL_would 43 [some (.inr 1), none, none, some (.inr N), some (.inl y4), some (.inr A5), some (.inr A6), some (.inr A7), some (.inl y8), some (.inl (y9 + 1))] [] J24 (qli c0 Q)) ∧ ((J24 N 2) < (J24 A7 2) → kl c cn mL_would 43 [some (.inr 1), none, none, some (.inr N), some (.inl y4), some (.inr A5), some (.inr A6), some (.inr A7), some (.inl y9), some (.inl (y9 + 1))] [] J24 (qli c0 Q))))))))))))))) : kl c cn mL_would 43 [some (.inr 1), none, none, some (.inr N), some (.inl y4), some (.inr A5), some (.inr A6), some (.inr A7), some (.inl y8), some (.inl y9)] [] I (qli c0 Q) := by
  refine sh_iload (pc := 43) dL_would_43 rfl ?_
  refine sh_iload (pc := 45) dL_would_45 rfl ?_
  obtain ⟨hb_1, h⟩ := h
  obtain ⟨hb_2, h⟩ := h
  refine sh_icmp_gt (pc := 47) (tgt := 89) dL_would_47 (by decide) hb_1 hb_2 (fun q_3 => ?_) (fun q_3 => ?_)
  · replace h := h.1 q_3
    refine sh_aload_n (pc := 89) dL_would_89 rfl rfl ?_
    refine sh_iload (pc := 90) dL_would_90 rfl ?_
    refine sh_iconst (pc := 92) (v := 0) dL_would_92 rfl ?_
    refine l_F2 (pc := 93) hx dL_would_93 lk_L_84 rfl h (fun v5 J4 h => ?_)
    refine sh_aload (pc := 96) dL_would_96 rfl ?_
    refine sh_iconst (pc := 98) (v := 2) dL_would_98 rfl ?_
    refine l_ald (pc := 99) dL_would_99 hA7 (by decide) ?_
    refine sh_aload_n (pc := 100) dL_would_100 rfl rfl ?_
    refine sh_iconst (pc := 101) (v := 2) dL_would_101 rfl ?_
    refine l_ald (pc := 102) dL_would_102 hN (by decide) ?_
    refine sh_isub (pc := 103) dL_would_103 ?_
    obtain ⟨ho_6, h⟩ := h
    refine l_icmp_ne (pc := 104) (tgt := 149) dL_would_104 (by decide) ho_6 (fun q_7 => ?_) (fun q_7 => ?_)
    · replace h := h.1 q_7
      refine sh_iconst (pc := 149) (v := 0) dL_would_149 rfl ?_
      exact l_zret he dL_would_150 rfl (Or.inl rfl) h
    · replace h := h.2 q_7
      refine sh_aload_n (pc := 107) dL_would_107 rfl rfl ?_
      refine sh_iload (pc := 108) dL_would_108 rfl ?_
      refine sh_iconst (pc := 110) (v := 1) dL_would_110 rfl ?_
      refine l_F2 (pc := 111) hx dL_would_111 lk_L_84 rfl h (fun v9 J8 h => ?_)
      refine sh_aload_n (pc := 114) dL_would_114 rfl rfl ?_
      refine sh_bipush (pc := 115) (v := 8) dL_would_115 (by decide) ?_
      refine l_ald (pc := 117) dL_would_117 hN (by decide) ?_
      obtain ⟨hb_10, h⟩ := h
      refine sh_if_ne (pc := 118) (tgt := 126) dL_would_118 (by decide) hb_10  (fun q_11 => ?_) (fun q_11 => ?_)
      · replace h := h.1 q_11
        refine sh_aload (pc := 126) dL_would_126 rfl ?_
        refine sh_iconst (pc := 128) (v := 1) dL_would_128 rfl ?_
        refine l_ald (pc := 129) dL_would_129 hA7 (by decide) ?_
        obtain ⟨ho_12, h⟩ := h
        refine l_icmp_ne (pc := 130) (tgt := 149) dL_would_130 (by decide) ho_12 (fun q_13 => ?_) (fun q_13 => ?_)
        · replace h := h.1 q_13
          refine sh_iconst (pc := 149) (v := 0) dL_would_149 rfl ?_
          exact l_zret he dL_would_150 rfl (Or.inl rfl) h
        · replace h := h.2 q_13
          refine sh_aload_n (pc := 133) dL_would_133 rfl rfl ?_
          refine sh_iload (pc := 134) dL_would_134 rfl ?_
          refine sh_iconst (pc := 136) (v := 2) dL_would_136 rfl ?_
          refine l_F2 (pc := 137) hx dL_would_137 lk_L_84 rfl h (fun v15 J14 h => ?_)
          refine sh_iload (pc := 140) dL_would_140 rfl ?_
          obtain ⟨ho_16, h⟩ := h
          refine l_icmp_ne (pc := 142) (tgt := 149) dL_would_142 (by decide) ho_16 (fun q_17 => ?_) (fun q_17 => ?_)
          · replace h := h.1 q_17
            refine sh_iconst (pc := 149) (v := 0) dL_would_149 rfl ?_
            exact l_zret he dL_would_150 rfl (Or.inl rfl) h
          · replace h := h.2 q_17
            refine sh_iconst (pc := 145) (v := 1) dL_would_145 rfl ?_
            refine sh_goto (pc := 146) (tgt := 150) dL_would_146 (by decide) ?_
            exact l_zret he dL_would_150 rfl (Or.inr rfl) h
      · replace h := h.2 q_11
        refine sh_bipush (pc := 121) (v := (-5)) dL_would_121 (by decide) ?_
        refine sh_goto (pc := 123) (tgt := 130) dL_would_123 (by decide) ?_
        obtain ⟨ho_18, h⟩ := h
        refine l_icmp_ne (pc := 130) (tgt := 149) dL_would_130 (by decide) ho_18 (fun q_19 => ?_) (fun q_19 => ?_)
        · replace h := h.1 q_19
          refine sh_iconst (pc := 149) (v := 0) dL_would_149 rfl ?_
          exact l_zret he dL_would_150 rfl (Or.inl rfl) h
        · replace h := h.2 q_19
          refine sh_aload_n (pc := 133) dL_would_133 rfl rfl ?_
          refine sh_iload (pc := 134) dL_would_134 rfl ?_
          refine sh_iconst (pc := 136) (v := 2) dL_would_136 rfl ?_
          refine l_F2 (pc := 137) hx dL_would_137 lk_L_84 rfl h (fun v21 J20 h => ?_)
          refine sh_iload (pc := 140) dL_would_140 rfl ?_
          obtain ⟨ho_22, h⟩ := h
          refine l_icmp_ne (pc := 142) (tgt := 149) dL_would_142 (by decide) ho_22 (fun q_23 => ?_) (fun q_23 => ?_)
          · replace h := h.1 q_23
            refine sh_iconst (pc := 149) (v := 0) dL_would_149 rfl ?_
            exact l_zret he dL_would_150 rfl (Or.inl rfl) h
          · replace h := h.2 q_23
            refine sh_iconst (pc := 145) (v := 1) dL_would_145 rfl ?_
            refine sh_goto (pc := 146) (tgt := 150) dL_would_146 (by decide) ?_
            exact l_zret he dL_would_150 rfl (Or.inr rfl) h
  · replace h := h.2 q_3
    refine sh_aload (pc := 50) dL_would_50 rfl ?_
    refine sh_aload (pc := 52) dL_would_52 rfl ?_
    refine sh_aload (pc := 54) dL_would_54 rfl ?_
    refine l_S3v (pc := 56) dL_would_56 lk_L_80 rfl h (fun J24 h => ?_)
    refine sh_iload (pc := 59) dL_would_59 rfl ?_
    obtain ⟨hb_26, h⟩ := h
    refine sh_if_ge (pc := 61) (tgt := 79) dL_would_61 (by decide) hb_26  (fun q_27 => ?_) (fun q_27 => ?_)
    · replace h := h.1 q_27
      refine sh_iload (pc := 79) dL_would_79 rfl ?_
      refine k_istore (pc := 81) [some (.inr 1), none, none, some (.inr N), some (.inl y4), some (.inr A5), some (.inr A6), some (.inr A7), some (.inl y8), some (.inl y9)] dL_would_81 rfl (by decide) ?_
      refine k_iinc (pc := 83) [some (.inr 1), none, none, some (.inr N), some (.inl y4), some (.inr A5), some (.inr A6), some (.inr A7), some (.inl y8), some (.inl (y9 + 1))] dL_would_83 rfl rfl (by decide) ?_
      refine sh_goto (pc := 86) (tgt := 43) dL_would_86 (by decide) ?_
      exact sh_O.locals h (sub_some (sub_none (sub_none (sub_some (sub_some (sub_some (sub_some (sub_some (sub_some (sub_some sub_nil))))))))))
    · replace h := h.2 q_27
      refine sh_aload (pc := 64) dL_would_64 rfl ?_
      refine sh_iconst (pc := 66) (v := 2) dL_would_66 rfl ?_
      refine l_ald (pc := 67) dL_would_67 hA7 (by decide) ?_
      refine sh_aload_n (pc := 68) dL_would_68 rfl rfl ?_
      refine sh_iconst (pc := 69) (v := 2) dL_would_69 rfl ?_
      refine l_ald (pc := 70) dL_would_70 hN (by decide) ?_
      obtain ⟨hb_28, h⟩ := h
      obtain ⟨hb_29, h⟩ := h
      refine sh_icmp_le (pc := 71) (tgt := 79) dL_would_71 (by decide) hb_28 hb_29 (fun q_30 => ?_) (fun q_30 => ?_)
      · replace h := h.1 q_30
        refine sh_iload (pc := 79) dL_would_79 rfl ?_
        refine k_istore (pc := 81) [some (.inr 1), none, none, some (.inr N), some (.inl y4), some (.inr A5), some (.inr A6), some (.inr A7), some (.inl y8), some (.inl y9)] dL_would_81 rfl (by decide) ?_
        refine k_iinc (pc := 83) [some (.inr 1), none, none, some (.inr N), some (.inl y4), some (.inr A5), some (.inr A6), some (.inr A7), some (.inl y8), some (.inl (y9 + 1))] dL_would_83 rfl rfl (by decide) ?_
        refine sh_goto (pc := 86) (tgt := 43) dL_would_86 (by decide) ?_
        exact sh_O.locals h (sub_some (sub_none (sub_none (sub_some (sub_some (sub_some (sub_some (sub_some (sub_some (sub_some sub_nil))))))))))
      · replace h := h.2 q_30
        refine sh_iload (pc := 74) dL_would_74 rfl ?_
        refine sh_goto (pc := 76) (tgt := 81) dL_would_76 (by decide) ?_
        refine k_istore (pc := 81) [some (.inr 1), none, none, some (.inr N), some (.inl y4), some (.inr A5), some (.inr A6), some (.inr A7), some (.inl y9), some (.inl y9)] dL_would_81 rfl (by decide) ?_
        refine k_iinc (pc := 83) [some (.inr 1), none, none, some (.inr N), some (.inl y4), some (.inr A5), some (.inr A6), some (.inr A7), some (.inl y9), some (.inl (y9 + 1))] dL_would_83 rfl rfl (by decide) ?_
        refine sh_goto (pc := 86) (tgt := 43) dL_would_86 (by decide) ?_
        exact sh_O.locals h (sub_some (sub_none (sub_none (sub_some (sub_some (sub_some (sub_some (sub_some (sub_some (sub_some sub_nil))))))))))
set_option maxRecDepth 100000 in
set_option maxHeartbeats 4000000 in
theorem eL_comes {c : sh_Cx} (hx : cx c) {G : Nat} (hG : dy c G 42) {N : Nat} (hN : dy c N 9) {x4 : Int} {I : sh_Mem} {Q : Int → sh_Mem → Prop} (h : (cl c mL_low [.inl x4, .inl 100] I (li c fun v2 J1 => (∀ u3 : Int, sh_Bd u3 → (cl c mL_low [.inl u3, .inl 5] J1 (li c fun v6 J5 => (cl c mL_who [.inr G, .inr N, .inl v2] J5 (li c fun v8 J7 => (sh_Bd v8 ∧ ((0 ≤ v8 → (cc mX6_come [.inr 1, .inl v2, .inl (1 + v6)] J7 (qi fun v12 J11 => (cl c mL_who [.inr G, .inr N, .inl v2] (mxM J11 J7) (li c fun v14 J13 => (sh_Bd v14 ∧ ((v14 < 0 → kl c (0, 0) mL_comes 64 [none, none, none, none, none, none, none] [.inl (-3), .inl v12] J13 (qli c Q)) ∧ (0 ≤ v14 → kl c (0, 0) mL_comes 64 [none, none, none, none, none, none, none] [.inl (-4), .inl v12] J13 (qli c Q))))))))) ∧ (v8 < 0 → (((J7 N 8) = 6 ∨ (sh_Bd (J7 N 8) ∧ sh_Bd 6)) ∧ ((¬ (J7 N 8) = 6 → kl c (0, 0) mL_comes 76 [some (.inr 1), some (.inr G), some (.inr N), none, some (.inl v2), some (.inl (1 + v6)), some (.inl 0)] [] J7 (qli c Q)) ∧ ((J7 N 8) = 6 → (cc mX6_come [.inr 1, .inl v2, .inl (1 + v6)] J7 (qi fun v20 J19 => (cl c mL_who [.inr G, .inr N, .inl v2] (mxM J19 J7) (li c fun v22 J21 => (sh_Bd v22 ∧ ((v22 < 0 → kl c (0, 0) mL_comes 64 [none, none, none, none, none, none, none] [.inl (-3), .inl v20] J21 (qli c Q)) ∧ (0 ≤ v22 → kl c (0, 0) mL_comes 64 [none, none, none, none, none, none, none] [.inl (-4), .inl v20] J21 (qli c Q)))))))))))))))))))))) : cl c mL_comes [.inr 1, .inr G, .inr N, .inl x4] I (li c Q) := by
  refine l_callI cd_L_comes.2.2.2 (Nat.le_of_ble_eq_true rfl) ?_
  show kl c (0, 0) mL_comes 0 [some (.inr 1), some (.inr G), some (.inr N), some (.inl x4), none, none, none] [] I (qli c Q)
  refine sh_iload_n (pc := 0) dL_comes_0 rfl rfl ?_
  refine sh_bipush (pc := 1) (v := 100) dL_comes_1 (by decide) ?_
  refine l_S2i (pc := 3) dL_comes_3 lk_L_87 rfl h (fun v2 J1 h => ?_)
  refine k_istore (pc := 6) [some (.inr 1), some (.inr G), some (.inr N), some (.inl x4), some (.inl v2), none, none] dL_comes_6 rfl (by decide) ?_
  refine sh_iconst (pc := 8) (v := 1) dL_comes_8 rfl ?_
  refine sh_iload_n (pc := 9) dL_comes_9 rfl rfl ?_
  refine sh_bipush (pc := 10) (v := 7) dL_comes_10 (by decide) ?_
  refine l_ishr (pc := 12) dL_comes_12 (fun u3 hu_4 => ?_)
  replace h := h u3 hu_4
  refine sh_iconst (pc := 13) (v := 5) dL_comes_13 rfl ?_
  refine l_S2i (pc := 14) dL_comes_14 lk_L_87 rfl h (fun v6 J5 h => ?_)
  refine sh_iadd (pc := 17) dL_comes_17 ?_
  refine k_istore (pc := 18) [some (.inr 1), some (.inr G), some (.inr N), some (.inl x4), some (.inl v2), some (.inl (1 + v6)), none] dL_comes_18 rfl (by decide) ?_
  refine sh_aload_n (pc := 20) dL_comes_20 rfl rfl ?_
  refine sh_aload_n (pc := 21) dL_comes_21 rfl rfl ?_
  refine sh_iload (pc := 22) dL_comes_22 rfl ?_
  refine l_S3i (pc := 24) dL_comes_24 lk_L_27 rfl h (fun v8 J7 h => ?_)
  obtain ⟨hb_9, h⟩ := h
  refine sh_if_ge (pc := 27) (tgt := 39) dL_comes_27 (by decide) hb_9  (fun q_10 => ?_) (fun q_10 => ?_)
  · replace h := h.1 q_10
    refine sh_aload_n (pc := 39) dL_comes_39 rfl rfl ?_
    refine sh_iload (pc := 40) dL_comes_40 rfl ?_
    refine sh_iload (pc := 42) dL_comes_42 rfl ?_
    refine l_F2 (pc := 44) hx dL_comes_44 lk_L_90 rfl h (fun v12 J11 h => ?_)
    refine sh_aload_n (pc := 47) dL_comes_47 rfl rfl ?_
    refine sh_aload_n (pc := 48) dL_comes_48 rfl rfl ?_
    refine sh_iload (pc := 49) dL_comes_49 rfl ?_
    refine l_S3i (pc := 51) dL_comes_51 lk_L_27 rfl h (fun v14 J13 h => ?_)
    obtain ⟨hb_15, h⟩ := h
    refine sh_if_lt (pc := 54) (tgt := 62) dL_comes_54 (by decide) hb_15  (fun q_16 => ?_) (fun q_16 => ?_)
    · replace h := h.1 q_16
      refine sh_bipush (pc := 62) (v := (-3)) dL_comes_62 (by decide) ?_
      exact sh_O.locals h (sub_none (sub_none (sub_none (sub_none (sub_none (sub_none (sub_none sub_nil)))))))
    · replace h := h.2 q_16
      refine sh_bipush (pc := 57) (v := (-4)) dL_comes_57 (by decide) ?_
      refine sh_goto (pc := 59) (tgt := 64) dL_comes_59 (by decide) ?_
      exact sh_O.locals h (sub_none (sub_none (sub_none (sub_none (sub_none (sub_none (sub_none sub_nil)))))))
  · replace h := h.2 q_10
    refine sh_aload_n (pc := 30) dL_comes_30 rfl rfl ?_
    refine sh_bipush (pc := 31) (v := 8) dL_comes_31 (by decide) ?_
    refine l_ald (pc := 33) dL_comes_33 hN (by decide) ?_
    refine sh_bipush (pc := 34) (v := 6) dL_comes_34 (by decide) ?_
    obtain ⟨ho_17, h⟩ := h
    refine l_icmp_ne (pc := 36) (tgt := 73) dL_comes_36 (by decide) ho_17 (fun q_18 => ?_) (fun q_18 => ?_)
    · replace h := h.1 q_18
      refine sh_iconst (pc := 73) (v := 0) dL_comes_73 rfl ?_
      refine k_istore (pc := 74) [some (.inr 1), some (.inr G), some (.inr N), some (.inl x4), some (.inl v2), some (.inl (1 + v6)), some (.inl 0)] dL_comes_74 rfl (by decide) ?_
      exact sh_O.locals h (sub_some (sub_some (sub_some (sub_none (sub_some (sub_some (sub_some sub_nil)))))))
    · replace h := h.2 q_18
      refine sh_aload_n (pc := 39) dL_comes_39 rfl rfl ?_
      refine sh_iload (pc := 40) dL_comes_40 rfl ?_
      refine sh_iload (pc := 42) dL_comes_42 rfl ?_
      refine l_F2 (pc := 44) hx dL_comes_44 lk_L_90 rfl h (fun v20 J19 h => ?_)
      refine sh_aload_n (pc := 47) dL_comes_47 rfl rfl ?_
      refine sh_aload_n (pc := 48) dL_comes_48 rfl rfl ?_
      refine sh_iload (pc := 49) dL_comes_49 rfl ?_
      refine l_S3i (pc := 51) dL_comes_51 lk_L_27 rfl h (fun v22 J21 h => ?_)
      obtain ⟨hb_23, h⟩ := h
      refine sh_if_lt (pc := 54) (tgt := 62) dL_comes_54 (by decide) hb_23  (fun q_24 => ?_) (fun q_24 => ?_)
      · replace h := h.1 q_24
        refine sh_bipush (pc := 62) (v := (-3)) dL_comes_62 (by decide) ?_
        exact sh_O.locals h (sub_none (sub_none (sub_none (sub_none (sub_none (sub_none (sub_none sub_nil)))))))
      · replace h := h.2 q_24
        refine sh_bipush (pc := 57) (v := (-4)) dL_comes_57 (by decide) ?_
        refine sh_goto (pc := 59) (tgt := 64) dL_comes_59 (by decide) ?_
        exact sh_O.locals h (sub_none (sub_none (sub_none (sub_none (sub_none (sub_none (sub_none sub_nil)))))))
set_option maxRecDepth 100000 in
set_option maxHeartbeats 4000000 in
theorem lL_comes_64 {c : sh_Cx} (hx : cx c) {G : Nat} (hG : dy c G 42) {N : Nat} (hN : dy c N 9) {z0 : Int} {z1 : Int} {I : sh_Mem} {Q : Int → sh_Mem → Prop} (h : ((z0 = z1 ∨ (sh_Bd z0 ∧ sh_Bd z1)) ∧ ((¬ z0 = z1 → Q 0 I) ∧ (z0 = z1 → Q 1 I)))) : kl c (0, 0) mL_comes 64 [none, none, none, none, none, none, none] [.inl z1, .inl z0] I (qli c Q) := by
  obtain ⟨ho_1, h⟩ := h
  refine l_icmp_ne (pc := 64) (tgt := 71) dL_comes_64 (by decide) ho_1 (fun q_2 => ?_) (fun q_2 => ?_)
  · replace h := h.1 q_2
    refine sh_iconst (pc := 71) (v := 0) dL_comes_71 rfl ?_
    exact l_zret ext.rf dL_comes_72 rfl (Or.inl rfl) h
  · replace h := h.2 q_2
    refine sh_iconst (pc := 67) (v := 1) dL_comes_67 rfl ?_
    refine sh_goto (pc := 68) (tgt := 72) dL_comes_68 (by decide) ?_
    exact l_zret ext.rf dL_comes_72 rfl (Or.inr rfl) h
set_option maxRecDepth 100000 in
set_option maxHeartbeats 4000000 in
theorem lL_comes_76 {c : sh_Cx} (hx : cx c) {G : Nat} (hG : dy c G 42) {N : Nat} (hN : dy c N 9) {y4 : Int} {y5 : Int} {y6 : Int} {I : sh_Mem} {Q : Int → sh_Mem → Prop} (h : (sh_Bd y6 ∧ ((7 ≤ y6 → (cc mX6_come [.inr 1, .inl y4, .inl y5] (sh_u I N 8 ((I N 8) + 1)) (qi fun v4 J3 => ((v4 = (((mxM J3 (sh_u I N 8 ((I N 8) + 1))) N 8) - 1) ∨ (sh_Bd v4 ∧ sh_Bd (((mxM J3 (sh_u I N 8 ((I N 8) + 1))) N 8) - 1))) ∧ ((¬ v4 = (((mxM J3 (sh_u I N 8 ((I N 8) + 1))) N 8) - 1) → Q 0 (mxM J3 (sh_u I N 8 ((I N 8) + 1)))) ∧ (v4 = (((mxM J3 (sh_u I N 8 ((I N 8) + 1))) N 8) - 1) → Q 1 (mxM J3 (sh_u I N 8 ((I N 8) + 1))))))))) ∧ (y6 < 7 → ((¬ y6 = 0 → ((y6 = 1 ∨ (sh_Bd y6 ∧ sh_Bd 1)) ∧ ((¬ y6 = 1 → ((y6 = 2 ∨ (sh_Bd y6 ∧ sh_Bd 2)) ∧ ((¬ y6 = 2 → ((0 ≤ ((7 * (I N 8)) + y6) ∧ ((7 * (I N 8)) + y6) < (42 : Int)) ∧ kl c (0, 0) mL_comes 76 [some (.inr 1), some (.inr G), some (.inr N), none, some (.inl y4), some (.inl y5), some (.inl (y6 + 1))] [] (sh_u I G ((7 * (I N 8)) + y6) 0) (qli c Q))) ∧ (y6 = 2 → ((0 ≤ ((7 * (I N 8)) + y6) ∧ ((7 * (I N 8)) + y6) < (42 : Int)) ∧ kl c (0, 0) mL_comes 76 [some (.inr 1), some (.inr G), some (.inr N), none, some (.inl y4), some (.inl y5), some (.inl (y6 + 1))] [] (sh_u I G ((7 * (I N 8)) + y6) 4) (qli c Q)))))) ∧ (y6 = 1 → ((0 ≤ ((7 * (I N 8)) + y6) ∧ ((7 * (I N 8)) + y6) < (42 : Int)) ∧ kl c (0, 0) mL_comes 76 [some (.inr 1), some (.inr G), some (.inr N), none, some (.inl y4), some (.inl y5), some (.inl (y6 + 1))] [] (sh_u I G ((7 * (I N 8)) + y6) y5) (qli c Q)))))) ∧ (y6 = 0 → ((0 ≤ ((7 * (I N 8)) + y6) ∧ ((7 * (I N 8)) + y6) < (42 : Int)) ∧ kl c (0, 0) mL_comes 76 [some (.inr 1), some (.inr G), some (.inr N), none, some (.inl y4), some (.inl y5), some (.inl (y6 + 1))] [] (sh_u I G ((7 * (I N 8)) + y6) y4) (qli c Q)))))))) : kl c (0, 0) mL_comes 76 [some (.inr 1), some (.inr G), some (.inr N), none, some (.inl y4), some (.inl y5), some (.inl y6)] [] I (qli c Q) := by
  refine sh_iload (pc := 76) dL_comes_76 rfl ?_
  refine sh_bipush (pc := 78) (v := 7) dL_comes_78 (by decide) ?_
  obtain ⟨hb_1, h⟩ := h
  refine sh_icmp_ge (pc := 80) (tgt := 133) dL_comes_80 (by decide) hb_1 (bd_lit (by decide)) (fun q_2 => ?_) (fun q_2 => ?_)
  · replace h := h.1 q_2
    refine sh_aload_n (pc := 133) dL_comes_133 rfl rfl ?_
    refine sh_bipush (pc := 134) (v := 8) dL_comes_134 (by decide) ?_
    refine sh_dup2 (pc := 136) dL_comes_136 ?_
    refine l_ald (pc := 137) dL_comes_137 hN (by decide) ?_
    refine sh_iconst (pc := 138) (v := 1) dL_comes_138 rfl ?_
    refine sh_iadd (pc := 139) dL_comes_139 ?_
    refine l_ast (pc := 140) dL_comes_140 hN (by decide) ?_
    refine sh_aload_n (pc := 141) dL_comes_141 rfl rfl ?_
    refine sh_iload (pc := 142) dL_comes_142 rfl ?_
    refine sh_iload (pc := 144) dL_comes_144 rfl ?_
    refine l_F2 (pc := 146) hx dL_comes_146 lk_L_90 rfl h (fun v4 J3 h => ?_)
    refine sh_aload_n (pc := 149) dL_comes_149 rfl rfl ?_
    refine sh_bipush (pc := 150) (v := 8) dL_comes_150 (by decide) ?_
    refine l_ald (pc := 152) dL_comes_152 hN (by decide) ?_
    refine sh_iconst (pc := 153) (v := 1) dL_comes_153 rfl ?_
    refine sh_isub (pc := 154) dL_comes_154 ?_
    obtain ⟨ho_5, h⟩ := h
    refine l_icmp_ne (pc := 155) (tgt := 162) dL_comes_155 (by decide) ho_5 (fun q_6 => ?_) (fun q_6 => ?_)
    · replace h := h.1 q_6
      refine sh_iconst (pc := 162) (v := 0) dL_comes_162 rfl ?_
      exact l_zret ext.rf dL_comes_163 rfl (Or.inl rfl) h
    · replace h := h.2 q_6
      refine sh_iconst (pc := 158) (v := 1) dL_comes_158 rfl ?_
      refine sh_goto (pc := 159) (tgt := 163) dL_comes_159 (by decide) ?_
      exact l_zret ext.rf dL_comes_163 rfl (Or.inr rfl) h
  · replace h := h.2 q_2
    refine sh_aload_n (pc := 83) dL_comes_83 rfl rfl ?_
    refine sh_bipush (pc := 84) (v := 7) dL_comes_84 (by decide) ?_
    refine sh_aload_n (pc := 86) dL_comes_86 rfl rfl ?_
    refine sh_bipush (pc := 87) (v := 8) dL_comes_87 (by decide) ?_
    refine l_ald (pc := 89) dL_comes_89 hN (by decide) ?_
    refine sh_imul (pc := 90) dL_comes_90 ?_
    refine sh_iload (pc := 91) dL_comes_91 rfl ?_
    refine sh_iadd (pc := 93) dL_comes_93 ?_
    refine sh_iload (pc := 94) dL_comes_94 rfl ?_
    refine sh_if_ne (pc := 96) (tgt := 104) dL_comes_96 (by decide) hb_1  (fun q_7 => ?_) (fun q_7 => ?_)
    · replace h := h.1 q_7
      refine sh_iload (pc := 104) dL_comes_104 rfl ?_
      refine sh_iconst (pc := 106) (v := 1) dL_comes_106 rfl ?_
      obtain ⟨ho_8, h⟩ := h
      refine l_icmp_ne (pc := 107) (tgt := 115) dL_comes_107 (by decide) ho_8 (fun q_9 => ?_) (fun q_9 => ?_)
      · replace h := h.1 q_9
        refine sh_iload (pc := 115) dL_comes_115 rfl ?_
        refine sh_iconst (pc := 117) (v := 2) dL_comes_117 rfl ?_
        obtain ⟨ho_10, h⟩ := h
        refine l_icmp_ne (pc := 118) (tgt := 125) dL_comes_118 (by decide) ho_10 (fun q_11 => ?_) (fun q_11 => ?_)
        · replace h := h.1 q_11
          refine sh_iconst (pc := 125) (v := 0) dL_comes_125 rfl ?_
          obtain ⟨hi_12, h⟩ := h
          refine l_ast (pc := 126) dL_comes_126 hG hi_12 ?_
          refine k_iinc (pc := 127) [some (.inr 1), some (.inr G), some (.inr N), none, some (.inl y4), some (.inl y5), some (.inl (y6 + 1))] dL_comes_127 rfl rfl (by decide) ?_
          refine sh_goto (pc := 130) (tgt := 76) dL_comes_130 (by decide) ?_
          exact sh_O.locals h (sub_some (sub_some (sub_some (sub_none (sub_some (sub_some (sub_some sub_nil)))))))
        · replace h := h.2 q_11
          refine sh_iconst (pc := 121) (v := 4) dL_comes_121 rfl ?_
          refine sh_goto (pc := 122) (tgt := 126) dL_comes_122 (by decide) ?_
          obtain ⟨hi_13, h⟩ := h
          refine l_ast (pc := 126) dL_comes_126 hG hi_13 ?_
          refine k_iinc (pc := 127) [some (.inr 1), some (.inr G), some (.inr N), none, some (.inl y4), some (.inl y5), some (.inl (y6 + 1))] dL_comes_127 rfl rfl (by decide) ?_
          refine sh_goto (pc := 130) (tgt := 76) dL_comes_130 (by decide) ?_
          exact sh_O.locals h (sub_some (sub_some (sub_some (sub_none (sub_some (sub_some (sub_some sub_nil)))))))
      · replace h := h.2 q_9
        refine sh_iload (pc := 110) dL_comes_110 rfl ?_
        refine sh_goto (pc := 112) (tgt := 126) dL_comes_112 (by decide) ?_
        obtain ⟨hi_14, h⟩ := h
        refine l_ast (pc := 126) dL_comes_126 hG hi_14 ?_
        refine k_iinc (pc := 127) [some (.inr 1), some (.inr G), some (.inr N), none, some (.inl y4), some (.inl y5), some (.inl (y6 + 1))] dL_comes_127 rfl rfl (by decide) ?_
        refine sh_goto (pc := 130) (tgt := 76) dL_comes_130 (by decide) ?_
        exact sh_O.locals h (sub_some (sub_some (sub_some (sub_none (sub_some (sub_some (sub_some sub_nil)))))))
    · replace h := h.2 q_7
      refine sh_iload (pc := 99) dL_comes_99 rfl ?_
      refine sh_goto (pc := 101) (tgt := 126) dL_comes_101 (by decide) ?_
      obtain ⟨hi_15, h⟩ := h
      refine l_ast (pc := 126) dL_comes_126 hG hi_15 ?_
      refine k_iinc (pc := 127) [some (.inr 1), some (.inr G), some (.inr N), none, some (.inl y4), some (.inl y5), some (.inl (y6 + 1))] dL_comes_127 rfl rfl (by decide) ?_
      refine sh_goto (pc := 130) (tgt := 76) dL_comes_130 (by decide) ?_
      exact sh_O.locals h (sub_some (sub_some (sub_some (sub_none (sub_some (sub_some (sub_some sub_nil)))))))
set_option maxRecDepth 100000 in
set_option maxHeartbeats 4000000 in
theorem eL_acts {c : sh_Cx} (hx : cx c) {G : Nat} (hG : dy c G 42) {L : Nat} (hL : dy c L 12) {N : Nat} (hN : dy c N 9) {x5 : Int} {x6 : Int} {I : sh_Mem} {Q : Int → sh_Mem → Prop} (h : (cl c mL_low [.inl x6, .inl 3] I (li c fun v2 J1 => (sh_Bd x5 ∧ ((x5 = 0 → (cl c mL_comes [.inr 1, .inr G, .inr N, .inl x6] J1 (li c fun v5 J4 => (sh_01 v5 ∧ Q v5 J4)))) ∧ ((x5 = 1 → (sh_Bd (J1 N 8) ∧ ((¬ (J1 N 8) = 0 → (cl c mL_low [.inl x6, .inl (J1 N 8)] J1 (li c fun v11 J10 => (∀ u12 : Int, sh_Bd u12 → (cl c mL_low [.inl u12, .inl 6] J10 (li c fun v15 J14 => (sh_Bd (v15 - 1) ∧ (((v15 - 1) ≤ 3 → ((0 ≤ ((7 * v11) + 2) ∧ ((7 * v11) + 2) < (42 : Int)) ∧ ((0 ≤ (v15 - 1) → kl c (0, 0) mL_acts 156 [some (.inr 1), some (.inr G), none, none, none, none, none, some (.inl v11), some (.inl (v15 - 1)), some (.inl (J14 G ((7 * v11) + 2))), none, none, none, none, none, none, none, none] [.inl (v15 - 1), .inl ((7 * v11) + 2), .inr G] J14 (qli c Q)) ∧ ((v15 - 1) < 0 → kl c (0, 0) mL_acts 156 [some (.inr 1), some (.inr G), none, none, none, none, none, some (.inl v11), some (.inl (v15 - 1)), some (.inl (J14 G ((7 * v11) + 2))), none, none, none, none, none, none, none, none] [.inl 4, .inl ((7 * v11) + 2), .inr G] J14 (qli c Q))))) ∧ (3 < (v15 - 1) → ((0 ≤ ((7 * v11) + 2) ∧ ((7 * v11) + 2) < (42 : Int)) ∧ kl c (0, 0) mL_acts 156 [some (.inr 1), some (.inr G), none, none, none, none, none, some (.inl v11), some (.inl 2), some (.inl (J14 G ((7 * v11) + 2))), none, none, none, none, none, none, none, none] [.inl 2, .inl ((7 * v11) + 2), .inr G] J14 (qli c Q))))))))))) ∧ ((J1 N 8) = 0 → (cc mX6_head [.inr 1, .inl 0, .inl 0] J1 (qi fun v23 J22 => ((v23 = (-1) ∨ (sh_Bd v23 ∧ sh_Bd (-1))) ∧ ((¬ v23 = (-1) → Q 0 (mxM J22 J1)) ∧ (v23 = (-1) → Q 1 (mxM J22 J1)))))))))) ∧ ((x5 = 2 → (sh_Bd (J1 N 8) ∧ ((¬ (J1 N 8) = 0 → (cl c mL_low [.inl x6, .inl (J1 N 8)] J1 (li c fun v30 J29 => (∀ u31 : Int, sh_Bd u31 → (cl c mL_low [.inl u31, .inl 6] J29 (li c fun v34 J33 => (sh_Bd (v34 - 1) ∧ (((v34 - 1) ≤ 3 → ((0 ≤ ((7 * v30) + 2) ∧ ((7 * v30) + 2) < (42 : Int)) ∧ ((0 ≤ (v34 - 1) → kl c (0, 0) mL_acts 156 [some (.inr 1), some (.inr G), none, none, none, none, none, some (.inl v30), some (.inl (v34 - 1)), some (.inl (J33 G ((7 * v30) + 2))), none, none, none, none, none, none, none, none] [.inl (v34 - 1), .inl ((7 * v30) + 2), .inr G] J33 (qli c Q)) ∧ ((v34 - 1) < 0 → kl c (0, 0) mL_acts 156 [some (.inr 1), some (.inr G), none, none, none, none, none, some (.inl v30), some (.inl (v34 - 1)), some (.inl (J33 G ((7 * v30) + 2))), none, none, none, none, none, none, none, none] [.inl 4, .inl ((7 * v30) + 2), .inr G] J33 (qli c Q))))) ∧ (3 < (v34 - 1) → ((0 ≤ ((7 * v30) + 2) ∧ ((7 * v30) + 2) < (42 : Int)) ∧ kl c (0, 0) mL_acts 156 [some (.inr 1), some (.inr G), none, none, none, none, none, some (.inl v30), some (.inl 2), some (.inl (J33 G ((7 * v30) + 2))), none, none, none, none, none, none, none, none] [.inl 2, .inl ((7 * v30) + 2), .inr G] J33 (qli c Q))))))))))) ∧ ((J1 N 8) = 0 → (cc mX6_head [.inr 1, .inl 0, .inl 0] J1 (qi fun v42 J41 => ((v42 = (-1) ∨ (sh_Bd v42 ∧ sh_Bd (-1))) ∧ ((¬ v42 = (-1) → Q 0 (mxM J41 J1)) ∧ (v42 = (-1) → Q 1 (mxM J41 J1)))))))))) ∧ ((x5 = 3 → (sh_Bd (J1 N 8) ∧ ((¬ (J1 N 8) = 0 → (cl c mL_low [.inl x6, .inl (J1 N 8)] J1 (li c fun v49 J48 => (∀ u50 : Int, sh_Bd u50 → (cl c mL_low [.inl u50, .inl 6] J48 (li c fun v53 J52 => (sh_Bd (v53 - 1) ∧ (((v53 - 1) ≤ 3 → ((0 ≤ ((7 * v49) + 2) ∧ ((7 * v49) + 2) < (42 : Int)) ∧ ((0 ≤ (v53 - 1) → kl c (0, 0) mL_acts 156 [some (.inr 1), some (.inr G), none, none, none, none, none, some (.inl v49), some (.inl (v53 - 1)), some (.inl (J52 G ((7 * v49) + 2))), none, none, none, none, none, none, none, none] [.inl (v53 - 1), .inl ((7 * v49) + 2), .inr G] J52 (qli c Q)) ∧ ((v53 - 1) < 0 → kl c (0, 0) mL_acts 156 [some (.inr 1), some (.inr G), none, none, none, none, none, some (.inl v49), some (.inl (v53 - 1)), some (.inl (J52 G ((7 * v49) + 2))), none, none, none, none, none, none, none, none] [.inl 4, .inl ((7 * v49) + 2), .inr G] J52 (qli c Q))))) ∧ (3 < (v53 - 1) → ((0 ≤ ((7 * v49) + 2) ∧ ((7 * v49) + 2) < (42 : Int)) ∧ kl c (0, 0) mL_acts 156 [some (.inr 1), some (.inr G), none, none, none, none, none, some (.inl v49), some (.inl 2), some (.inl (J52 G ((7 * v49) + 2))), none, none, none, none, none, none, none, none] [.inl 2, .inl ((7 * v49) + 2), .inr G] J52 (qli c Q))))))))))) ∧ ((J1 N 8) = 0 → (cc mX6_head [.inr 1, .inl 0, .inl 0] J1 (qi fun v61 J60 => ((v61 = (-1) ∨ (sh_Bd v61 ∧ sh_Bd (-1))) ∧ ((¬ v61 = (-1) → Q 0 (mxM J60 J1)) ∧ (v61 = (-1) → Q 1 (mxM J60 J1)))))))))) ∧ ((x5 = 4 → ((0 ≤ ((4 * v2) + 3) ∧ ((4 * v2) + 3) < (12 : Int)) ∧ (∀ u66 : Int, sh_Bd u66 → (cl c mL_low [.inl u66, .inl 3] J1 (li c fun v69 J68 => (sh_Bd v69 ∧ ((v69 ≤ 0 → ((((sh_u J68 L ((4 * v2) + 3) 0) L ((4 * v2) + 3)) = 1 ∨ (sh_Bd ((sh_u J68 L ((4 * v2) + 3) 0) L ((4 * v2) + 3)) ∧ sh_Bd 1)) ∧ ((¬ ((sh_u J68 L ((4 * v2) + 3) 0) L ((4 * v2) + 3)) = 1 → kl c (0, 0) mL_acts 249 [none, none, some (.inr L), none, none, none, some (.inl v2), none, none, none, some (.inl (J1 L ((4 * v2) + 3))), none, none, none, none, none, none, none] [.inl 0, .inl v2, .inr 1] (sh_u J68 L ((4 * v2) + 3) 0) (qli c Q)) ∧ (((sh_u J68 L ((4 * v2) + 3) 0) L ((4 * v2) + 3)) = 1 → kl c (0, 0) mL_acts 249 [none, none, some (.inr L), none, none, none, some (.inl v2), none, none, none, some (.inl (J1 L ((4 * v2) + 3))), none, none, none, none, none, none, none] [.inl 1, .inl v2, .inr 1] (sh_u J68 L ((4 * v2) + 3) 0) (qli c Q))))) ∧ (0 < v69 → ((((sh_u J68 L ((4 * v2) + 3) 1) L ((4 * v2) + 3)) = 1 ∨ (sh_Bd ((sh_u J68 L ((4 * v2) + 3) 1) L ((4 * v2) + 3)) ∧ sh_Bd 1)) ∧ ((¬ ((sh_u J68 L ((4 * v2) + 3) 1) L ((4 * v2) + 3)) = 1 → kl c (0, 0) mL_acts 249 [none, none, some (.inr L), none, none, none, some (.inl v2), none, none, none, some (.inl (J1 L ((4 * v2) + 3))), none, none, none, none, none, none, none] [.inl 0, .inl v2, .inr 1] (sh_u J68 L ((4 * v2) + 3) 1) (qli c Q)) ∧ (((sh_u J68 L ((4 * v2) + 3) 1) L ((4 * v2) + 3)) = 1 → kl c (0, 0) mL_acts 249 [none, none, some (.inr L), none, none, none, some (.inl v2), none, none, none, some (.inl (J1 L ((4 * v2) + 3))), none, none, none, none, none, none, none] [.inl 1, .inl v2, .inr 1] (sh_u J68 L ((4 * v2) + 3) 1) (qli c Q)))))))))))) ∧ ((x5 = 5 → (∀ u77 : Int, sh_Bd u77 → (cl c mL_low [.inl u77, .inl 3] J1 (li c fun v80 J79 => ((0 ≤ ((4 * v2) + v80) ∧ ((4 * v2) + v80) < (12 : Int)) ∧ (sh_Bd v80 ∧ ((¬ v80 = 0 → ((v80 = 1 ∨ (sh_Bd v80 ∧ sh_Bd 1)) ∧ ((¬ v80 = 1 → (∀ u86 : Int, sh_Bd u86 → (cl c mL_low [.inl u86, .inl 10] J79 (li c fun v89 J88 => kl c (0, 0) mL_acts 365 [some (.inr 1), none, some (.inr L), none, none, none, some (.inl v2), none, none, none, none, some (.inl v80), some (.inl (J79 L ((4 * v2) + v80))), none, none, none, none, none] [.inl v89, .inl ((4 * v2) + v80), .inr L] J88 (qli c Q))))) ∧ (v80 = 1 → (∀ u90 : Int, sh_Bd u90 → (cl c mL_low [.inl u90, .inl 4] J79 (li c fun v93 J92 => kl c (0, 0) mL_acts 365 [some (.inr 1), none, some (.inr L), none, none, none, some (.inl v2), none, none, none, none, some (.inl v80), some (.inl (J79 L ((4 * v2) + v80))), none, none, none, none, none] [.inl (1 + v93), .inl ((4 * v2) + v80), .inr L] J92 (qli c Q)))))))) ∧ (v80 = 0 → (∀ u94 : Int, sh_Bd u94 → (cl c mL_low [.inl u94, .inl 4] J79 (li c fun v97 J96 => kl c (0, 0) mL_acts 365 [some (.inr 1), none, some (.inr L), none, none, none, some (.inl v2), none, none, none, none, some (.inl v80), some (.inl (J79 L ((4 * v2) + v80))), none, none, none, none, none] [.inl v97, .inl ((4 * v2) + v80), .inr L] J96 (qli c Q)))))))))))) ∧ ((x5 = 6 → (∀ u99 : Int, sh_Bd u99 → (cl c mL_low [.inl u99, .inl 3] J1 (li c fun v102 J101 => ((0 ≤ ((4 * v2) + v102) ∧ ((4 * v2) + v102) < (12 : Int)) ∧ (sh_Bd v102 ∧ ((¬ v102 = 0 → ((v102 = 1 ∨ (sh_Bd v102 ∧ sh_Bd 1)) ∧ ((¬ v102 = 1 → (∀ u108 : Int, sh_Bd u108 → (cl c mL_low [.inl u108, .inl 10] J101 (li c fun v111 J110 => kl c (0, 0) mL_acts 365 [some (.inr 1), none, some (.inr L), none, none, none, some (.inl v2), none, none, none, none, some (.inl v102), some (.inl (J101 L ((4 * v2) + v102))), none, none, none, none, none] [.inl v111, .inl ((4 * v2) + v102), .inr L] J110 (qli c Q))))) ∧ (v102 = 1 → (∀ u112 : Int, sh_Bd u112 → (cl c mL_low [.inl u112, .inl 4] J101 (li c fun v115 J114 => kl c (0, 0) mL_acts 365 [some (.inr 1), none, some (.inr L), none, none, none, some (.inl v2), none, none, none, none, some (.inl v102), some (.inl (J101 L ((4 * v2) + v102))), none, none, none, none, none] [.inl (1 + v115), .inl ((4 * v2) + v102), .inr L] J114 (qli c Q)))))))) ∧ (v102 = 0 → (∀ u116 : Int, sh_Bd u116 → (cl c mL_low [.inl u116, .inl 4] J101 (li c fun v119 J118 => kl c (0, 0) mL_acts 365 [some (.inr 1), none, some (.inr L), none, none, none, some (.inl v2), none, none, none, none, some (.inl v102), some (.inl (J101 L ((4 * v2) + v102))), none, none, none, none, none] [.inl v119, .inl ((4 * v2) + v102), .inr L] J118 (qli c Q)))))))))))) ∧ ((x5 = 7 → (cl c mL_low [.inl x6, .inl 2] J1 (li c fun v122 J121 => ((0 ≤ (6 + v122) ∧ (6 + v122) < (9 : Int)) ∧ (∀ u124 : Int, sh_Bd u124 → (cl c mL_low [.inl u124, .inl 10] J121 (li c fun v127 J126 => (cc mX6_set [.inr 1, .inl ((6 + v122) - 6), .inl ((sh_u J126 N (6 + v122) v127) N (6 + v122))] (sh_u J126 N (6 + v122) v127) (qi fun v129 J128 => (((J121 N (6 + v122)) = ((mxM J128 (sh_u J126 N (6 + v122) v127)) N (6 + v122)) ∨ (sh_Bd (J121 N (6 + v122)) ∧ sh_Bd ((mxM J128 (sh_u J126 N (6 + v122) v127)) N (6 + v122)))) ∧ ((¬ (J121 N (6 + v122)) = ((mxM J128 (sh_u J126 N (6 + v122) v127)) N (6 + v122)) → ((v129 = (J121 N (6 + v122)) ∨ (sh_Bd v129 ∧ sh_Bd (J121 N (6 + v122)))) ∧ ((¬ v129 = (J121 N (6 + v122)) → Q 0 (mxM J128 (sh_u J126 N (6 + v122) v127))) ∧ (v129 = (J121 N (6 + v122)) → Q 1 (mxM J128 (sh_u J126 N (6 + v122) v127)))))) ∧ ((J121 N (6 + v122)) = ((mxM J128 (sh_u J126 N (6 + v122) v127)) N (6 + v122)) → ((v129 = (-5) ∨ (sh_Bd v129 ∧ sh_Bd (-5))) ∧ ((¬ v129 = (-5) → Q 0 (mxM J128 (sh_u J126 N (6 + v122) v127))) ∧ (v129 = (-5) → Q 1 (mxM J128 (sh_u J126 N (6 + v122) v127))))))))))))))))) ∧ ((x5 < 0 ∨ 7 < x5) → (∀ u137 : Int, sh_Bd u137 → (cl c mL_low [.inl u137, .inl 4] J1 (li c fun v140 J139 => (sh_Bd v140 ∧ ((¬ v140 = 0 → (cl c mL_low [.inl x6, .inl 4] J139 (li c fun v144 J143 => kl c (0, 0) mL_acts 516 [some (.inr 1), some (.inr G), some (.inr L), some (.inr N), none, none, none, none, none, none, none, none, none, none, none, some (.inl (1 + v144)), some (.inl (J143 N 2)), some (.inl 0)] [] J143 (qli c Q)))) ∧ (v140 = 0 → (cl c mL_low [.inl x6, .inl 40] J139 (li c fun v146 J145 => kl c (0, 0) mL_acts 516 [some (.inr 1), some (.inr G), some (.inr L), some (.inr N), none, none, none, none, none, none, none, none, none, none, none, some (.inl (1 + v146)), some (.inl (J145 N 2)), some (.inl 0)] [] J145 (qli c Q)))))))))))))))))))))) : cl c mL_acts [.inr 1, .inr G, .inr L, .inr N, .inl x5, .inl x6] I (li c Q) := by
  refine l_callI cd_L_acts.2.2.2 (Nat.le_of_ble_eq_true rfl) ?_
  show kl c (0, 0) mL_acts 0 [some (.inr 1), some (.inr G), some (.inr L), some (.inr N), some (.inl x5), some (.inl x6), none, none, none, none, none, none, none, none, none, none, none, none] [] I (qli c Q)
  refine sh_iload (pc := 0) dL_acts_0 rfl ?_
  refine sh_iconst (pc := 2) (v := 3) dL_acts_2 rfl ?_
  refine l_S2i (pc := 3) dL_acts_3 lk_L_87 rfl h (fun v2 J1 h => ?_)
  refine k_istore (pc := 6) [some (.inr 1), some (.inr G), some (.inr L), some (.inr N), some (.inl x5), some (.inl x6), some (.inl v2), none, none, none, none, none, none, none, none, none, none, none] dL_acts_6 rfl (by decide) ?_
  refine sh_iload (pc := 8) dL_acts_8 rfl ?_
  obtain ⟨hb_3, h⟩ := h
  by_cases q_7 : x5 = 0
  · refine sh_tableIn (pc := 10) (k := 0) (tgt := 56) dL_acts_10 q_7 (bd_lit (by decide)) (by decide) (by decide) rfl (by decide) ?_
    replace h := h.1 q_7
    refine sh_aload_n (pc := 56) dL_acts_56 rfl rfl ?_
    refine sh_aload_n (pc := 57) dL_acts_57 rfl rfl ?_
    refine sh_aload_n (pc := 58) dL_acts_58 rfl rfl ?_
    refine sh_iload (pc := 59) dL_acts_59 rfl ?_
    refine l_S4i (pc := 61) dL_acts_61 lk_L_93 rfl h (fun v5 J4 h => ?_)
    obtain ⟨hz_6, h⟩ := h
    exact l_zret ext.rf dL_acts_64 rfl hz_6 h
  replace h := h.2
  by_cases q_26 : x5 = 1
  · refine sh_tableIn (pc := 10) (k := 1) (tgt := 65) dL_acts_10 q_26 (bd_lit (by decide)) (by decide) (by decide) rfl (by decide) ?_
    replace h := h.1 q_26
    refine sh_aload_n (pc := 65) dL_acts_65 rfl rfl ?_
    refine sh_bipush (pc := 66) (v := 8) dL_acts_66 (by decide) ?_
    refine l_ald (pc := 68) dL_acts_68 hN (by decide) ?_
    obtain ⟨hb_8, h⟩ := h
    refine sh_if_ne (pc := 69) (tgt := 88) dL_acts_69 (by decide) hb_8  (fun q_9 => ?_) (fun q_9 => ?_)
    · replace h := h.1 q_9
      refine sh_iload (pc := 88) dL_acts_88 rfl ?_
      refine sh_aload_n (pc := 90) dL_acts_90 rfl rfl ?_
      refine sh_bipush (pc := 91) (v := 8) dL_acts_91 (by decide) ?_
      refine l_ald (pc := 93) dL_acts_93 hN (by decide) ?_
      refine l_S2i (pc := 94) dL_acts_94 lk_L_87 rfl h (fun v11 J10 h => ?_)
      refine k_istore (pc := 97) [some (.inr 1), some (.inr G), some (.inr L), some (.inr N), some (.inl x5), some (.inl x6), some (.inl v2), some (.inl v11), none, none, none, none, none, none, none, none, none, none] dL_acts_97 rfl (by decide) ?_
      refine sh_iload (pc := 99) dL_acts_99 rfl ?_
      refine sh_iconst (pc := 101) (v := 4) dL_acts_101 rfl ?_
      refine l_ishr (pc := 102) dL_acts_102 (fun u12 hu_13 => ?_)
      replace h := h u12 hu_13
      refine sh_bipush (pc := 103) (v := 6) dL_acts_103 (by decide) ?_
      refine l_S2i (pc := 105) dL_acts_105 lk_L_87 rfl h (fun v15 J14 h => ?_)
      refine sh_iconst (pc := 108) (v := 1) dL_acts_108 rfl ?_
      refine sh_isub (pc := 109) dL_acts_109 ?_
      refine k_istore (pc := 110) [some (.inr 1), some (.inr G), some (.inr L), some (.inr N), some (.inl x5), some (.inl x6), some (.inl v2), some (.inl v11), some (.inl (v15 - 1)), none, none, none, none, none, none, none, none, none] dL_acts_110 rfl (by decide) ?_
      refine sh_iload (pc := 112) dL_acts_112 rfl ?_
      refine sh_iconst (pc := 114) (v := 3) dL_acts_114 rfl ?_
      obtain ⟨hb_16, h⟩ := h
      refine sh_icmp_le (pc := 115) (tgt := 122) dL_acts_115 (by decide) hb_16 (bd_lit (by decide)) (fun q_17 => ?_) (fun q_17 => ?_)
      · replace h := h.1 q_17
        refine sh_iload (pc := 122) dL_acts_122 rfl ?_
        refine k_istore (pc := 124) [some (.inr 1), some (.inr G), some (.inr L), some (.inr N), some (.inl x5), some (.inl x6), some (.inl v2), some (.inl v11), some (.inl (v15 - 1)), none, none, none, none, none, none, none, none, none] dL_acts_124 rfl (by decide) ?_
        refine sh_aload_n (pc := 126) dL_acts_126 rfl rfl ?_
        refine sh_bipush (pc := 127) (v := 7) dL_acts_127 (by decide) ?_
        refine sh_iload (pc := 129) dL_acts_129 rfl ?_
        refine sh_imul (pc := 131) dL_acts_131 ?_
        refine sh_iconst (pc := 132) (v := 2) dL_acts_132 rfl ?_
        refine sh_iadd (pc := 133) dL_acts_133 ?_
        obtain ⟨hi_18, h⟩ := h
        refine l_ald (pc := 134) dL_acts_134 hG hi_18 ?_
        refine k_istore (pc := 135) [some (.inr 1), some (.inr G), some (.inr L), some (.inr N), some (.inl x5), some (.inl x6), some (.inl v2), some (.inl v11), some (.inl (v15 - 1)), some (.inl (J14 G ((7 * v11) + 2))), none, none, none, none, none, none, none, none] dL_acts_135 rfl (by decide) ?_
        refine sh_aload_n (pc := 137) dL_acts_137 rfl rfl ?_
        refine sh_bipush (pc := 138) (v := 7) dL_acts_138 (by decide) ?_
        refine sh_iload (pc := 140) dL_acts_140 rfl ?_
        refine sh_imul (pc := 142) dL_acts_142 ?_
        refine sh_iconst (pc := 143) (v := 2) dL_acts_143 rfl ?_
        refine sh_iadd (pc := 144) dL_acts_144 ?_
        refine sh_iload (pc := 145) dL_acts_145 rfl ?_
        refine sh_if_ge (pc := 147) (tgt := 154) dL_acts_147 (by decide) hb_16  (fun q_19 => ?_) (fun q_19 => ?_)
        · replace h := h.1 q_19
          refine sh_iload (pc := 154) dL_acts_154 rfl ?_
          exact sh_O.locals h (sub_some (sub_some (sub_none (sub_none (sub_none (sub_none (sub_none (sub_some (sub_some (sub_some (sub_none (sub_none (sub_none (sub_none (sub_none (sub_none (sub_none (sub_none sub_nil))))))))))))))))))
        · replace h := h.2 q_19
          refine sh_iconst (pc := 150) (v := 4) dL_acts_150 rfl ?_
          refine sh_goto (pc := 151) (tgt := 156) dL_acts_151 (by decide) ?_
          exact sh_O.locals h (sub_some (sub_some (sub_none (sub_none (sub_none (sub_none (sub_none (sub_some (sub_some (sub_some (sub_none (sub_none (sub_none (sub_none (sub_none (sub_none (sub_none (sub_none sub_nil))))))))))))))))))
      · replace h := h.2 q_17
        refine sh_iconst (pc := 118) (v := 2) dL_acts_118 rfl ?_
        refine sh_goto (pc := 119) (tgt := 124) dL_acts_119 (by decide) ?_
        refine k_istore (pc := 124) [some (.inr 1), some (.inr G), some (.inr L), some (.inr N), some (.inl x5), some (.inl x6), some (.inl v2), some (.inl v11), some (.inl 2), none, none, none, none, none, none, none, none, none] dL_acts_124 rfl (by decide) ?_
        refine sh_aload_n (pc := 126) dL_acts_126 rfl rfl ?_
        refine sh_bipush (pc := 127) (v := 7) dL_acts_127 (by decide) ?_
        refine sh_iload (pc := 129) dL_acts_129 rfl ?_
        refine sh_imul (pc := 131) dL_acts_131 ?_
        refine sh_iconst (pc := 132) (v := 2) dL_acts_132 rfl ?_
        refine sh_iadd (pc := 133) dL_acts_133 ?_
        obtain ⟨hi_20, h⟩ := h
        refine l_ald (pc := 134) dL_acts_134 hG hi_20 ?_
        refine k_istore (pc := 135) [some (.inr 1), some (.inr G), some (.inr L), some (.inr N), some (.inl x5), some (.inl x6), some (.inl v2), some (.inl v11), some (.inl 2), some (.inl (J14 G ((7 * v11) + 2))), none, none, none, none, none, none, none, none] dL_acts_135 rfl (by decide) ?_
        refine sh_aload_n (pc := 137) dL_acts_137 rfl rfl ?_
        refine sh_bipush (pc := 138) (v := 7) dL_acts_138 (by decide) ?_
        refine sh_iload (pc := 140) dL_acts_140 rfl ?_
        refine sh_imul (pc := 142) dL_acts_142 ?_
        refine sh_iconst (pc := 143) (v := 2) dL_acts_143 rfl ?_
        refine sh_iadd (pc := 144) dL_acts_144 ?_
        refine sh_iload (pc := 145) dL_acts_145 rfl ?_
        refine sh_if_ge (pc := 147) (tgt := 154) dL_acts_147 (by decide) (bd_lit (by decide))  (fun q_21 => ?_) (fun q_21 => ?_)
        · skip
          refine sh_iload (pc := 154) dL_acts_154 rfl ?_
          exact sh_O.locals h (sub_some (sub_some (sub_none (sub_none (sub_none (sub_none (sub_none (sub_some (sub_some (sub_some (sub_none (sub_none (sub_none (sub_none (sub_none (sub_none (sub_none (sub_none sub_nil))))))))))))))))))
        · exact absurd q_21 (by decide)
    · replace h := h.2 q_9
      refine sh_aload_n (pc := 72) dL_acts_72 rfl rfl ?_
      refine sh_iconst (pc := 73) (v := 0) dL_acts_73 rfl ?_
      refine sh_iconst (pc := 74) (v := 0) dL_acts_74 rfl ?_
      refine l_F2 (pc := 75) hx dL_acts_75 lk_L_97 rfl h (fun v23 J22 h => ?_)
      refine sh_iconst (pc := 78) (v := (-1)) dL_acts_78 rfl ?_
      obtain ⟨ho_24, h⟩ := h
      refine l_icmp_ne (pc := 79) (tgt := 86) dL_acts_79 (by decide) ho_24 (fun q_25 => ?_) (fun q_25 => ?_)
      · replace h := h.1 q_25
        refine sh_iconst (pc := 86) (v := 0) dL_acts_86 rfl ?_
        exact l_zret ext.rf dL_acts_87 rfl (Or.inl rfl) h
      · replace h := h.2 q_25
        refine sh_iconst (pc := 82) (v := 1) dL_acts_82 rfl ?_
        refine sh_goto (pc := 83) (tgt := 87) dL_acts_83 (by decide) ?_
        exact l_zret ext.rf dL_acts_87 rfl (Or.inr rfl) h
  replace h := h.2
  by_cases q_45 : x5 = 2
  · refine sh_tableIn (pc := 10) (k := 2) (tgt := 65) dL_acts_10 q_45 (bd_lit (by decide)) (by decide) (by decide) rfl (by decide) ?_
    replace h := h.1 q_45
    refine sh_aload_n (pc := 65) dL_acts_65 rfl rfl ?_
    refine sh_bipush (pc := 66) (v := 8) dL_acts_66 (by decide) ?_
    refine l_ald (pc := 68) dL_acts_68 hN (by decide) ?_
    obtain ⟨hb_27, h⟩ := h
    refine sh_if_ne (pc := 69) (tgt := 88) dL_acts_69 (by decide) hb_27  (fun q_28 => ?_) (fun q_28 => ?_)
    · replace h := h.1 q_28
      refine sh_iload (pc := 88) dL_acts_88 rfl ?_
      refine sh_aload_n (pc := 90) dL_acts_90 rfl rfl ?_
      refine sh_bipush (pc := 91) (v := 8) dL_acts_91 (by decide) ?_
      refine l_ald (pc := 93) dL_acts_93 hN (by decide) ?_
      refine l_S2i (pc := 94) dL_acts_94 lk_L_87 rfl h (fun v30 J29 h => ?_)
      refine k_istore (pc := 97) [some (.inr 1), some (.inr G), some (.inr L), some (.inr N), some (.inl x5), some (.inl x6), some (.inl v2), some (.inl v30), none, none, none, none, none, none, none, none, none, none] dL_acts_97 rfl (by decide) ?_
      refine sh_iload (pc := 99) dL_acts_99 rfl ?_
      refine sh_iconst (pc := 101) (v := 4) dL_acts_101 rfl ?_
      refine l_ishr (pc := 102) dL_acts_102 (fun u31 hu_32 => ?_)
      replace h := h u31 hu_32
      refine sh_bipush (pc := 103) (v := 6) dL_acts_103 (by decide) ?_
      refine l_S2i (pc := 105) dL_acts_105 lk_L_87 rfl h (fun v34 J33 h => ?_)
      refine sh_iconst (pc := 108) (v := 1) dL_acts_108 rfl ?_
      refine sh_isub (pc := 109) dL_acts_109 ?_
      refine k_istore (pc := 110) [some (.inr 1), some (.inr G), some (.inr L), some (.inr N), some (.inl x5), some (.inl x6), some (.inl v2), some (.inl v30), some (.inl (v34 - 1)), none, none, none, none, none, none, none, none, none] dL_acts_110 rfl (by decide) ?_
      refine sh_iload (pc := 112) dL_acts_112 rfl ?_
      refine sh_iconst (pc := 114) (v := 3) dL_acts_114 rfl ?_
      obtain ⟨hb_35, h⟩ := h
      refine sh_icmp_le (pc := 115) (tgt := 122) dL_acts_115 (by decide) hb_35 (bd_lit (by decide)) (fun q_36 => ?_) (fun q_36 => ?_)
      · replace h := h.1 q_36
        refine sh_iload (pc := 122) dL_acts_122 rfl ?_
        refine k_istore (pc := 124) [some (.inr 1), some (.inr G), some (.inr L), some (.inr N), some (.inl x5), some (.inl x6), some (.inl v2), some (.inl v30), some (.inl (v34 - 1)), none, none, none, none, none, none, none, none, none] dL_acts_124 rfl (by decide) ?_
        refine sh_aload_n (pc := 126) dL_acts_126 rfl rfl ?_
        refine sh_bipush (pc := 127) (v := 7) dL_acts_127 (by decide) ?_
        refine sh_iload (pc := 129) dL_acts_129 rfl ?_
        refine sh_imul (pc := 131) dL_acts_131 ?_
        refine sh_iconst (pc := 132) (v := 2) dL_acts_132 rfl ?_
        refine sh_iadd (pc := 133) dL_acts_133 ?_
        obtain ⟨hi_37, h⟩ := h
        refine l_ald (pc := 134) dL_acts_134 hG hi_37 ?_
        refine k_istore (pc := 135) [some (.inr 1), some (.inr G), some (.inr L), some (.inr N), some (.inl x5), some (.inl x6), some (.inl v2), some (.inl v30), some (.inl (v34 - 1)), some (.inl (J33 G ((7 * v30) + 2))), none, none, none, none, none, none, none, none] dL_acts_135 rfl (by decide) ?_
        refine sh_aload_n (pc := 137) dL_acts_137 rfl rfl ?_
        refine sh_bipush (pc := 138) (v := 7) dL_acts_138 (by decide) ?_
        refine sh_iload (pc := 140) dL_acts_140 rfl ?_
        refine sh_imul (pc := 142) dL_acts_142 ?_
        refine sh_iconst (pc := 143) (v := 2) dL_acts_143 rfl ?_
        refine sh_iadd (pc := 144) dL_acts_144 ?_
        refine sh_iload (pc := 145) dL_acts_145 rfl ?_
        refine sh_if_ge (pc := 147) (tgt := 154) dL_acts_147 (by decide) hb_35  (fun q_38 => ?_) (fun q_38 => ?_)
        · replace h := h.1 q_38
          refine sh_iload (pc := 154) dL_acts_154 rfl ?_
          exact sh_O.locals h (sub_some (sub_some (sub_none (sub_none (sub_none (sub_none (sub_none (sub_some (sub_some (sub_some (sub_none (sub_none (sub_none (sub_none (sub_none (sub_none (sub_none (sub_none sub_nil))))))))))))))))))
        · replace h := h.2 q_38
          refine sh_iconst (pc := 150) (v := 4) dL_acts_150 rfl ?_
          refine sh_goto (pc := 151) (tgt := 156) dL_acts_151 (by decide) ?_
          exact sh_O.locals h (sub_some (sub_some (sub_none (sub_none (sub_none (sub_none (sub_none (sub_some (sub_some (sub_some (sub_none (sub_none (sub_none (sub_none (sub_none (sub_none (sub_none (sub_none sub_nil))))))))))))))))))
      · replace h := h.2 q_36
        refine sh_iconst (pc := 118) (v := 2) dL_acts_118 rfl ?_
        refine sh_goto (pc := 119) (tgt := 124) dL_acts_119 (by decide) ?_
        refine k_istore (pc := 124) [some (.inr 1), some (.inr G), some (.inr L), some (.inr N), some (.inl x5), some (.inl x6), some (.inl v2), some (.inl v30), some (.inl 2), none, none, none, none, none, none, none, none, none] dL_acts_124 rfl (by decide) ?_
        refine sh_aload_n (pc := 126) dL_acts_126 rfl rfl ?_
        refine sh_bipush (pc := 127) (v := 7) dL_acts_127 (by decide) ?_
        refine sh_iload (pc := 129) dL_acts_129 rfl ?_
        refine sh_imul (pc := 131) dL_acts_131 ?_
        refine sh_iconst (pc := 132) (v := 2) dL_acts_132 rfl ?_
        refine sh_iadd (pc := 133) dL_acts_133 ?_
        obtain ⟨hi_39, h⟩ := h
        refine l_ald (pc := 134) dL_acts_134 hG hi_39 ?_
        refine k_istore (pc := 135) [some (.inr 1), some (.inr G), some (.inr L), some (.inr N), some (.inl x5), some (.inl x6), some (.inl v2), some (.inl v30), some (.inl 2), some (.inl (J33 G ((7 * v30) + 2))), none, none, none, none, none, none, none, none] dL_acts_135 rfl (by decide) ?_
        refine sh_aload_n (pc := 137) dL_acts_137 rfl rfl ?_
        refine sh_bipush (pc := 138) (v := 7) dL_acts_138 (by decide) ?_
        refine sh_iload (pc := 140) dL_acts_140 rfl ?_
        refine sh_imul (pc := 142) dL_acts_142 ?_
        refine sh_iconst (pc := 143) (v := 2) dL_acts_143 rfl ?_
        refine sh_iadd (pc := 144) dL_acts_144 ?_
        refine sh_iload (pc := 145) dL_acts_145 rfl ?_
        refine sh_if_ge (pc := 147) (tgt := 154) dL_acts_147 (by decide) (bd_lit (by decide))  (fun q_40 => ?_) (fun q_40 => ?_)
        · skip
          refine sh_iload (pc := 154) dL_acts_154 rfl ?_
          exact sh_O.locals h (sub_some (sub_some (sub_none (sub_none (sub_none (sub_none (sub_none (sub_some (sub_some (sub_some (sub_none (sub_none (sub_none (sub_none (sub_none (sub_none (sub_none (sub_none sub_nil))))))))))))))))))
        · exact absurd q_40 (by decide)
    · replace h := h.2 q_28
      refine sh_aload_n (pc := 72) dL_acts_72 rfl rfl ?_
      refine sh_iconst (pc := 73) (v := 0) dL_acts_73 rfl ?_
      refine sh_iconst (pc := 74) (v := 0) dL_acts_74 rfl ?_
      refine l_F2 (pc := 75) hx dL_acts_75 lk_L_97 rfl h (fun v42 J41 h => ?_)
      refine sh_iconst (pc := 78) (v := (-1)) dL_acts_78 rfl ?_
      obtain ⟨ho_43, h⟩ := h
      refine l_icmp_ne (pc := 79) (tgt := 86) dL_acts_79 (by decide) ho_43 (fun q_44 => ?_) (fun q_44 => ?_)
      · replace h := h.1 q_44
        refine sh_iconst (pc := 86) (v := 0) dL_acts_86 rfl ?_
        exact l_zret ext.rf dL_acts_87 rfl (Or.inl rfl) h
      · replace h := h.2 q_44
        refine sh_iconst (pc := 82) (v := 1) dL_acts_82 rfl ?_
        refine sh_goto (pc := 83) (tgt := 87) dL_acts_83 (by decide) ?_
        exact l_zret ext.rf dL_acts_87 rfl (Or.inr rfl) h
  replace h := h.2
  by_cases q_64 : x5 = 3
  · refine sh_tableIn (pc := 10) (k := 3) (tgt := 65) dL_acts_10 q_64 (bd_lit (by decide)) (by decide) (by decide) rfl (by decide) ?_
    replace h := h.1 q_64
    refine sh_aload_n (pc := 65) dL_acts_65 rfl rfl ?_
    refine sh_bipush (pc := 66) (v := 8) dL_acts_66 (by decide) ?_
    refine l_ald (pc := 68) dL_acts_68 hN (by decide) ?_
    obtain ⟨hb_46, h⟩ := h
    refine sh_if_ne (pc := 69) (tgt := 88) dL_acts_69 (by decide) hb_46  (fun q_47 => ?_) (fun q_47 => ?_)
    · replace h := h.1 q_47
      refine sh_iload (pc := 88) dL_acts_88 rfl ?_
      refine sh_aload_n (pc := 90) dL_acts_90 rfl rfl ?_
      refine sh_bipush (pc := 91) (v := 8) dL_acts_91 (by decide) ?_
      refine l_ald (pc := 93) dL_acts_93 hN (by decide) ?_
      refine l_S2i (pc := 94) dL_acts_94 lk_L_87 rfl h (fun v49 J48 h => ?_)
      refine k_istore (pc := 97) [some (.inr 1), some (.inr G), some (.inr L), some (.inr N), some (.inl x5), some (.inl x6), some (.inl v2), some (.inl v49), none, none, none, none, none, none, none, none, none, none] dL_acts_97 rfl (by decide) ?_
      refine sh_iload (pc := 99) dL_acts_99 rfl ?_
      refine sh_iconst (pc := 101) (v := 4) dL_acts_101 rfl ?_
      refine l_ishr (pc := 102) dL_acts_102 (fun u50 hu_51 => ?_)
      replace h := h u50 hu_51
      refine sh_bipush (pc := 103) (v := 6) dL_acts_103 (by decide) ?_
      refine l_S2i (pc := 105) dL_acts_105 lk_L_87 rfl h (fun v53 J52 h => ?_)
      refine sh_iconst (pc := 108) (v := 1) dL_acts_108 rfl ?_
      refine sh_isub (pc := 109) dL_acts_109 ?_
      refine k_istore (pc := 110) [some (.inr 1), some (.inr G), some (.inr L), some (.inr N), some (.inl x5), some (.inl x6), some (.inl v2), some (.inl v49), some (.inl (v53 - 1)), none, none, none, none, none, none, none, none, none] dL_acts_110 rfl (by decide) ?_
      refine sh_iload (pc := 112) dL_acts_112 rfl ?_
      refine sh_iconst (pc := 114) (v := 3) dL_acts_114 rfl ?_
      obtain ⟨hb_54, h⟩ := h
      refine sh_icmp_le (pc := 115) (tgt := 122) dL_acts_115 (by decide) hb_54 (bd_lit (by decide)) (fun q_55 => ?_) (fun q_55 => ?_)
      · replace h := h.1 q_55
        refine sh_iload (pc := 122) dL_acts_122 rfl ?_
        refine k_istore (pc := 124) [some (.inr 1), some (.inr G), some (.inr L), some (.inr N), some (.inl x5), some (.inl x6), some (.inl v2), some (.inl v49), some (.inl (v53 - 1)), none, none, none, none, none, none, none, none, none] dL_acts_124 rfl (by decide) ?_
        refine sh_aload_n (pc := 126) dL_acts_126 rfl rfl ?_
        refine sh_bipush (pc := 127) (v := 7) dL_acts_127 (by decide) ?_
        refine sh_iload (pc := 129) dL_acts_129 rfl ?_
        refine sh_imul (pc := 131) dL_acts_131 ?_
        refine sh_iconst (pc := 132) (v := 2) dL_acts_132 rfl ?_
        refine sh_iadd (pc := 133) dL_acts_133 ?_
        obtain ⟨hi_56, h⟩ := h
        refine l_ald (pc := 134) dL_acts_134 hG hi_56 ?_
        refine k_istore (pc := 135) [some (.inr 1), some (.inr G), some (.inr L), some (.inr N), some (.inl x5), some (.inl x6), some (.inl v2), some (.inl v49), some (.inl (v53 - 1)), some (.inl (J52 G ((7 * v49) + 2))), none, none, none, none, none, none, none, none] dL_acts_135 rfl (by decide) ?_
        refine sh_aload_n (pc := 137) dL_acts_137 rfl rfl ?_
        refine sh_bipush (pc := 138) (v := 7) dL_acts_138 (by decide) ?_
        refine sh_iload (pc := 140) dL_acts_140 rfl ?_
        refine sh_imul (pc := 142) dL_acts_142 ?_
        refine sh_iconst (pc := 143) (v := 2) dL_acts_143 rfl ?_
        refine sh_iadd (pc := 144) dL_acts_144 ?_
        refine sh_iload (pc := 145) dL_acts_145 rfl ?_
        refine sh_if_ge (pc := 147) (tgt := 154) dL_acts_147 (by decide) hb_54  (fun q_57 => ?_) (fun q_57 => ?_)
        · replace h := h.1 q_57
          refine sh_iload (pc := 154) dL_acts_154 rfl ?_
          exact sh_O.locals h (sub_some (sub_some (sub_none (sub_none (sub_none (sub_none (sub_none (sub_some (sub_some (sub_some (sub_none (sub_none (sub_none (sub_none (sub_none (sub_none (sub_none (sub_none sub_nil))))))))))))))))))
        · replace h := h.2 q_57
          refine sh_iconst (pc := 150) (v := 4) dL_acts_150 rfl ?_
          refine sh_goto (pc := 151) (tgt := 156) dL_acts_151 (by decide) ?_
          exact sh_O.locals h (sub_some (sub_some (sub_none (sub_none (sub_none (sub_none (sub_none (sub_some (sub_some (sub_some (sub_none (sub_none (sub_none (sub_none (sub_none (sub_none (sub_none (sub_none sub_nil))))))))))))))))))
      · replace h := h.2 q_55
        refine sh_iconst (pc := 118) (v := 2) dL_acts_118 rfl ?_
        refine sh_goto (pc := 119) (tgt := 124) dL_acts_119 (by decide) ?_
        refine k_istore (pc := 124) [some (.inr 1), some (.inr G), some (.inr L), some (.inr N), some (.inl x5), some (.inl x6), some (.inl v2), some (.inl v49), some (.inl 2), none, none, none, none, none, none, none, none, none] dL_acts_124 rfl (by decide) ?_
        refine sh_aload_n (pc := 126) dL_acts_126 rfl rfl ?_
        refine sh_bipush (pc := 127) (v := 7) dL_acts_127 (by decide) ?_
        refine sh_iload (pc := 129) dL_acts_129 rfl ?_
        refine sh_imul (pc := 131) dL_acts_131 ?_
        refine sh_iconst (pc := 132) (v := 2) dL_acts_132 rfl ?_
        refine sh_iadd (pc := 133) dL_acts_133 ?_
        obtain ⟨hi_58, h⟩ := h
        refine l_ald (pc := 134) dL_acts_134 hG hi_58 ?_
        refine k_istore (pc := 135) [some (.inr 1), some (.inr G), some (.inr L), some (.inr N), some (.inl x5), some (.inl x6), some (.inl v2), some (.inl v49), some (.inl 2), some (.inl (J52 G ((7 * v49) + 2))), none, none, none, none, none, none, none, none] dL_acts_135 rfl (by decide) ?_
        refine sh_aload_n (pc := 137) dL_acts_137 rfl rfl ?_
        refine sh_bipush (pc := 138) (v := 7) dL_acts_138 (by decide) ?_
        refine sh_iload (pc := 140) dL_acts_140 rfl ?_
        refine sh_imul (pc := 142) dL_acts_142 ?_
        refine sh_iconst (pc := 143) (v := 2) dL_acts_143 rfl ?_
        refine sh_iadd (pc := 144) dL_acts_144 ?_
        refine sh_iload (pc := 145) dL_acts_145 rfl ?_
        refine sh_if_ge (pc := 147) (tgt := 154) dL_acts_147 (by decide) (bd_lit (by decide))  (fun q_59 => ?_) (fun q_59 => ?_)
        · skip
          refine sh_iload (pc := 154) dL_acts_154 rfl ?_
          exact sh_O.locals h (sub_some (sub_some (sub_none (sub_none (sub_none (sub_none (sub_none (sub_some (sub_some (sub_some (sub_none (sub_none (sub_none (sub_none (sub_none (sub_none (sub_none (sub_none sub_nil))))))))))))))))))
        · exact absurd q_59 (by decide)
    · replace h := h.2 q_47
      refine sh_aload_n (pc := 72) dL_acts_72 rfl rfl ?_
      refine sh_iconst (pc := 73) (v := 0) dL_acts_73 rfl ?_
      refine sh_iconst (pc := 74) (v := 0) dL_acts_74 rfl ?_
      refine l_F2 (pc := 75) hx dL_acts_75 lk_L_97 rfl h (fun v61 J60 h => ?_)
      refine sh_iconst (pc := 78) (v := (-1)) dL_acts_78 rfl ?_
      obtain ⟨ho_62, h⟩ := h
      refine l_icmp_ne (pc := 79) (tgt := 86) dL_acts_79 (by decide) ho_62 (fun q_63 => ?_) (fun q_63 => ?_)
      · replace h := h.1 q_63
        refine sh_iconst (pc := 86) (v := 0) dL_acts_86 rfl ?_
        exact l_zret ext.rf dL_acts_87 rfl (Or.inl rfl) h
      · replace h := h.2 q_63
        refine sh_iconst (pc := 82) (v := 1) dL_acts_82 rfl ?_
        refine sh_goto (pc := 83) (tgt := 87) dL_acts_83 (by decide) ?_
        exact l_zret ext.rf dL_acts_87 rfl (Or.inr rfl) h
  replace h := h.2
  by_cases q_76 : x5 = 4
  · refine sh_tableIn (pc := 10) (k := 4) (tgt := 195) dL_acts_10 q_76 (bd_lit (by decide)) (by decide) (by decide) rfl (by decide) ?_
    replace h := h.1 q_76
    refine sh_aload_n (pc := 195) dL_acts_195 rfl rfl ?_
    refine sh_iconst (pc := 196) (v := 4) dL_acts_196 rfl ?_
    refine sh_iload (pc := 197) dL_acts_197 rfl ?_
    refine sh_imul (pc := 199) dL_acts_199 ?_
    refine sh_iconst (pc := 200) (v := 3) dL_acts_200 rfl ?_
    refine sh_iadd (pc := 201) dL_acts_201 ?_
    obtain ⟨hi_65, h⟩ := h
    refine l_ald (pc := 202) dL_acts_202 hL hi_65 ?_
    refine k_istore (pc := 203) [some (.inr 1), some (.inr G), some (.inr L), some (.inr N), some (.inl x5), some (.inl x6), some (.inl v2), none, none, none, some (.inl (J1 L ((4 * v2) + 3))), none, none, none, none, none, none, none] dL_acts_203 rfl (by decide) ?_
    refine sh_aload_n (pc := 205) dL_acts_205 rfl rfl ?_
    refine sh_iconst (pc := 206) (v := 4) dL_acts_206 rfl ?_
    refine sh_iload (pc := 207) dL_acts_207 rfl ?_
    refine sh_imul (pc := 209) dL_acts_209 ?_
    refine sh_iconst (pc := 210) (v := 3) dL_acts_210 rfl ?_
    refine sh_iadd (pc := 211) dL_acts_211 ?_
    refine sh_iload (pc := 212) dL_acts_212 rfl ?_
    refine sh_iconst (pc := 214) (v := 2) dL_acts_214 rfl ?_
    refine l_ishr (pc := 215) dL_acts_215 (fun u66 hu_67 => ?_)
    replace h := h u66 hu_67
    refine sh_iconst (pc := 216) (v := 3) dL_acts_216 rfl ?_
    refine l_S2i (pc := 217) dL_acts_217 lk_L_87 rfl h (fun v69 J68 h => ?_)
    obtain ⟨hb_70, h⟩ := h
    refine sh_if_le (pc := 220) (tgt := 227) dL_acts_220 (by decide) hb_70  (fun q_71 => ?_) (fun q_71 => ?_)
    · replace h := h.1 q_71
      refine sh_iconst (pc := 227) (v := 0) dL_acts_227 rfl ?_
      refine l_ast (pc := 228) dL_acts_228 hL hi_65 ?_
      refine sh_aload_n (pc := 229) dL_acts_229 rfl rfl ?_
      refine sh_iload (pc := 230) dL_acts_230 rfl ?_
      refine sh_aload_n (pc := 232) dL_acts_232 rfl rfl ?_
      refine sh_iconst (pc := 233) (v := 4) dL_acts_233 rfl ?_
      refine sh_iload (pc := 234) dL_acts_234 rfl ?_
      refine sh_imul (pc := 236) dL_acts_236 ?_
      refine sh_iconst (pc := 237) (v := 3) dL_acts_237 rfl ?_
      refine sh_iadd (pc := 238) dL_acts_238 ?_
      refine l_ald (pc := 239) dL_acts_239 hL hi_65 ?_
      refine sh_iconst (pc := 240) (v := 1) dL_acts_240 rfl ?_
      obtain ⟨ho_72, h⟩ := h
      refine l_icmp_ne (pc := 241) (tgt := 248) dL_acts_241 (by decide) ho_72 (fun q_73 => ?_) (fun q_73 => ?_)
      · replace h := h.1 q_73
        refine sh_iconst (pc := 248) (v := 0) dL_acts_248 rfl ?_
        exact sh_O.locals h (sub_none (sub_none (sub_some (sub_none (sub_none (sub_none (sub_some (sub_none (sub_none (sub_none (sub_some (sub_none (sub_none (sub_none (sub_none (sub_none (sub_none (sub_none sub_nil))))))))))))))))))
      · replace h := h.2 q_73
        refine sh_iconst (pc := 244) (v := 1) dL_acts_244 rfl ?_
        refine sh_goto (pc := 245) (tgt := 249) dL_acts_245 (by decide) ?_
        exact sh_O.locals h (sub_none (sub_none (sub_some (sub_none (sub_none (sub_none (sub_some (sub_none (sub_none (sub_none (sub_some (sub_none (sub_none (sub_none (sub_none (sub_none (sub_none (sub_none sub_nil))))))))))))))))))
    · replace h := h.2 q_71
      refine sh_iconst (pc := 223) (v := 1) dL_acts_223 rfl ?_
      refine sh_goto (pc := 224) (tgt := 228) dL_acts_224 (by decide) ?_
      refine l_ast (pc := 228) dL_acts_228 hL hi_65 ?_
      refine sh_aload_n (pc := 229) dL_acts_229 rfl rfl ?_
      refine sh_iload (pc := 230) dL_acts_230 rfl ?_
      refine sh_aload_n (pc := 232) dL_acts_232 rfl rfl ?_
      refine sh_iconst (pc := 233) (v := 4) dL_acts_233 rfl ?_
      refine sh_iload (pc := 234) dL_acts_234 rfl ?_
      refine sh_imul (pc := 236) dL_acts_236 ?_
      refine sh_iconst (pc := 237) (v := 3) dL_acts_237 rfl ?_
      refine sh_iadd (pc := 238) dL_acts_238 ?_
      refine l_ald (pc := 239) dL_acts_239 hL hi_65 ?_
      refine sh_iconst (pc := 240) (v := 1) dL_acts_240 rfl ?_
      obtain ⟨ho_74, h⟩ := h
      refine l_icmp_ne (pc := 241) (tgt := 248) dL_acts_241 (by decide) ho_74 (fun q_75 => ?_) (fun q_75 => ?_)
      · replace h := h.1 q_75
        refine sh_iconst (pc := 248) (v := 0) dL_acts_248 rfl ?_
        exact sh_O.locals h (sub_none (sub_none (sub_some (sub_none (sub_none (sub_none (sub_some (sub_none (sub_none (sub_none (sub_some (sub_none (sub_none (sub_none (sub_none (sub_none (sub_none (sub_none sub_nil))))))))))))))))))
      · replace h := h.2 q_75
        refine sh_iconst (pc := 244) (v := 1) dL_acts_244 rfl ?_
        refine sh_goto (pc := 245) (tgt := 249) dL_acts_245 (by decide) ?_
        exact sh_O.locals h (sub_none (sub_none (sub_some (sub_none (sub_none (sub_none (sub_some (sub_none (sub_none (sub_none (sub_some (sub_none (sub_none (sub_none (sub_none (sub_none (sub_none (sub_none sub_nil))))))))))))))))))
  replace h := h.2
  by_cases q_98 : x5 = 5
  · refine sh_tableIn (pc := 10) (k := 5) (tgt := 292) dL_acts_10 q_98 (bd_lit (by decide)) (by decide) (by decide) rfl (by decide) ?_
    replace h := h.1 q_98
    refine sh_iload (pc := 292) dL_acts_292 rfl ?_
    refine sh_iconst (pc := 294) (v := 2) dL_acts_294 rfl ?_
    refine l_ishr (pc := 295) dL_acts_295 (fun u77 hu_78 => ?_)
    replace h := h u77 hu_78
    refine sh_iconst (pc := 296) (v := 3) dL_acts_296 rfl ?_
    refine l_S2i (pc := 297) dL_acts_297 lk_L_87 rfl h (fun v80 J79 h => ?_)
    refine k_istore (pc := 300) [some (.inr 1), some (.inr G), some (.inr L), some (.inr N), some (.inl x5), some (.inl x6), some (.inl v2), none, none, none, none, some (.inl v80), none, none, none, none, none, none] dL_acts_300 rfl (by decide) ?_
    refine sh_aload_n (pc := 302) dL_acts_302 rfl rfl ?_
    refine sh_iconst (pc := 303) (v := 4) dL_acts_303 rfl ?_
    refine sh_iload (pc := 304) dL_acts_304 rfl ?_
    refine sh_imul (pc := 306) dL_acts_306 ?_
    refine sh_iload (pc := 307) dL_acts_307 rfl ?_
    refine sh_iadd (pc := 309) dL_acts_309 ?_
    obtain ⟨hi_81, h⟩ := h
    refine l_ald (pc := 310) dL_acts_310 hL hi_81 ?_
    refine k_istore (pc := 311) [some (.inr 1), some (.inr G), some (.inr L), some (.inr N), some (.inl x5), some (.inl x6), some (.inl v2), none, none, none, none, some (.inl v80), some (.inl (J79 L ((4 * v2) + v80))), none, none, none, none, none] dL_acts_311 rfl (by decide) ?_
    refine sh_aload_n (pc := 313) dL_acts_313 rfl rfl ?_
    refine sh_iconst (pc := 314) (v := 4) dL_acts_314 rfl ?_
    refine sh_iload (pc := 315) dL_acts_315 rfl ?_
    refine sh_imul (pc := 317) dL_acts_317 ?_
    refine sh_iload (pc := 318) dL_acts_318 rfl ?_
    refine sh_iadd (pc := 320) dL_acts_320 ?_
    refine sh_iload (pc := 321) dL_acts_321 rfl ?_
    obtain ⟨hb_82, h⟩ := h
    refine sh_if_ne (pc := 323) (tgt := 337) dL_acts_323 (by decide) hb_82  (fun q_83 => ?_) (fun q_83 => ?_)
    · replace h := h.1 q_83
      refine sh_iload (pc := 337) dL_acts_337 rfl ?_
      refine sh_iconst (pc := 339) (v := 1) dL_acts_339 rfl ?_
      obtain ⟨ho_84, h⟩ := h
      refine l_icmp_ne (pc := 340) (tgt := 356) dL_acts_340 (by decide) ho_84 (fun q_85 => ?_) (fun q_85 => ?_)
      · replace h := h.1 q_85
        refine sh_iload (pc := 356) dL_acts_356 rfl ?_
        refine sh_iconst (pc := 358) (v := 4) dL_acts_358 rfl ?_
        refine l_ishr (pc := 359) dL_acts_359 (fun u86 hu_87 => ?_)
        replace h := h u86 hu_87
        refine sh_bipush (pc := 360) (v := 10) dL_acts_360 (by decide) ?_
        refine l_S2i (pc := 362) dL_acts_362 lk_L_87 rfl h (fun v89 J88 h => ?_)
        exact sh_O.locals h (sub_some (sub_none (sub_some (sub_none (sub_none (sub_none (sub_some (sub_none (sub_none (sub_none (sub_none (sub_some (sub_some (sub_none (sub_none (sub_none (sub_none (sub_none sub_nil))))))))))))))))))
      · replace h := h.2 q_85
        refine sh_iconst (pc := 343) (v := 1) dL_acts_343 rfl ?_
        refine sh_iload (pc := 344) dL_acts_344 rfl ?_
        refine sh_iconst (pc := 346) (v := 4) dL_acts_346 rfl ?_
        refine l_ishr (pc := 347) dL_acts_347 (fun u90 hu_91 => ?_)
        replace h := h u90 hu_91
        refine sh_iconst (pc := 348) (v := 4) dL_acts_348 rfl ?_
        refine l_S2i (pc := 349) dL_acts_349 lk_L_87 rfl h (fun v93 J92 h => ?_)
        refine sh_iadd (pc := 352) dL_acts_352 ?_
        refine sh_goto (pc := 353) (tgt := 365) dL_acts_353 (by decide) ?_
        exact sh_O.locals h (sub_some (sub_none (sub_some (sub_none (sub_none (sub_none (sub_some (sub_none (sub_none (sub_none (sub_none (sub_some (sub_some (sub_none (sub_none (sub_none (sub_none (sub_none sub_nil))))))))))))))))))
    · replace h := h.2 q_83
      refine sh_iload (pc := 326) dL_acts_326 rfl ?_
      refine sh_iconst (pc := 328) (v := 4) dL_acts_328 rfl ?_
      refine l_ishr (pc := 329) dL_acts_329 (fun u94 hu_95 => ?_)
      replace h := h u94 hu_95
      refine sh_iconst (pc := 330) (v := 4) dL_acts_330 rfl ?_
      refine l_S2i (pc := 331) dL_acts_331 lk_L_87 rfl h (fun v97 J96 h => ?_)
      refine sh_goto (pc := 334) (tgt := 365) dL_acts_334 (by decide) ?_
      exact sh_O.locals h (sub_some (sub_none (sub_some (sub_none (sub_none (sub_none (sub_some (sub_none (sub_none (sub_none (sub_none (sub_some (sub_some (sub_none (sub_none (sub_none (sub_none (sub_none sub_nil))))))))))))))))))
  replace h := h.2
  by_cases q_120 : x5 = 6
  · refine sh_tableIn (pc := 10) (k := 6) (tgt := 292) dL_acts_10 q_120 (bd_lit (by decide)) (by decide) (by decide) rfl (by decide) ?_
    replace h := h.1 q_120
    refine sh_iload (pc := 292) dL_acts_292 rfl ?_
    refine sh_iconst (pc := 294) (v := 2) dL_acts_294 rfl ?_
    refine l_ishr (pc := 295) dL_acts_295 (fun u99 hu_100 => ?_)
    replace h := h u99 hu_100
    refine sh_iconst (pc := 296) (v := 3) dL_acts_296 rfl ?_
    refine l_S2i (pc := 297) dL_acts_297 lk_L_87 rfl h (fun v102 J101 h => ?_)
    refine k_istore (pc := 300) [some (.inr 1), some (.inr G), some (.inr L), some (.inr N), some (.inl x5), some (.inl x6), some (.inl v2), none, none, none, none, some (.inl v102), none, none, none, none, none, none] dL_acts_300 rfl (by decide) ?_
    refine sh_aload_n (pc := 302) dL_acts_302 rfl rfl ?_
    refine sh_iconst (pc := 303) (v := 4) dL_acts_303 rfl ?_
    refine sh_iload (pc := 304) dL_acts_304 rfl ?_
    refine sh_imul (pc := 306) dL_acts_306 ?_
    refine sh_iload (pc := 307) dL_acts_307 rfl ?_
    refine sh_iadd (pc := 309) dL_acts_309 ?_
    obtain ⟨hi_103, h⟩ := h
    refine l_ald (pc := 310) dL_acts_310 hL hi_103 ?_
    refine k_istore (pc := 311) [some (.inr 1), some (.inr G), some (.inr L), some (.inr N), some (.inl x5), some (.inl x6), some (.inl v2), none, none, none, none, some (.inl v102), some (.inl (J101 L ((4 * v2) + v102))), none, none, none, none, none] dL_acts_311 rfl (by decide) ?_
    refine sh_aload_n (pc := 313) dL_acts_313 rfl rfl ?_
    refine sh_iconst (pc := 314) (v := 4) dL_acts_314 rfl ?_
    refine sh_iload (pc := 315) dL_acts_315 rfl ?_
    refine sh_imul (pc := 317) dL_acts_317 ?_
    refine sh_iload (pc := 318) dL_acts_318 rfl ?_
    refine sh_iadd (pc := 320) dL_acts_320 ?_
    refine sh_iload (pc := 321) dL_acts_321 rfl ?_
    obtain ⟨hb_104, h⟩ := h
    refine sh_if_ne (pc := 323) (tgt := 337) dL_acts_323 (by decide) hb_104  (fun q_105 => ?_) (fun q_105 => ?_)
    · replace h := h.1 q_105
      refine sh_iload (pc := 337) dL_acts_337 rfl ?_
      refine sh_iconst (pc := 339) (v := 1) dL_acts_339 rfl ?_
      obtain ⟨ho_106, h⟩ := h
      refine l_icmp_ne (pc := 340) (tgt := 356) dL_acts_340 (by decide) ho_106 (fun q_107 => ?_) (fun q_107 => ?_)
      · replace h := h.1 q_107
        refine sh_iload (pc := 356) dL_acts_356 rfl ?_
        refine sh_iconst (pc := 358) (v := 4) dL_acts_358 rfl ?_
        refine l_ishr (pc := 359) dL_acts_359 (fun u108 hu_109 => ?_)
        replace h := h u108 hu_109
        refine sh_bipush (pc := 360) (v := 10) dL_acts_360 (by decide) ?_
        refine l_S2i (pc := 362) dL_acts_362 lk_L_87 rfl h (fun v111 J110 h => ?_)
        exact sh_O.locals h (sub_some (sub_none (sub_some (sub_none (sub_none (sub_none (sub_some (sub_none (sub_none (sub_none (sub_none (sub_some (sub_some (sub_none (sub_none (sub_none (sub_none (sub_none sub_nil))))))))))))))))))
      · replace h := h.2 q_107
        refine sh_iconst (pc := 343) (v := 1) dL_acts_343 rfl ?_
        refine sh_iload (pc := 344) dL_acts_344 rfl ?_
        refine sh_iconst (pc := 346) (v := 4) dL_acts_346 rfl ?_
        refine l_ishr (pc := 347) dL_acts_347 (fun u112 hu_113 => ?_)
        replace h := h u112 hu_113
        refine sh_iconst (pc := 348) (v := 4) dL_acts_348 rfl ?_
        refine l_S2i (pc := 349) dL_acts_349 lk_L_87 rfl h (fun v115 J114 h => ?_)
        refine sh_iadd (pc := 352) dL_acts_352 ?_
        refine sh_goto (pc := 353) (tgt := 365) dL_acts_353 (by decide) ?_
        exact sh_O.locals h (sub_some (sub_none (sub_some (sub_none (sub_none (sub_none (sub_some (sub_none (sub_none (sub_none (sub_none (sub_some (sub_some (sub_none (sub_none (sub_none (sub_none (sub_none sub_nil))))))))))))))))))
    · replace h := h.2 q_105
      refine sh_iload (pc := 326) dL_acts_326 rfl ?_
      refine sh_iconst (pc := 328) (v := 4) dL_acts_328 rfl ?_
      refine l_ishr (pc := 329) dL_acts_329 (fun u116 hu_117 => ?_)
      replace h := h u116 hu_117
      refine sh_iconst (pc := 330) (v := 4) dL_acts_330 rfl ?_
      refine l_S2i (pc := 331) dL_acts_331 lk_L_87 rfl h (fun v119 J118 h => ?_)
      refine sh_goto (pc := 334) (tgt := 365) dL_acts_334 (by decide) ?_
      exact sh_O.locals h (sub_some (sub_none (sub_some (sub_none (sub_none (sub_none (sub_some (sub_none (sub_none (sub_none (sub_none (sub_some (sub_some (sub_none (sub_none (sub_none (sub_none (sub_none sub_nil))))))))))))))))))
  replace h := h.2
  by_cases q_136 : x5 = 7
  · refine sh_tableIn (pc := 10) (k := 7) (tgt := 413) dL_acts_10 q_136 (bd_lit (by decide)) (by decide) (by decide) rfl (by decide) ?_
    replace h := h.1 q_136
    refine sh_bipush (pc := 413) (v := 6) dL_acts_413 (by decide) ?_
    refine sh_iload (pc := 415) dL_acts_415 rfl ?_
    refine sh_iconst (pc := 417) (v := 2) dL_acts_417 rfl ?_
    refine l_S2i (pc := 418) dL_acts_418 lk_L_87 rfl h (fun v122 J121 h => ?_)
    refine sh_iadd (pc := 421) dL_acts_421 ?_
    refine k_istore (pc := 422) [some (.inr 1), some (.inr G), some (.inr L), some (.inr N), some (.inl x5), some (.inl x6), some (.inl v2), none, none, none, none, none, none, some (.inl (6 + v122)), none, none, none, none] dL_acts_422 rfl (by decide) ?_
    refine sh_aload_n (pc := 424) dL_acts_424 rfl rfl ?_
    refine sh_iload (pc := 425) dL_acts_425 rfl ?_
    obtain ⟨hi_123, h⟩ := h
    refine l_ald (pc := 427) dL_acts_427 hN hi_123 ?_
    refine k_istore (pc := 428) [some (.inr 1), some (.inr G), some (.inr L), some (.inr N), some (.inl x5), some (.inl x6), some (.inl v2), none, none, none, none, none, none, some (.inl (6 + v122)), some (.inl (J121 N (6 + v122))), none, none, none] dL_acts_428 rfl (by decide) ?_
    refine sh_aload_n (pc := 430) dL_acts_430 rfl rfl ?_
    refine sh_iload (pc := 431) dL_acts_431 rfl ?_
    refine sh_iload (pc := 433) dL_acts_433 rfl ?_
    refine sh_iconst (pc := 435) (v := 1) dL_acts_435 rfl ?_
    refine l_ishr (pc := 436) dL_acts_436 (fun u124 hu_125 => ?_)
    replace h := h u124 hu_125
    refine sh_bipush (pc := 437) (v := 10) dL_acts_437 (by decide) ?_
    refine l_S2i (pc := 439) dL_acts_439 lk_L_87 rfl h (fun v127 J126 h => ?_)
    refine l_ast (pc := 442) dL_acts_442 hN hi_123 ?_
    refine sh_aload_n (pc := 443) dL_acts_443 rfl rfl ?_
    refine sh_iload (pc := 444) dL_acts_444 rfl ?_
    refine sh_bipush (pc := 446) (v := 6) dL_acts_446 (by decide) ?_
    refine sh_isub (pc := 448) dL_acts_448 ?_
    refine sh_aload_n (pc := 449) dL_acts_449 rfl rfl ?_
    refine sh_iload (pc := 450) dL_acts_450 rfl ?_
    refine l_ald (pc := 452) dL_acts_452 hN hi_123 ?_
    refine l_F2 (pc := 453) hx dL_acts_453 lk_L_107 rfl h (fun v129 J128 h => ?_)
    refine sh_iload (pc := 456) dL_acts_456 rfl ?_
    refine sh_aload_n (pc := 458) dL_acts_458 rfl rfl ?_
    refine sh_iload (pc := 459) dL_acts_459 rfl ?_
    refine l_ald (pc := 461) dL_acts_461 hN hi_123 ?_
    obtain ⟨ho_130, h⟩ := h
    refine l_icmp_ne (pc := 462) (tgt := 470) dL_acts_462 (by decide) ho_130 (fun q_131 => ?_) (fun q_131 => ?_)
    · replace h := h.1 q_131
      refine sh_iload (pc := 470) dL_acts_470 rfl ?_
      obtain ⟨ho_132, h⟩ := h
      refine l_icmp_ne (pc := 472) (tgt := 479) dL_acts_472 (by decide) ho_132 (fun q_133 => ?_) (fun q_133 => ?_)
      · replace h := h.1 q_133
        refine sh_iconst (pc := 479) (v := 0) dL_acts_479 rfl ?_
        exact l_zret ext.rf dL_acts_480 rfl (Or.inl rfl) h
      · replace h := h.2 q_133
        refine sh_iconst (pc := 475) (v := 1) dL_acts_475 rfl ?_
        refine sh_goto (pc := 476) (tgt := 480) dL_acts_476 (by decide) ?_
        exact l_zret ext.rf dL_acts_480 rfl (Or.inr rfl) h
    · replace h := h.2 q_131
      refine sh_bipush (pc := 465) (v := (-5)) dL_acts_465 (by decide) ?_
      refine sh_goto (pc := 467) (tgt := 472) dL_acts_467 (by decide) ?_
      obtain ⟨ho_134, h⟩ := h
      refine l_icmp_ne (pc := 472) (tgt := 479) dL_acts_472 (by decide) ho_134 (fun q_135 => ?_) (fun q_135 => ?_)
      · replace h := h.1 q_135
        refine sh_iconst (pc := 479) (v := 0) dL_acts_479 rfl ?_
        exact l_zret ext.rf dL_acts_480 rfl (Or.inl rfl) h
      · replace h := h.2 q_135
        refine sh_iconst (pc := 475) (v := 1) dL_acts_475 rfl ?_
        refine sh_goto (pc := 476) (tgt := 480) dL_acts_476 (by decide) ?_
        exact l_zret ext.rf dL_acts_480 rfl (Or.inr rfl) h
  replace h := h.2
  have q_147 : x5 < 0 ∨ 7 < x5 := by omega
  refine sh_tableOut (pc := 10) (tgt := 481) dL_acts_10 hb_3 q_147 (by decide) ?_
  replace h := h q_147
  refine sh_iconst (pc := 481) (v := 1) dL_acts_481 rfl ?_
  refine sh_iload (pc := 482) dL_acts_482 rfl ?_
  refine sh_iload (pc := 484) dL_acts_484 rfl ?_
  refine sh_bipush (pc := 486) (v := 7) dL_acts_486 (by decide) ?_
  refine l_ishr (pc := 488) dL_acts_488 (fun u137 hu_138 => ?_)
  replace h := h u137 hu_138
  refine sh_iconst (pc := 489) (v := 4) dL_acts_489 rfl ?_
  refine l_S2i (pc := 490) dL_acts_490 lk_L_87 rfl h (fun v140 J139 h => ?_)
  obtain ⟨hb_141, h⟩ := h
  refine sh_if_ne (pc := 493) (tgt := 501) dL_acts_493 (by decide) hb_141  (fun q_142 => ?_) (fun q_142 => ?_)
  · replace h := h.1 q_142
    refine sh_iconst (pc := 501) (v := 4) dL_acts_501 rfl ?_
    refine l_S2i (pc := 502) dL_acts_502 lk_L_87 rfl h (fun v144 J143 h => ?_)
    refine sh_iadd (pc := 505) dL_acts_505 ?_
    refine k_istore (pc := 506) [some (.inr 1), some (.inr G), some (.inr L), some (.inr N), some (.inl x5), some (.inl x6), some (.inl v2), none, none, none, none, none, none, none, none, some (.inl (1 + v144)), none, none] dL_acts_506 rfl (by decide) ?_
    refine sh_aload_n (pc := 508) dL_acts_508 rfl rfl ?_
    refine sh_iconst (pc := 509) (v := 2) dL_acts_509 rfl ?_
    refine l_ald (pc := 510) dL_acts_510 hN (by decide) ?_
    refine k_istore (pc := 511) [some (.inr 1), some (.inr G), some (.inr L), some (.inr N), some (.inl x5), some (.inl x6), some (.inl v2), none, none, none, none, none, none, none, none, some (.inl (1 + v144)), some (.inl (J143 N 2)), none] dL_acts_511 rfl (by decide) ?_
    refine sh_iconst (pc := 513) (v := 0) dL_acts_513 rfl ?_
    refine k_istore (pc := 514) [some (.inr 1), some (.inr G), some (.inr L), some (.inr N), some (.inl x5), some (.inl x6), some (.inl v2), none, none, none, none, none, none, none, none, some (.inl (1 + v144)), some (.inl (J143 N 2)), some (.inl 0)] dL_acts_514 rfl (by decide) ?_
    exact sh_O.locals h (sub_some (sub_some (sub_some (sub_some (sub_none (sub_none (sub_none (sub_none (sub_none (sub_none (sub_none (sub_none (sub_none (sub_none (sub_none (sub_some (sub_some (sub_some sub_nil))))))))))))))))))
  · replace h := h.2 q_142
    refine sh_bipush (pc := 496) (v := 40) dL_acts_496 (by decide) ?_
    refine sh_goto (pc := 498) (tgt := 502) dL_acts_498 (by decide) ?_
    refine l_S2i (pc := 502) dL_acts_502 lk_L_87 rfl h (fun v146 J145 h => ?_)
    refine sh_iadd (pc := 505) dL_acts_505 ?_
    refine k_istore (pc := 506) [some (.inr 1), some (.inr G), some (.inr L), some (.inr N), some (.inl x5), some (.inl x6), some (.inl v2), none, none, none, none, none, none, none, none, some (.inl (1 + v146)), none, none] dL_acts_506 rfl (by decide) ?_
    refine sh_aload_n (pc := 508) dL_acts_508 rfl rfl ?_
    refine sh_iconst (pc := 509) (v := 2) dL_acts_509 rfl ?_
    refine l_ald (pc := 510) dL_acts_510 hN (by decide) ?_
    refine k_istore (pc := 511) [some (.inr 1), some (.inr G), some (.inr L), some (.inr N), some (.inl x5), some (.inl x6), some (.inl v2), none, none, none, none, none, none, none, none, some (.inl (1 + v146)), some (.inl (J145 N 2)), none] dL_acts_511 rfl (by decide) ?_
    refine sh_iconst (pc := 513) (v := 0) dL_acts_513 rfl ?_
    refine k_istore (pc := 514) [some (.inr 1), some (.inr G), some (.inr L), some (.inr N), some (.inl x5), some (.inl x6), some (.inl v2), none, none, none, none, none, none, none, none, some (.inl (1 + v146)), some (.inl (J145 N 2)), some (.inl 0)] dL_acts_514 rfl (by decide) ?_
    exact sh_O.locals h (sub_some (sub_some (sub_some (sub_some (sub_none (sub_none (sub_none (sub_none (sub_none (sub_none (sub_none (sub_none (sub_none (sub_none (sub_none (sub_some (sub_some (sub_some sub_nil))))))))))))))))))
set_option maxRecDepth 100000 in
set_option maxHeartbeats 4000000 in
theorem lL_acts_156 {c : sh_Cx} (hx : cx c) {G : Nat} (hG : dy c G 42) {L : Nat} (hL : dy c L 12) {N : Nat} (hN : dy c N 9) {y7 : Int} {y8 : Int} {y9 : Int} {z1 : Int} {z2 : Int} {I : sh_Mem} {Q : Int → sh_Mem → Prop} (h : ((0 ≤ z1 ∧ z1 < (42 : Int)) ∧ (cc mX6_head [.inr 1, .inl y7, .inl y8] (sh_u I G z1 z2) (qi fun v3 J2 => ((0 ≤ ((7 * y7) + 2) ∧ ((7 * y7) + 2) < (42 : Int)) ∧ ((y9 = ((mxM J2 (sh_u I G z1 z2)) G ((7 * y7) + 2)) ∨ (sh_Bd y9 ∧ sh_Bd ((mxM J2 (sh_u I G z1 z2)) G ((7 * y7) + 2)))) ∧ ((¬ y9 = ((mxM J2 (sh_u I G z1 z2)) G ((7 * y7) + 2)) → ((v3 = y9 ∨ (sh_Bd v3 ∧ sh_Bd y9)) ∧ ((¬ v3 = y9 → Q 0 (mxM J2 (sh_u I G z1 z2))) ∧ (v3 = y9 → Q 1 (mxM J2 (sh_u I G z1 z2)))))) ∧ (y9 = ((mxM J2 (sh_u I G z1 z2)) G ((7 * y7) + 2)) → ((v3 = (-5) ∨ (sh_Bd v3 ∧ sh_Bd (-5))) ∧ ((¬ v3 = (-5) → Q 0 (mxM J2 (sh_u I G z1 z2))) ∧ (v3 = (-5) → Q 1 (mxM J2 (sh_u I G z1 z2))))))))))))) : kl c (0, 0) mL_acts 156 [some (.inr 1), some (.inr G), none, none, none, none, none, some (.inl y7), some (.inl y8), some (.inl y9), none, none, none, none, none, none, none, none] [.inl z2, .inl z1, .inr G] I (qli c Q) := by
  obtain ⟨hi_1, h⟩ := h
  refine l_ast (pc := 156) dL_acts_156 hG hi_1 ?_
  refine sh_aload_n (pc := 157) dL_acts_157 rfl rfl ?_
  refine sh_iload (pc := 158) dL_acts_158 rfl ?_
  refine sh_iload (pc := 160) dL_acts_160 rfl ?_
  refine l_F2 (pc := 162) hx dL_acts_162 lk_L_97 rfl h (fun v3 J2 h => ?_)
  refine sh_iload (pc := 165) dL_acts_165 rfl ?_
  refine sh_aload_n (pc := 167) dL_acts_167 rfl rfl ?_
  refine sh_bipush (pc := 168) (v := 7) dL_acts_168 (by decide) ?_
  refine sh_iload (pc := 170) dL_acts_170 rfl ?_
  refine sh_imul (pc := 172) dL_acts_172 ?_
  refine sh_iconst (pc := 173) (v := 2) dL_acts_173 rfl ?_
  refine sh_iadd (pc := 174) dL_acts_174 ?_
  obtain ⟨hi_4, h⟩ := h
  refine l_ald (pc := 175) dL_acts_175 hG hi_4 ?_
  obtain ⟨ho_5, h⟩ := h
  refine l_icmp_ne (pc := 176) (tgt := 184) dL_acts_176 (by decide) ho_5 (fun q_6 => ?_) (fun q_6 => ?_)
  · replace h := h.1 q_6
    refine sh_iload (pc := 184) dL_acts_184 rfl ?_
    obtain ⟨ho_7, h⟩ := h
    refine l_icmp_ne (pc := 186) (tgt := 193) dL_acts_186 (by decide) ho_7 (fun q_8 => ?_) (fun q_8 => ?_)
    · replace h := h.1 q_8
      refine sh_iconst (pc := 193) (v := 0) dL_acts_193 rfl ?_
      exact l_zret ext.rf dL_acts_194 rfl (Or.inl rfl) h
    · replace h := h.2 q_8
      refine sh_iconst (pc := 189) (v := 1) dL_acts_189 rfl ?_
      refine sh_goto (pc := 190) (tgt := 194) dL_acts_190 (by decide) ?_
      exact l_zret ext.rf dL_acts_194 rfl (Or.inr rfl) h
  · replace h := h.2 q_6
    refine sh_bipush (pc := 179) (v := (-5)) dL_acts_179 (by decide) ?_
    refine sh_goto (pc := 181) (tgt := 186) dL_acts_181 (by decide) ?_
    obtain ⟨ho_9, h⟩ := h
    refine l_icmp_ne (pc := 186) (tgt := 193) dL_acts_186 (by decide) ho_9 (fun q_10 => ?_) (fun q_10 => ?_)
    · replace h := h.1 q_10
      refine sh_iconst (pc := 193) (v := 0) dL_acts_193 rfl ?_
      exact l_zret ext.rf dL_acts_194 rfl (Or.inl rfl) h
    · replace h := h.2 q_10
      refine sh_iconst (pc := 189) (v := 1) dL_acts_189 rfl ?_
      refine sh_goto (pc := 190) (tgt := 194) dL_acts_190 (by decide) ?_
      exact l_zret ext.rf dL_acts_194 rfl (Or.inr rfl) h
set_option maxRecDepth 100000 in
set_option maxHeartbeats 4000000 in
theorem lL_acts_249 {c : sh_Cx} (hx : cx c) {G : Nat} (hG : dy c G 42) {L : Nat} (hL : dy c L 12) {N : Nat} (hN : dy c N 9) {y6 : Int} {y10 : Int} {z1 : Int} {z2 : Int} {I : sh_Mem} {Q : Int → sh_Mem → Prop} (h : (cc mX6_light [.inr 1, .inl z1, .inl z2] I (qi fun v2 J1 => ((0 ≤ ((4 * y6) + 3) ∧ ((4 * y6) + 3) < (12 : Int)) ∧ ((y10 = ((mxM J1 I) L ((4 * y6) + 3)) ∨ (sh_Bd y10 ∧ sh_Bd ((mxM J1 I) L ((4 * y6) + 3)))) ∧ ((¬ y10 = ((mxM J1 I) L ((4 * y6) + 3)) → ((v2 = ((((mxM J1 I) L 3) + ((mxM J1 I) L 7)) + ((mxM J1 I) L 11)) ∨ (sh_Bd v2 ∧ sh_Bd ((((mxM J1 I) L 3) + ((mxM J1 I) L 7)) + ((mxM J1 I) L 11)))) ∧ ((¬ v2 = ((((mxM J1 I) L 3) + ((mxM J1 I) L 7)) + ((mxM J1 I) L 11)) → Q 0 (mxM J1 I)) ∧ (v2 = ((((mxM J1 I) L 3) + ((mxM J1 I) L 7)) + ((mxM J1 I) L 11)) → Q 1 (mxM J1 I))))) ∧ (y10 = ((mxM J1 I) L ((4 * y6) + 3)) → ((v2 = (-5) ∨ (sh_Bd v2 ∧ sh_Bd (-5))) ∧ ((¬ v2 = (-5) → Q 0 (mxM J1 I)) ∧ (v2 = (-5) → Q 1 (mxM J1 I))))))))))) : kl c (0, 0) mL_acts 249 [none, none, some (.inr L), none, none, none, some (.inl y6), none, none, none, some (.inl y10), none, none, none, none, none, none, none] [.inl z2, .inl z1, .inr 1] I (qli c Q) := by
  refine l_F2 (pc := 249) hx dL_acts_249 lk_L_100 rfl h (fun v2 J1 h => ?_)
  refine sh_iload (pc := 252) dL_acts_252 rfl ?_
  refine sh_aload_n (pc := 254) dL_acts_254 rfl rfl ?_
  refine sh_iconst (pc := 255) (v := 4) dL_acts_255 rfl ?_
  refine sh_iload (pc := 256) dL_acts_256 rfl ?_
  refine sh_imul (pc := 258) dL_acts_258 ?_
  refine sh_iconst (pc := 259) (v := 3) dL_acts_259 rfl ?_
  refine sh_iadd (pc := 260) dL_acts_260 ?_
  obtain ⟨hi_3, h⟩ := h
  refine l_ald (pc := 261) dL_acts_261 hL hi_3 ?_
  obtain ⟨ho_4, h⟩ := h
  refine l_icmp_ne (pc := 262) (tgt := 270) dL_acts_262 (by decide) ho_4 (fun q_5 => ?_) (fun q_5 => ?_)
  · replace h := h.1 q_5
    refine sh_aload_n (pc := 270) dL_acts_270 rfl rfl ?_
    refine sh_iconst (pc := 271) (v := 3) dL_acts_271 rfl ?_
    refine l_ald (pc := 272) dL_acts_272 hL (by decide) ?_
    refine sh_aload_n (pc := 273) dL_acts_273 rfl rfl ?_
    refine sh_bipush (pc := 274) (v := 7) dL_acts_274 (by decide) ?_
    refine l_ald (pc := 276) dL_acts_276 hL (by decide) ?_
    refine sh_iadd (pc := 277) dL_acts_277 ?_
    refine sh_aload_n (pc := 278) dL_acts_278 rfl rfl ?_
    refine sh_bipush (pc := 279) (v := 11) dL_acts_279 (by decide) ?_
    refine l_ald (pc := 281) dL_acts_281 hL (by decide) ?_
    refine sh_iadd (pc := 282) dL_acts_282 ?_
    obtain ⟨ho_6, h⟩ := h
    refine l_icmp_ne (pc := 283) (tgt := 290) dL_acts_283 (by decide) ho_6 (fun q_7 => ?_) (fun q_7 => ?_)
    · replace h := h.1 q_7
      refine sh_iconst (pc := 290) (v := 0) dL_acts_290 rfl ?_
      exact l_zret ext.rf dL_acts_291 rfl (Or.inl rfl) h
    · replace h := h.2 q_7
      refine sh_iconst (pc := 286) (v := 1) dL_acts_286 rfl ?_
      refine sh_goto (pc := 287) (tgt := 291) dL_acts_287 (by decide) ?_
      exact l_zret ext.rf dL_acts_291 rfl (Or.inr rfl) h
  · replace h := h.2 q_5
    refine sh_bipush (pc := 265) (v := (-5)) dL_acts_265 (by decide) ?_
    refine sh_goto (pc := 267) (tgt := 283) dL_acts_267 (by decide) ?_
    obtain ⟨ho_8, h⟩ := h
    refine l_icmp_ne (pc := 283) (tgt := 290) dL_acts_283 (by decide) ho_8 (fun q_9 => ?_) (fun q_9 => ?_)
    · replace h := h.1 q_9
      refine sh_iconst (pc := 290) (v := 0) dL_acts_290 rfl ?_
      exact l_zret ext.rf dL_acts_291 rfl (Or.inl rfl) h
    · replace h := h.2 q_9
      refine sh_iconst (pc := 286) (v := 1) dL_acts_286 rfl ?_
      refine sh_goto (pc := 287) (tgt := 291) dL_acts_287 (by decide) ?_
      exact l_zret ext.rf dL_acts_291 rfl (Or.inr rfl) h
set_option maxRecDepth 100000 in
set_option maxHeartbeats 4000000 in
theorem lL_acts_365 {c : sh_Cx} (hx : cx c) {G : Nat} (hG : dy c G 42) {L : Nat} (hL : dy c L 12) {N : Nat} (hN : dy c N 9) {y6 : Int} {y11 : Int} {y12 : Int} {z1 : Int} {z2 : Int} {I : sh_Mem} {Q : Int → sh_Mem → Prop} (h : ((0 ≤ z1 ∧ z1 < (12 : Int)) ∧ ((0 ≤ ((4 * y6) + y11) ∧ ((4 * y6) + y11) < (12 : Int)) ∧ (cc mX6_setLamp [.inr 1, .inl y6, .inl y11, .inl ((sh_u I L z1 z2) L ((4 * y6) + y11))] (sh_u I L z1 z2) (qi fun v4 J3 => ((y12 = ((mxM J3 (sh_u I L z1 z2)) L ((4 * y6) + y11)) ∨ (sh_Bd y12 ∧ sh_Bd ((mxM J3 (sh_u I L z1 z2)) L ((4 * y6) + y11)))) ∧ ((¬ y12 = ((mxM J3 (sh_u I L z1 z2)) L ((4 * y6) + y11)) → ((v4 = y12 ∨ (sh_Bd v4 ∧ sh_Bd y12)) ∧ ((¬ v4 = y12 → Q 0 (mxM J3 (sh_u I L z1 z2))) ∧ (v4 = y12 → Q 1 (mxM J3 (sh_u I L z1 z2)))))) ∧ (y12 = ((mxM J3 (sh_u I L z1 z2)) L ((4 * y6) + y11)) → ((v4 = (-5) ∨ (sh_Bd v4 ∧ sh_Bd (-5))) ∧ ((¬ v4 = (-5) → Q 0 (mxM J3 (sh_u I L z1 z2))) ∧ (v4 = (-5) → Q 1 (mxM J3 (sh_u I L z1 z2))))))))))))) : kl c (0, 0) mL_acts 365 [some (.inr 1), none, some (.inr L), none, none, none, some (.inl y6), none, none, none, none, some (.inl y11), some (.inl y12), none, none, none, none, none] [.inl z2, .inl z1, .inr L] I (qli c Q) := by
  obtain ⟨hi_1, h⟩ := h
  refine l_ast (pc := 365) dL_acts_365 hL hi_1 ?_
  refine sh_aload_n (pc := 366) dL_acts_366 rfl rfl ?_
  refine sh_iload (pc := 367) dL_acts_367 rfl ?_
  refine sh_iload (pc := 369) dL_acts_369 rfl ?_
  refine sh_aload_n (pc := 371) dL_acts_371 rfl rfl ?_
  refine sh_iconst (pc := 372) (v := 4) dL_acts_372 rfl ?_
  refine sh_iload (pc := 373) dL_acts_373 rfl ?_
  refine sh_imul (pc := 375) dL_acts_375 ?_
  refine sh_iload (pc := 376) dL_acts_376 rfl ?_
  refine sh_iadd (pc := 378) dL_acts_378 ?_
  obtain ⟨hi_2, h⟩ := h
  refine l_ald (pc := 379) dL_acts_379 hL hi_2 ?_
  refine l_F3 (pc := 380) hx dL_acts_380 lk_L_104 rfl h (fun v4 J3 h => ?_)
  refine sh_iload (pc := 383) dL_acts_383 rfl ?_
  refine sh_aload_n (pc := 385) dL_acts_385 rfl rfl ?_
  refine sh_iconst (pc := 386) (v := 4) dL_acts_386 rfl ?_
  refine sh_iload (pc := 387) dL_acts_387 rfl ?_
  refine sh_imul (pc := 389) dL_acts_389 ?_
  refine sh_iload (pc := 390) dL_acts_390 rfl ?_
  refine sh_iadd (pc := 392) dL_acts_392 ?_
  refine l_ald (pc := 393) dL_acts_393 hL hi_2 ?_
  obtain ⟨ho_5, h⟩ := h
  refine l_icmp_ne (pc := 394) (tgt := 402) dL_acts_394 (by decide) ho_5 (fun q_6 => ?_) (fun q_6 => ?_)
  · replace h := h.1 q_6
    refine sh_iload (pc := 402) dL_acts_402 rfl ?_
    obtain ⟨ho_7, h⟩ := h
    refine l_icmp_ne (pc := 404) (tgt := 411) dL_acts_404 (by decide) ho_7 (fun q_8 => ?_) (fun q_8 => ?_)
    · replace h := h.1 q_8
      refine sh_iconst (pc := 411) (v := 0) dL_acts_411 rfl ?_
      exact l_zret ext.rf dL_acts_412 rfl (Or.inl rfl) h
    · replace h := h.2 q_8
      refine sh_iconst (pc := 407) (v := 1) dL_acts_407 rfl ?_
      refine sh_goto (pc := 408) (tgt := 412) dL_acts_408 (by decide) ?_
      exact l_zret ext.rf dL_acts_412 rfl (Or.inr rfl) h
  · replace h := h.2 q_6
    refine sh_bipush (pc := 397) (v := (-5)) dL_acts_397 (by decide) ?_
    refine sh_goto (pc := 399) (tgt := 404) dL_acts_399 (by decide) ?_
    obtain ⟨ho_9, h⟩ := h
    refine l_icmp_ne (pc := 404) (tgt := 411) dL_acts_404 (by decide) ho_9 (fun q_10 => ?_) (fun q_10 => ?_)
    · replace h := h.1 q_10
      refine sh_iconst (pc := 411) (v := 0) dL_acts_411 rfl ?_
      exact l_zret ext.rf dL_acts_412 rfl (Or.inl rfl) h
    · replace h := h.2 q_10
      refine sh_iconst (pc := 407) (v := 1) dL_acts_407 rfl ?_
      refine sh_goto (pc := 408) (tgt := 412) dL_acts_408 (by decide) ?_
      exact l_zret ext.rf dL_acts_412 rfl (Or.inr rfl) h
set_option maxRecDepth 100000 in
set_option maxHeartbeats 4000000 in
theorem lL_acts_516 {c : sh_Cx} (hx : cx c) {G : Nat} (hG : dy c G 42) {L : Nat} (hL : dy c L 12) {N : Nat} (hN : dy c N 9) {y15 : Int} {y16 : Int} {y17 : Int} {I : sh_Mem} {Q : Int → sh_Mem → Prop} (h : (sh_Bd y17 ∧ (sh_Bd y15 ∧ ((y15 ≤ y17 → (cc mX6_pass [.inr 1, .inl y15] I (qi fun v5 J4 => ((v5 = (((mxM J4 I) N 2) - y16) ∨ (sh_Bd v5 ∧ sh_Bd (((mxM J4 I) N 2) - y16))) ∧ ((¬ v5 = (((mxM J4 I) N 2) - y16) → Q 0 (mxM J4 I)) ∧ (v5 = (((mxM J4 I) N 2) - y16) → Q 1 (mxM J4 I))))))) ∧ (y17 < y15 → (cl c mL_turns [.inr G, .inr L, .inr N] I (lv c fun J8 => kl c (0, 0) mL_acts 516 [some (.inr 1), some (.inr G), some (.inr L), some (.inr N), none, none, none, none, none, none, none, none, none, none, none, some (.inl y15), some (.inl y16), some (.inl (y17 + 1))] [] J8 (qli c Q)))))))) : kl c (0, 0) mL_acts 516 [some (.inr 1), some (.inr G), some (.inr L), some (.inr N), none, none, none, none, none, none, none, none, none, none, none, some (.inl y15), some (.inl y16), some (.inl y17)] [] I (qli c Q) := by
  refine sh_iload (pc := 516) dL_acts_516 rfl ?_
  refine sh_iload (pc := 518) dL_acts_518 rfl ?_
  obtain ⟨hb_1, h⟩ := h
  obtain ⟨hb_2, h⟩ := h
  refine sh_icmp_ge (pc := 520) (tgt := 535) dL_acts_520 (by decide) hb_1 hb_2 (fun q_3 => ?_) (fun q_3 => ?_)
  · replace h := h.1 q_3
    refine sh_aload_n (pc := 535) dL_acts_535 rfl rfl ?_
    refine sh_iload (pc := 536) dL_acts_536 rfl ?_
    refine l_F1 (pc := 538) hx dL_acts_538 lk_L_110 rfl h (fun v5 J4 h => ?_)
    refine sh_aload_n (pc := 541) dL_acts_541 rfl rfl ?_
    refine sh_iconst (pc := 542) (v := 2) dL_acts_542 rfl ?_
    refine l_ald (pc := 543) dL_acts_543 hN (by decide) ?_
    refine sh_iload (pc := 544) dL_acts_544 rfl ?_
    refine sh_isub (pc := 546) dL_acts_546 ?_
    obtain ⟨ho_6, h⟩ := h
    refine l_icmp_ne (pc := 547) (tgt := 554) dL_acts_547 (by decide) ho_6 (fun q_7 => ?_) (fun q_7 => ?_)
    · replace h := h.1 q_7
      refine sh_iconst (pc := 554) (v := 0) dL_acts_554 rfl ?_
      exact l_zret ext.rf dL_acts_555 rfl (Or.inl rfl) h
    · replace h := h.2 q_7
      refine sh_iconst (pc := 550) (v := 1) dL_acts_550 rfl ?_
      refine sh_goto (pc := 551) (tgt := 555) dL_acts_551 (by decide) ?_
      exact l_zret ext.rf dL_acts_555 rfl (Or.inr rfl) h
  · replace h := h.2 q_3
    refine sh_aload_n (pc := 523) dL_acts_523 rfl rfl ?_
    refine sh_aload_n (pc := 524) dL_acts_524 rfl rfl ?_
    refine sh_aload_n (pc := 525) dL_acts_525 rfl rfl ?_
    refine l_S3v (pc := 526) dL_acts_526 lk_L_80 rfl h (fun J8 h => ?_)
    refine k_iinc (pc := 529) [some (.inr 1), some (.inr G), some (.inr L), some (.inr N), none, none, none, none, none, none, none, none, none, none, none, some (.inl y15), some (.inl y16), some (.inl (y17 + 1))] dL_acts_529 rfl rfl (by decide) ?_
    refine sh_goto (pc := 532) (tgt := 516) dL_acts_532 (by decide) ?_
    exact sh_O.locals h (sub_some (sub_some (sub_some (sub_some (sub_none (sub_none (sub_none (sub_none (sub_none (sub_none (sub_none (sub_none (sub_none (sub_none (sub_none (sub_some (sub_some (sub_some sub_nil))))))))))))))))))
