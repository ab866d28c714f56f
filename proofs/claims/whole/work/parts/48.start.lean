/-! ===== 48: the reference is made; the start ===== -/
def iI7 (I : sh_Mem) : sh_Mem := (sh_u (sh_u I 119 17 (-5)) 119 18 (-5))
def iP7 (P : sh_Ptr) : sh_Ptr := (sh_uP (sh_uP (sh_uP (sh_uP (sh_uP (sh_uP (sh_uP (sh_uP (sh_uP (sh_uP P 119 0 120) 119 1 121) 119 3 122) 119 5 123) 119 6 124) 119 9 125) 119 14 126) 119 15 127) 119 16 128) 119 19 129)
theorem sh_iast130 {o N : Nat} {y : sh_M} {pc : Nat} {ls : List (Option sh_V)} {st : List sh_V} {cn : Nat × Nat} {I : sh_Mem} {Q : Option Int → sh_St → Prop} {i v : Int} (hd : decode y.2.1 pc = .ok (.iastore, 1)) (hk : sh_is 130 o 8 N) (hN : N < 2147483648) (hi : 0 ≤ i ∧ i < (N : Int)) (h : sh_O y (pc + 1) ls st cn (130, sh_u I o i v, sh_PT) Q) : sh_O y pc ls (.inl v :: .inl i :: .inr o :: st) cn (130, I, sh_PT) Q := sh_iast hd hk hN hi h
theorem i_7lamp {l w x : Int} (j : Nat) {pc : Nat} {I : sh_Mem} {Q : Option Int → sh_St → Prop} {v : Vw} (hd : decode mX7_init.2.1 pc = .ok (.invokevirtual 47, 3)) (ev : vM (I 120) = v) (hl : 0 ≤ l ∧ l < 3) (hj : 2 ≤ j ∧ j ≤ 5) (hw : (j : Int) - 2 = w) (h : ∀ K, vM (K 120) = up v j l x → (∀ o, o ≠ 120 → K o = I o) → sh_O mX7_init (pc + 3) [some (.inr 119), some (.inl l)] [] (10, 721) (130, K, sh_PT) Q) : sh_O mX7_init pc [some (.inr 119), some (.inl l)] [.inl x, .inl w, .inl l, .inr 119] (10, 721) (130, I, sh_PT) Q := by
  refine sh_callV (as := [.inl l, .inl w, .inl x]) is_119 hd lk_X7_47 (Q1 := qv (fun K => vM (K 120) = up v j l x ∧ ∀ o, o ≠ 120 → K o = I o)) (r_putLamp j ev hl hj hw (fun K k1 k2 => ⟨k1, k2⟩)) rfl (show sh_fit mX7_init mX7_putLamp (10, 721) 0 from ⟨by decide, by decide, by decide, by decide, by decide⟩) (Or.inl rfl) ?_
  rintro r σ' ⟨K, rfl, rfl, k1, k2⟩
  exact h K k1 k2
def VM0 : Vw := (up (up (up (up (up (up (up (up (up (up (up (fun _ _ => 0) 0 1 (-5)) 1 0 3) 2 0 0) 3 0 1) 5 0 1) 2 1 1) 3 1 1) 5 1 1) 2 2 2) 3 2 1) 5 2 1)
theorem i_7b {I : sh_Mem} {Q : Option Int → sh_St → Prop} (ez : vM (I 120) = fun _ _ => 0) (h : ∀ K, vM (K 120) = VM0 → (∀ o, o ≠ 120 → K o = I o) → Q none (sh_S K)) : sh_O mX7_init 97 [some (.inr 119), none] [] (10, 721) (130, I, sh_PT) Q := by
  refine sh_aload_n (pc := 97) dX7_init_97 rfl rfl ?_
  refine sh_getR (pc := 98) (q := 120) dX7_init_98 fl_X7_7 rfl is_119 pt_119_0 ?_
  refine sh_iconst (pc := 101) (v := 1) dX7_init_101 rfl ?_
  refine sh_bipush (pc := 102) (v := (-5)) dX7_init_102 (by decide) ?_
  refine sh_iast130 (pc := 104) dX7_init_104 is_120 (by decide) (by decide) ?_
  refine sh_aload_n (pc := 105) dX7_init_105 rfl rfl ?_
  refine sh_getR (pc := 106) (q := 120) dX7_init_106 fl_X7_7 rfl is_119 pt_119_0 ?_
  refine sh_bipush (pc := 109) (v := 6) dX7_init_109 (by decide) ?_
  refine sh_iconst (pc := 111) (v := 3) dX7_init_111 rfl ?_
  refine sh_iast130 (pc := 112) dX7_init_112 is_120 (by decide) (by decide) ?_
  refine sh_iconst (pc := 113) (v := 0) dX7_init_113 rfl ?_
  refine k_istore_n (pc := 114) [some (.inr 119), some (.inl 0)] dX7_init_114 rfl rfl (by decide) ?_
  have e : vM (sh_u (sh_u I 120 1 (-5)) 120 6 3 120) = up (up (fun _ _ => 0) 0 1 (-5)) 1 0 3 := by
    rw [vM_u (k := 6) (j := 1) (i := 0) (by decide) (by decide), wM0_1, ez]
  have fr : ∀ o, o ≠ 120 → sh_u (sh_u I 120 1 (-5)) 120 6 3 o = I o := fun o ho => by rw [sh_u_ne ho, sh_u_ne ho]
  refine sh_iload_n (pc := 115) dX7_init_115 rfl rfl ?_
  refine sh_iconst (pc := 116) (v := 3) dX7_init_116 rfl ?_
  refine sh_icmp_ge (pc := 117) (tgt := 147) dX7_init_117 (by decide) (bd_lit (by decide)) (bd_lit (by decide)) (fun q => absurd q (by decide)) (fun _ => ?_)
  refine sh_aload_n (pc := 120) dX7_init_120 rfl rfl ?_
  refine sh_iload_n (pc := 121) dX7_init_121 rfl rfl ?_
  refine sh_iconst (pc := 122) (v := 0) dX7_init_122 rfl ?_
  refine sh_iload_n (pc := 123) dX7_init_123 rfl rfl ?_
  refine i_7lamp 2 (pc := 124) dX7_init_124 e (by decide) (by decide) (by decide) (fun K e2 f2 => ?_)
  replace fr := fun o ho => (f2 o ho).trans (fr o ho)
  clear e; have e := e2; clear e2 f2
  refine sh_aload_n (pc := 127) dX7_init_127 rfl rfl ?_
  refine sh_iload_n (pc := 128) dX7_init_128 rfl rfl ?_
  refine sh_iconst (pc := 129) (v := 1) dX7_init_129 rfl ?_
  refine sh_iconst (pc := 130) (v := 1) dX7_init_130 rfl ?_
  refine i_7lamp 3 (pc := 131) dX7_init_131 e (by decide) (by decide) (by decide) (fun K e2 f2 => ?_)
  replace fr := fun o ho => (f2 o ho).trans (fr o ho)
  clear e; have e := e2; clear e2 f2
  refine sh_aload_n (pc := 134) dX7_init_134 rfl rfl ?_
  refine sh_iload_n (pc := 135) dX7_init_135 rfl rfl ?_
  refine sh_iconst (pc := 136) (v := 3) dX7_init_136 rfl ?_
  refine sh_iconst (pc := 137) (v := 1) dX7_init_137 rfl ?_
  refine i_7lamp 5 (pc := 138) dX7_init_138 e (by decide) (by decide) (by decide) (fun K e2 f2 => ?_)
  replace fr := fun o ho => (f2 o ho).trans (fr o ho)
  clear e; have e := e2; clear e2 f2
  refine k_iinc (pc := 141) [some (.inr 119), some (.inl 1)] dX7_init_141 rfl rfl (by decide) ?_
  refine sh_goto (pc := 144) (tgt := 115) dX7_init_144 (by decide) ?_
  refine sh_iload_n (pc := 115) dX7_init_115 rfl rfl ?_
  refine sh_iconst (pc := 116) (v := 3) dX7_init_116 rfl ?_
  refine sh_icmp_ge (pc := 117) (tgt := 147) dX7_init_117 (by decide) (bd_lit (by decide)) (bd_lit (by decide)) (fun q => absurd q (by decide)) (fun _ => ?_)
  refine sh_aload_n (pc := 120) dX7_init_120 rfl rfl ?_
  refine sh_iload_n (pc := 121) dX7_init_121 rfl rfl ?_
  refine sh_iconst (pc := 122) (v := 0) dX7_init_122 rfl ?_
  refine sh_iload_n (pc := 123) dX7_init_123 rfl rfl ?_
  refine i_7lamp 2 (pc := 124) dX7_init_124 e (by decide) (by decide) (by decide) (fun K e2 f2 => ?_)
  replace fr := fun o ho => (f2 o ho).trans (fr o ho)
  clear e; have e := e2; clear e2 f2
  refine sh_aload_n (pc := 127) dX7_init_127 rfl rfl ?_
  refine sh_iload_n (pc := 128) dX7_init_128 rfl rfl ?_
  refine sh_iconst (pc := 129) (v := 1) dX7_init_129 rfl ?_
  refine sh_iconst (pc := 130) (v := 1) dX7_init_130 rfl ?_
  refine i_7lamp 3 (pc := 131) dX7_init_131 e (by decide) (by decide) (by decide) (fun K e2 f2 => ?_)
  replace fr := fun o ho => (f2 o ho).trans (fr o ho)
  clear e; have e := e2; clear e2 f2
  refine sh_aload_n (pc := 134) dX7_init_134 rfl rfl ?_
  refine sh_iload_n (pc := 135) dX7_init_135 rfl rfl ?_
  refine sh_iconst (pc := 136) (v := 3) dX7_init_136 rfl ?_
  refine sh_iconst (pc := 137) (v := 1) dX7_init_137 rfl ?_
  refine i_7lamp 5 (pc := 138) dX7_init_138 e (by decide) (by decide) (by decide) (fun K e2 f2 => ?_)
  replace fr := fun o ho => (f2 o ho).trans (fr o ho)
  clear e; have e := e2; clear e2 f2
  refine k_iinc (pc := 141) [some (.inr 119), some (.inl 2)] dX7_init_141 rfl rfl (by decide) ?_
  refine sh_goto (pc := 144) (tgt := 115) dX7_init_144 (by decide) ?_
  refine sh_iload_n (pc := 115) dX7_init_115 rfl rfl ?_
  refine sh_iconst (pc := 116) (v := 3) dX7_init_116 rfl ?_
  refine sh_icmp_ge (pc := 117) (tgt := 147) dX7_init_117 (by decide) (bd_lit (by decide)) (bd_lit (by decide)) (fun q => absurd q (by decide)) (fun _ => ?_)
  refine sh_aload_n (pc := 120) dX7_init_120 rfl rfl ?_
  refine sh_iload_n (pc := 121) dX7_init_121 rfl rfl ?_
  refine sh_iconst (pc := 122) (v := 0) dX7_init_122 rfl ?_
  refine sh_iload_n (pc := 123) dX7_init_123 rfl rfl ?_
  refine i_7lamp 2 (pc := 124) dX7_init_124 e (by decide) (by decide) (by decide) (fun K e2 f2 => ?_)
  replace fr := fun o ho => (f2 o ho).trans (fr o ho)
  clear e; have e := e2; clear e2 f2
  refine sh_aload_n (pc := 127) dX7_init_127 rfl rfl ?_
  refine sh_iload_n (pc := 128) dX7_init_128 rfl rfl ?_
  refine sh_iconst (pc := 129) (v := 1) dX7_init_129 rfl ?_
  refine sh_iconst (pc := 130) (v := 1) dX7_init_130 rfl ?_
  refine i_7lamp 3 (pc := 131) dX7_init_131 e (by decide) (by decide) (by decide) (fun K e2 f2 => ?_)
  replace fr := fun o ho => (f2 o ho).trans (fr o ho)
  clear e; have e := e2; clear e2 f2
  refine sh_aload_n (pc := 134) dX7_init_134 rfl rfl ?_
  refine sh_iload_n (pc := 135) dX7_init_135 rfl rfl ?_
  refine sh_iconst (pc := 136) (v := 3) dX7_init_136 rfl ?_
  refine sh_iconst (pc := 137) (v := 1) dX7_init_137 rfl ?_
  refine i_7lamp 5 (pc := 138) dX7_init_138 e (by decide) (by decide) (by decide) (fun K e2 f2 => ?_)
  replace fr := fun o ho => (f2 o ho).trans (fr o ho)
  clear e; have e := e2; clear e2 f2
  refine k_iinc (pc := 141) [some (.inr 119), some (.inl 3)] dX7_init_141 rfl rfl (by decide) ?_
  refine sh_goto (pc := 144) (tgt := 115) dX7_init_144 (by decide) ?_
  refine sh_iload_n (pc := 115) dX7_init_115 rfl rfl ?_
  refine sh_iconst (pc := 116) (v := 3) dX7_init_116 rfl ?_
  refine sh_icmp_ge (pc := 117) (tgt := 147) dX7_init_117 (by decide) (bd_lit (by decide)) (bd_lit (by decide)) (fun _ => ?_) (fun q => absurd q (by decide))
  refine sh_vret (pc := 147) (st := []) dX7_init_147 rfl ?_
  exact h _ e fr
theorem vM_zero {R : Int → Int} (h : ∀ k, R k = 0) : vM R = fun _ _ => 0 := by
  funext j i
  simp only [vM, h]
  split <;> rfl
theorem vP_zero {I : sh_Mem} {b : Nat} (h : ∀ k, b ≤ k → ∀ f, I k f = 0) : vP I b = fun _ _ => 0 := by
  funext j i
  simp only [vP]
  split
  · rename_i hd
    exact h _ (lo1_in hd).1 _
  · rfl
theorem i_7 {I : sh_Mem} {P : sh_Ptr} {Q : Option Int → sh_St → Prop} (hF : Fr 120 I P) (hP : iP7 P = sh_PT) (h : ∀ K, vM (K 120) = VM0 → (∀ o, o ≠ 120 → K o = iI7 I o) → Q none (sh_S K)) : sh_C mX7_init [.inr 119] (120, I, P) Q := by
  refine sh_call (by decide +kernel) (by decide) ?_
  show sh_O mX7_init 0 [some (.inr 119), none] [] (0, 0) (120, I, P) Q
  have hF0 := hF
  refine sh_aload_n (pc := 0) dX7_init_0 rfl rfl ?_
  refine sh_objInit (pc := 1) dX7_init_1 wm_X7_1 wo_1 wo_2 (by decide) (by decide) (by decide) ?_
  refine sh_aload_n (pc := 4) dX7_init_4 rfl rfl ?_
  refine sh_bipush (pc := 5) (v := 63) dX7_init_5 (by decide) ?_
  refine sh_newa (pc := 7) (N := 63) dX7_init_7 rfl (by decide) wa_int rfl (by decide) is_120.2.1 (fun f => (hF _ (by omega)).1 f) (fun f => (hF _ (by omega)).2 f) (by simp [sh_noref] <;> omega) (by simp <;> omega) (by decide) ?_
  replace hF := hF.s
  refine sh_putRF (pc := 9) dX7_init_9 fl_X7_7 rfl (fun C T h => by rw [cl_X7.1] at h; cases h; rfl) rfl ⟨by omega, is_119.2.1, by omega⟩ (by omega) (fun _ => rfl) (fun _ => rfl) ?_
  replace hF := hF.p (o := 119) (f := 0) (q := 120) (by omega)
  refine sh_aload_n (pc := 12) dX7_init_12 rfl rfl ?_
  refine sh_sipush (pc := 13) (v := 252) dX7_init_13 (by decide) ?_
  refine sh_newa (pc := 16) (N := 252) dX7_init_16 rfl (by decide) wa_int rfl (by decide) is_121.2.1 (fun f => (hF _ (by omega)).1 f) (fun f => (hF _ (by omega)).2 f) (by simp [sh_noref] <;> omega) (by simp <;> omega) (by decide) ?_
  replace hF := hF.s
  refine sh_putRF (pc := 18) dX7_init_18 fl_X7_13 rfl (fun C T h => by rw [cl_X7.1] at h; cases h; rfl) rfl ⟨by omega, is_119.2.1, by omega⟩ (by omega) (fun _ => rfl) (fun _ => rfl) ?_
  replace hF := hF.p (o := 119) (f := 1) (q := 121) (by omega)
  refine sh_aload_n (pc := 21) dX7_init_21 rfl rfl ?_
  refine sh_bipush (pc := 22) (v := 63) dX7_init_22 (by decide) ?_
  refine sh_newa (pc := 24) (N := 63) dX7_init_24 rfl (by decide) wa_int rfl (by decide) is_122.2.1 (fun f => (hF _ (by omega)).1 f) (fun f => (hF _ (by omega)).2 f) (by simp [sh_noref] <;> omega) (by simp <;> omega) (by decide) ?_
  replace hF := hF.s
  refine sh_putRF (pc := 26) dX7_init_26 fl_X7_16 rfl (fun C T h => by rw [cl_X7.1] at h; cases h; rfl) rfl ⟨by omega, is_119.2.1, by omega⟩ (by omega) (fun _ => rfl) (fun _ => rfl) ?_
  replace hF := hF.p (o := 119) (f := 3) (q := 122) (by omega)
  refine sh_aload_n (pc := 29) dX7_init_29 rfl rfl ?_
  refine sh_bipush (pc := 30) (v := 63) dX7_init_30 (by decide) ?_
  refine sh_newa (pc := 32) (N := 63) dX7_init_32 rfl (by decide) wa_int rfl (by decide) is_123.2.1 (fun f => (hF _ (by omega)).1 f) (fun f => (hF _ (by omega)).2 f) (by simp [sh_noref] <;> omega) (by simp <;> omega) (by decide) ?_
  replace hF := hF.s
  refine sh_putRF (pc := 34) dX7_init_34 fl_X7_19 rfl (fun C T h => by rw [cl_X7.1] at h; cases h; rfl) rfl ⟨by omega, is_119.2.1, by omega⟩ (by omega) (fun _ => rfl) (fun _ => rfl) ?_
  replace hF := hF.p (o := 119) (f := 5) (q := 123) (by omega)
  refine sh_aload_n (pc := 37) dX7_init_37 rfl rfl ?_
  refine sh_bipush (pc := 38) (v := 24) dX7_init_38 (by decide) ?_
  refine sh_newa (pc := 40) (N := 24) dX7_init_40 rfl (by decide) wa_int rfl (by decide) is_124.2.1 (fun f => (hF _ (by omega)).1 f) (fun f => (hF _ (by omega)).2 f) (by simp [sh_noref] <;> omega) (by simp <;> omega) (by decide) ?_
  replace hF := hF.s
  refine sh_putRF (pc := 42) dX7_init_42 fl_X7_22 rfl (fun C T h => by rw [cl_X7.1] at h; cases h; rfl) rfl ⟨by omega, is_119.2.1, by omega⟩ (by omega) (fun _ => rfl) (fun _ => rfl) ?_
  replace hF := hF.p (o := 119) (f := 6) (q := 124) (by omega)
  refine sh_aload_n (pc := 45) dX7_init_45 rfl rfl ?_
  refine sh_bipush (pc := 46) (v := 60) dX7_init_46 (by decide) ?_
  refine sh_newa (pc := 48) (N := 60) dX7_init_48 rfl (by decide) wa_int rfl (by decide) is_125.2.1 (fun f => (hF _ (by omega)).1 f) (fun f => (hF _ (by omega)).2 f) (by simp [sh_noref] <;> omega) (by simp <;> omega) (by decide) ?_
  replace hF := hF.s
  refine sh_putRF (pc := 50) dX7_init_50 fl_X7_25 rfl (fun C T h => by rw [cl_X7.1] at h; cases h; rfl) rfl ⟨by omega, is_119.2.1, by omega⟩ (by omega) (fun _ => rfl) (fun _ => rfl) ?_
  replace hF := hF.p (o := 119) (f := 9) (q := 125) (by omega)
  refine sh_aload_n (pc := 53) dX7_init_53 rfl rfl ?_
  refine sh_bipush (pc := 54) (v := 32) dX7_init_54 (by decide) ?_
  refine sh_newa (pc := 56) (N := 32) dX7_init_56 rfl (by decide) wa_int rfl (by decide) is_126.2.1 (fun f => (hF _ (by omega)).1 f) (fun f => (hF _ (by omega)).2 f) (by simp [sh_noref] <;> omega) (by simp <;> omega) (by decide) ?_
  replace hF := hF.s
  refine sh_putRF (pc := 58) dX7_init_58 fl_X7_28 rfl (fun C T h => by rw [cl_X7.1] at h; cases h; rfl) rfl ⟨by omega, is_119.2.1, by omega⟩ (by omega) (fun _ => rfl) (fun _ => rfl) ?_
  replace hF := hF.p (o := 119) (f := 14) (q := 126) (by omega)
  refine sh_aload_n (pc := 61) dX7_init_61 rfl rfl ?_
  refine sh_bipush (pc := 62) (v := 32) dX7_init_62 (by decide) ?_
  refine sh_newa (pc := 64) (N := 32) dX7_init_64 rfl (by decide) wa_int rfl (by decide) is_127.2.1 (fun f => (hF _ (by omega)).1 f) (fun f => (hF _ (by omega)).2 f) (by simp [sh_noref] <;> omega) (by simp <;> omega) (by decide) ?_
  replace hF := hF.s
  refine sh_putRF (pc := 66) dX7_init_66 fl_X7_31 rfl (fun C T h => by rw [cl_X7.1] at h; cases h; rfl) rfl ⟨by omega, is_119.2.1, by omega⟩ (by omega) (fun _ => rfl) (fun _ => rfl) ?_
  replace hF := hF.p (o := 119) (f := 15) (q := 127) (by omega)
  refine sh_aload_n (pc := 69) dX7_init_69 rfl rfl ?_
  refine sh_bipush (pc := 70) (v := 32) dX7_init_70 (by decide) ?_
  refine sh_newa (pc := 72) (N := 32) dX7_init_72 rfl (by decide) wa_int rfl (by decide) is_128.2.1 (fun f => (hF _ (by omega)).1 f) (fun f => (hF _ (by omega)).2 f) (by simp [sh_noref] <;> omega) (by simp <;> omega) (by decide) ?_
  replace hF := hF.s
  refine sh_putRF (pc := 74) dX7_init_74 fl_X7_34 rfl (fun C T h => by rw [cl_X7.1] at h; cases h; rfl) rfl ⟨by omega, is_119.2.1, by omega⟩ (by omega) (fun _ => rfl) (fun _ => rfl) ?_
  replace hF := hF.p (o := 119) (f := 16) (q := 128) (by omega)
  refine sh_aload_n (pc := 77) dX7_init_77 rfl rfl ?_
  refine sh_bipush (pc := 78) (v := -5) dX7_init_78 (by decide) ?_
  refine sh_putI (pc := 80) dX7_init_80 fl_X7_37 rfl ⟨by omega, is_119.2.1, by omega⟩ rfl (by decide) (by decide) ?_
  replace hF := hF.u (o := 119) (f := 17) (v := (-5)) (by omega)
  refine sh_aload_n (pc := 83) dX7_init_83 rfl rfl ?_
  refine sh_bipush (pc := 84) (v := -5) dX7_init_84 (by decide) ?_
  refine sh_putI (pc := 86) dX7_init_86 fl_X7_41 rfl ⟨by omega, is_119.2.1, by omega⟩ rfl (by decide) (by decide) ?_
  replace hF := hF.u (o := 119) (f := 18) (v := (-5)) (by omega)
  refine sh_aload_n (pc := 89) dX7_init_89 rfl rfl ?_
  refine sh_bipush (pc := 90) (v := 100) dX7_init_90 (by decide) ?_
  refine sh_newa (pc := 92) (N := 100) dX7_init_92 rfl (by decide) wa_int rfl (by decide) is_129.2.1 (fun f => (hF _ (by omega)).1 f) (fun f => (hF _ (by omega)).2 f) (by simp [sh_noref] <;> omega) (by simp <;> omega) (by decide) ?_
  replace hF := hF.s
  refine sh_putRF (pc := 94) dX7_init_94 fl_X7_44 rfl (fun C T h => by rw [cl_X7.1] at h; cases h; rfl) rfl ⟨by omega, is_119.2.1, by omega⟩ (by omega) (fun _ => rfl) (fun _ => rfl) ?_
  replace hF := hF.p (o := 119) (f := 19) (q := 129) (by omega)
  have hb := i_7b (I := iI7 I) (Q := Q) (vM_zero (fun k => ?_)) h
  · rw [← hP] at hb
    exact hb
  · unfold iI7
    rw [sh_u_ne (by decide), sh_u_ne (by decide)]
    exact (hF0 120 (by decide)).1 k
/-! the start's state -/
def VP0 : Vw := (up (up (up (up (up (up (up (up (up (up (up (up (up (up (up (up (up (up (up (up (up (fun _ _ => 0) 0 6 (0)) 0 1 (-5)) 0 2 (0)) 0 3 (0)) 0 4 (0)) 2 0 0) 2 1 1) 2 2 2) 3 0 1) 3 1 1) 3 2 1) 4 0 0) 4 1 0) 4 2 0) 5 0 1) 5 1 1) 5 2 1) 1 0 3) 1 1 0) 0 0 0) 0 5 0)
theorem V0_same : VP0 = VM0 := by
  funext j i
  simp only [VP0, VM0, up]
  by_cases h2 : j = 2
  · subst h2
    by_cases a : i = 0
    · subst a; rfl
    · by_cases b : i = 1
      · subst b; rfl
      · by_cases c : i = 2
        · subst c; rfl
        · simp [a, b, c]
  · by_cases h3 : j = 3
    · subst h3
      by_cases a : i = 0
      · subst a; rfl
      · by_cases b : i = 1
        · subst b; rfl
        · by_cases c : i = 2
          · subst c; rfl
          · simp [a, b, c]
    · by_cases h4 : j = 4
      · subst h4
        by_cases a : i = 0
        · subst a; rfl
        · by_cases b : i = 1
          · subst b; rfl
          · by_cases c : i = 2
            · subst c; rfl
            · simp [a, b, c]
      · by_cases h5 : j = 5
        · subst h5
          by_cases a : i = 0
          · subst a; rfl
          · by_cases b : i = 1
            · subst b; rfl
            · by_cases c : i = 2
              · subst c; rfl
              · simp [a, b, c]
        · by_cases h0 : j = 0
          · subst h0
            by_cases a : i = 1
            · subst a; rfl
            · simp [a]
          · by_cases h1 : j = 1
            · subst h1
              by_cases a : i = 0
              · subst a; rfl
              · simp [a]
            · simp [h0, h1, h2, h3, h4, h5]
theorem VM0_wb : WB VM0 := by
  have e6 : VM0 0 6 = 0 := rfl
  refine ⟨⟨by rw [e6]; omega, Or.inl ⟨e6, rfl⟩, fun r r0 r1 => ?_, fun r s r0 r1 => ?_, fun l l0 l1 => ?_, ?_, ?_, ?_, ?_⟩, ?_, ?_⟩
  · rw [e6] at r1
    omega
  · rw [e6] at r1
    omega
  · have h3 : l = 0 ∨ l = 1 ∨ l = 2 := by omega
    rcases h3 with rfl | rfl | rfl <;> decide
  all_goals decide

theorem iI5_v {I : sh_Mem} {b : Nat} : vP (iI5 I b) b = up (up (up (up (up (vP I b) 0 6 0) 0 1 (-5)) 0 2 0) 0 3 0) 0 4 0 := by
  unfold iI5
  rw [wP0_4, wP0_3, wP0_2, wP0_1, wP0_6]
theorem iI4_v {I : sh_Mem} {b : Nat} (h : ∀ k, b ≤ k → ∀ f, I k f = 0) : vP (iI4 I b) b = VP0 := by
  unfold iI4
  rw [wP0_5, wP0_0, wP1 (I := sh_u (iI3 (iI5 I b) b) (b + 14) 0 3) (i := 1) (by decide), wP1 (I := iI3 (iI5 I b) b) (i := 0) (by decide)]
  unfold iI3
  rw [wP5 (i := 2) (by decide), wP5 (i := 1) (by decide), wP5 (i := 0) (by decide), wP4 (i := 2) (by decide), wP4 (i := 1) (by decide), wP4 (i := 0) (by decide), wP3 (i := 2) (by decide), wP3 (i := 1) (by decide), wP3 (i := 0) (by decide), wP2 (i := 2) (by decide), wP2 (i := 1) (by decide), wP2 (i := 0) (by decide), iI5_v, vP_zero h]
  rfl
theorem iI4_off {I : sh_Mem} {b o : Nat} (h : o < b ∨ b + 15 ≤ o) : iI4 I b o = I o := by
  unfold iI4 iI3 iI5
  repeat rw [sh_u_ne (by omega)]
theorem iI2_off {I : sh_Mem} {o : Nat} (h : o < 47 ∨ 109 ≤ o) : iI2 I o = I o := by
  unfold iI2
  rw [iI4_off (by omega), iI4_off (by omega), iI4_off (by omega), iI4_off (by omega), sh_u_ne (by omega), sh_u_ne (by omega)]
theorem iI2_47 {I : sh_Mem} : iI2 I 47 1 = 0 ∧ iI2 I 47 2 = 0 := by
  unfold iI2
  rw [iI4_off (by omega), iI4_off (by omega), iI4_off (by omega), iI4_off (by omega)]
  exact ⟨by simp [sh_u], by simp [sh_u]⟩
theorem iI1_off {I : sh_Mem} {o : Nat} (h : o ≠ 109) : iI1 I o = I o := by
  unfold iI1
  repeat rw [sh_u_ne h]
theorem iI0_off {I : sh_Mem} {o : Nat} (h : o ≠ 114) : iI0 I o = I o := by
  unfold iI0
  repeat rw [sh_u_ne h]
theorem iI7_off {I : sh_Mem} {o : Nat} (h : o ≠ 119) : iI7 I o = I o := by
  unfold iI7
  repeat rw [sh_u_ne h]
/-- the whole system is made, and the class and the reference agree -/
theorem inv_start {I K : sh_Mem} (h0 : ∀ k, 1 ≤ k → ∀ f, I k f = 0) (e : vM (K 120) = VM0) (fr : ∀ o, o ≠ 120 → K o = iI7 (iI6 I) o) : Inv K ∧ K 0 = I 0 := by
  have low : ∀ o, o ≠ 1 → o < 109 → K o = iI2 (iI4 (iI4 (iI4 I 2) 17) 32) o := fun o h1 h2 => by
    rw [fr o (by omega), iI7_off (by omega)]
    unfold iI6
    rw [sh_u_ne h1, sh_u_ne h1, sh_u_ne h1, iI0_off (by omega), iI1_off (by omega)]
  have eP : vP K oP = VP0 := by
    rw [← iI4_v (I := I) (b := 2) (fun k hk f => h0 k (by omega) f), oP_v]
    exact vP_same fun o h1 h2 => by rw [low o (by omega) (by omega), iI2_off (by omega), iI4_off (by omega), iI4_off (by omega)]
  have k1 : ∀ f, K 1 f = iI6 I 1 f := fun f => by rw [fr 1 (by decide), iI7_off (by decide)]
  have a6 : K 1 6 = 0 := by rw [k1]; simp [iI6, sh_u]
  have a7 : K 1 7 = -5 := by rw [k1]; simp [iI6, sh_u]
  have a8 : K 1 8 = -5 := by rw [k1]; simp [iI6, sh_u]
  have k119 : ∀ f, K 119 f = iI7 (iI6 I) 119 f := fun f => by rw [fr 119 (by decide)]
  have i119 : ∀ f, iI6 I 119 f = 0 := fun f => by
    unfold iI6
    rw [sh_u_ne (by decide), sh_u_ne (by decide), sh_u_ne (by decide), iI0_off (by decide), iI1_off (by decide), iI2_off (by omega), iI4_off (by omega), iI4_off (by omega), iI4_off (by omega)]
    exact h0 119 (by decide) f
  have b2 : K 119 2 = 0 := by rw [k119]; simp [iI7, sh_u, i119]
  have b4 : K 119 4 = 0 := by rw [k119]; simp [iI7, sh_u, i119]
  have b10 : K 119 10 = 0 := by rw [k119]; simp [iI7, sh_u, i119]
  have b17 : K 119 17 = -5 := by rw [k119]; simp [iI7, sh_u]
  have b18 : K 119 18 = -5 := by rw [k119]; simp [iI7, sh_u]
  have c47 : K 47 1 = 0 ∧ K 47 2 = 0 := by
    rw [low 47 (by decide) (by decide)]
    exact iI2_47
  have d109 : K 109 1 = 0 := by
    rw [fr 109 (by decide), iI7_off (by decide)]
    unfold iI6
    rw [sh_u_ne (by decide), sh_u_ne (by decide), sh_u_ne (by decide), iI0_off (by decide)]
    simp [iI1, sh_u]
  refine ⟨⟨⟨by rw [eP, e]; exact V0_same, by rw [e]; exact VM0_wb⟩, ⟨⟨by rw [a6, b4], Or.inl b4⟩, fun q => by omega⟩, ⟨by rw [a7, b17], by rw [a8, b18]⟩, ⟨by rw [c47.2, b2], by omega, by omega, fun s s0 s1 => by omega⟩, by rw [d109, b10], by omega, fun j j0 j1 => by omega⟩, ?_⟩
  rw [low 0 (by decide) (by decide), iI2_off (by omega), iI4_off (by omega), iI4_off (by omega), iI4_off (by omega)]
theorem iP_all : iP7 (iP6 (fun _ _ => none)) = sh_PT := rfl
