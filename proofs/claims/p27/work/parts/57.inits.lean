/-! ===== 57: the constructors ===== -/
/-- from the object n on nothing is made -/
def Fr (n : Nat) (I : sh_Mem) (P : sh_Ptr) : Prop := ∀ k, n ≤ k → (∀ f, I k f = 0) ∧ ∀ f, P k f = none
theorem Fr.u {n o : Nat} {I : sh_Mem} {P : sh_Ptr} {f v : Int} (h : Fr n I P) (ho : o < n) : Fr n (sh_u I o f v) P := fun k hk => ⟨fun g => by rw [sh_u_ne (by omega)]; exact (h k hk).1 g, (h k hk).2⟩
theorem Fr.p {n o f q : Nat} {I : sh_Mem} {P : sh_Ptr} (h : Fr n I P) (ho : o < n) : Fr n I (sh_uP P o f q) := fun k hk => ⟨(h k hk).1, fun g => by rw [sh_uP_ne (by omega)]; exact (h k hk).2 g⟩
theorem Fr.s {n : Nat} {I : sh_Mem} {P : sh_Ptr} (h : Fr n I P) : Fr (n + 1) I P := fun k hk => h k (by omega)
def iI5 (I : sh_Mem) (b : Nat) : sh_Mem := (sh_u (sh_u (sh_u (sh_u (sh_u I (b + 1) 7 0) (b + 1) 8 (-5)) (b + 1) 9 0) (b + 1) 10 0) (b + 1) 11 0)
def iP5 (P : sh_Ptr) (b : Nat) : sh_Ptr := (sh_uP (sh_uP (sh_uP (sh_uP (sh_uP (sh_uP (sh_uP P (b + 1) 0 (b + 2)) (b + 1) 1 (b + 3)) (b + 1) 2 (b + 4)) (b + 1) 3 (b + 5)) (b + 1) 4 (b + 6)) (b + 1) 5 (b + 7)) (b + 1) 6 (b + 8))
theorem i_5 {b : Nat} {I : sh_Mem} {P : sh_Ptr} {Q : Option Int → sh_St → Prop} (hb : sh_isP b) (hF : Fr (b + 2) I P) (h : Fr (b + 9) (iI5 I b) (iP5 P b) → Q none (b + 9, iI5 I b, iP5 P b)) : sh_C mX5_init [.inr (b + 1)] (b + 2, I, P) Q := by
  refine sh_call (by decide +kernel) (Nat.le_refl 1) ?_
  show sh_O mX5_init 0 [some (.inr (b + 1))] [] (0, 0) (b + 2, I, P) Q
  refine sh_aload_n (pc := 0) dX5_init_0 rfl rfl ?_
  refine sh_objInit (pc := 1) dX5_init_1 wm_X5_3 wo_1 wo_2 (by decide) (by decide) (by decide) ?_
  refine sh_aload_n (pc := 4) dX5_init_4 rfl rfl ?_
  refine sh_bipush (pc := 5) (v := 6) dX5_init_5 (by decide) ?_
  refine sh_newa (pc := 7) (N := 6) dX5_init_7 rfl (by decide) wa_int rfl (by decide) (is_P2 hb).2.1 (fun f => (hF _ (by omega)).1 f) (fun f => (hF _ (by omega)).2 f) (by simp [sh_noref] <;> omega) (by simp <;> omega) (by decide) ?_
  replace hF := hF.s
  refine sh_putRF (pc := 9) dX5_init_9 fl_X5_9 rfl (fun C T h => by rw [cl_X5.1] at h; cases h; rfl) rfl ⟨by omega, (is_R hb).2.1, by omega⟩ (by omega) (fun _ => rfl) (fun _ => rfl) ?_
  replace hF := hF.p (o := (b + 1)) (f := 0) (q := (b + 2)) (by omega)
  refine sh_aload_n (pc := 12) dX5_init_12 rfl rfl ?_
  refine sh_bipush (pc := 13) (v := 6) dX5_init_13 (by decide) ?_
  refine sh_newa (pc := 15) (N := 6) dX5_init_15 rfl (by decide) wa_int rfl (by decide) (is_P3 hb).2.1 (fun f => (hF _ (by omega)).1 f) (fun f => (hF _ (by omega)).2 f) (by simp [sh_noref] <;> omega) (by simp <;> omega) (by decide) ?_
  replace hF := hF.s
  refine sh_putRF (pc := 17) dX5_init_17 fl_X5_15 rfl (fun C T h => by rw [cl_X5.1] at h; cases h; rfl) rfl ⟨by omega, (is_R hb).2.1, by omega⟩ (by omega) (fun _ => rfl) (fun _ => rfl) ?_
  replace hF := hF.p (o := (b + 1)) (f := 1) (q := (b + 3)) (by omega)
  refine sh_aload_n (pc := 20) dX5_init_20 rfl rfl ?_
  refine sh_bipush (pc := 21) (v := 6) dX5_init_21 (by decide) ?_
  refine sh_newa (pc := 23) (N := 6) dX5_init_23 rfl (by decide) wa_int rfl (by decide) (is_P4 hb).2.1 (fun f => (hF _ (by omega)).1 f) (fun f => (hF _ (by omega)).2 f) (by simp [sh_noref] <;> omega) (by simp <;> omega) (by decide) ?_
  replace hF := hF.s
  refine sh_putRF (pc := 25) dX5_init_25 fl_X5_18 rfl (fun C T h => by rw [cl_X5.1] at h; cases h; rfl) rfl ⟨by omega, (is_R hb).2.1, by omega⟩ (by omega) (fun _ => rfl) (fun _ => rfl) ?_
  replace hF := hF.p (o := (b + 1)) (f := 2) (q := (b + 4)) (by omega)
  refine sh_aload_n (pc := 28) dX5_init_28 rfl rfl ?_
  refine sh_bipush (pc := 29) (v := 6) dX5_init_29 (by decide) ?_
  refine sh_newa (pc := 31) (N := 6) dX5_init_31 rfl (by decide) wa_int rfl (by decide) (is_P5 hb).2.1 (fun f => (hF _ (by omega)).1 f) (fun f => (hF _ (by omega)).2 f) (by simp [sh_noref] <;> omega) (by simp <;> omega) (by decide) ?_
  replace hF := hF.s
  refine sh_putRF (pc := 33) dX5_init_33 fl_X5_21 rfl (fun C T h => by rw [cl_X5.1] at h; cases h; rfl) rfl ⟨by omega, (is_R hb).2.1, by omega⟩ (by omega) (fun _ => rfl) (fun _ => rfl) ?_
  replace hF := hF.p (o := (b + 1)) (f := 3) (q := (b + 5)) (by omega)
  refine sh_aload_n (pc := 36) dX5_init_36 rfl rfl ?_
  refine sh_bipush (pc := 37) (v := 6) dX5_init_37 (by decide) ?_
  refine sh_newa (pc := 39) (N := 6) dX5_init_39 rfl (by decide) wa_int rfl (by decide) (is_P6 hb).2.1 (fun f => (hF _ (by omega)).1 f) (fun f => (hF _ (by omega)).2 f) (by simp [sh_noref] <;> omega) (by simp <;> omega) (by decide) ?_
  replace hF := hF.s
  refine sh_putRF (pc := 41) dX5_init_41 fl_X5_24 rfl (fun C T h => by rw [cl_X5.1] at h; cases h; rfl) rfl ⟨by omega, (is_R hb).2.1, by omega⟩ (by omega) (fun _ => rfl) (fun _ => rfl) ?_
  replace hF := hF.p (o := (b + 1)) (f := 4) (q := (b + 6)) (by omega)
  refine sh_aload_n (pc := 44) dX5_init_44 rfl rfl ?_
  refine sh_bipush (pc := 45) (v := 6) dX5_init_45 (by decide) ?_
  refine sh_newa (pc := 47) (N := 6) dX5_init_47 rfl (by decide) wa_int rfl (by decide) (is_P7 hb).2.1 (fun f => (hF _ (by omega)).1 f) (fun f => (hF _ (by omega)).2 f) (by simp [sh_noref] <;> omega) (by simp <;> omega) (by decide) ?_
  replace hF := hF.s
  refine sh_putRF (pc := 49) dX5_init_49 fl_X5_27 rfl (fun C T h => by rw [cl_X5.1] at h; cases h; rfl) rfl ⟨by omega, (is_R hb).2.1, by omega⟩ (by omega) (fun _ => rfl) (fun _ => rfl) ?_
  replace hF := hF.p (o := (b + 1)) (f := 5) (q := (b + 7)) (by omega)
  refine sh_aload_n (pc := 52) dX5_init_52 rfl rfl ?_
  refine sh_bipush (pc := 53) (v := 6) dX5_init_53 (by decide) ?_
  refine sh_newa (pc := 55) (N := 6) dX5_init_55 rfl (by decide) wa_int rfl (by decide) (is_P8 hb).2.1 (fun f => (hF _ (by omega)).1 f) (fun f => (hF _ (by omega)).2 f) (by simp [sh_noref] <;> omega) (by simp <;> omega) (by decide) ?_
  replace hF := hF.s
  refine sh_putRF (pc := 57) dX5_init_57 fl_X5_30 rfl (fun C T h => by rw [cl_X5.1] at h; cases h; rfl) rfl ⟨by omega, (is_R hb).2.1, by omega⟩ (by omega) (fun _ => rfl) (fun _ => rfl) ?_
  replace hF := hF.p (o := (b + 1)) (f := 6) (q := (b + 8)) (by omega)
  refine sh_aload_n (pc := 60) dX5_init_60 rfl rfl ?_
  refine sh_iconst (pc := 61) (v := 0) dX5_init_61 rfl ?_
  refine sh_putI (pc := 62) dX5_init_62 fl_X5_33 rfl ⟨by omega, (is_R hb).2.1, by omega⟩ rfl (by decide) (by decide) ?_
  replace hF := hF.u (o := (b + 1)) (f := 7) (v := 0) (by omega)
  refine sh_aload_n (pc := 65) dX5_init_65 rfl rfl ?_
  refine sh_bipush (pc := 66) (v := -5) dX5_init_66 (by decide) ?_
  refine sh_putI (pc := 68) dX5_init_68 fl_X5_37 rfl ⟨by omega, (is_R hb).2.1, by omega⟩ rfl (by decide) (by decide) ?_
  replace hF := hF.u (o := (b + 1)) (f := 8) (v := (-5)) (by omega)
  refine sh_aload_n (pc := 71) dX5_init_71 rfl rfl ?_
  refine sh_iconst (pc := 72) (v := 0) dX5_init_72 rfl ?_
  refine sh_putI (pc := 73) dX5_init_73 fl_X5_40 rfl ⟨by omega, (is_R hb).2.1, by omega⟩ rfl (by decide) (by decide) ?_
  replace hF := hF.u (o := (b + 1)) (f := 9) (v := 0) (by omega)
  refine sh_aload_n (pc := 76) dX5_init_76 rfl rfl ?_
  refine sh_iconst (pc := 77) (v := 0) dX5_init_77 rfl ?_
  refine sh_putI (pc := 78) dX5_init_78 fl_X5_43 rfl ⟨by omega, (is_R hb).2.1, by omega⟩ rfl (by decide) (by decide) ?_
  replace hF := hF.u (o := (b + 1)) (f := 10) (v := 0) (by omega)
  refine sh_aload_n (pc := 81) dX5_init_81 rfl rfl ?_
  refine sh_iconst (pc := 82) (v := 0) dX5_init_82 rfl ?_
  refine sh_putI (pc := 83) dX5_init_83 fl_X5_46 rfl ⟨by omega, (is_R hb).2.1, by omega⟩ rfl (by decide) (by decide) ?_
  replace hF := hF.u (o := (b + 1)) (f := 11) (v := 0) (by omega)
  refine sh_vret (st := []) (pc := 86) dX5_init_86 rfl ?_
  exact h hF
def iI3 (I : sh_Mem) (b : Nat) : sh_Mem := (sh_u (sh_u (sh_u (sh_u (sh_u (sh_u (sh_u (sh_u (sh_u (sh_u (sh_u (sh_u I (b + 10) 0 0) (b + 10) 1 1) (b + 10) 2 2) (b + 11) 0 1) (b + 11) 1 1) (b + 11) 2 1) (b + 12) 0 0) (b + 12) 1 0) (b + 12) 2 0) (b + 13) 0 1) (b + 13) 1 1) (b + 13) 2 1)
def iP3 (P : sh_Ptr) (b : Nat) : sh_Ptr := (sh_uP (sh_uP (sh_uP (sh_uP P (b + 9) 0 (b + 10)) (b + 9) 1 (b + 11)) (b + 9) 2 (b + 12)) (b + 9) 3 (b + 13))
theorem i_3 {b : Nat} {I : sh_Mem} {P : sh_Ptr} {Q : Option Int → sh_St → Prop} (hb : sh_isP b) (hF : Fr (b + 10) I P) (h : Fr (b + 14) (iI3 I b) (iP3 P b) → Q none (b + 14, iI3 I b, iP3 P b)) : sh_C mX3_init [.inr (b + 9)] (b + 10, I, P) Q := by
  refine sh_call (by decide +kernel) (Nat.le_refl 1) ?_
  show sh_O mX3_init 0 [some (.inr (b + 9))] [] (0, 0) (b + 10, I, P) Q
  refine sh_aload_n (pc := 0) dX3_init_0 rfl rfl ?_
  refine sh_objInit (pc := 1) dX3_init_1 wm_X3_3 wo_1 wo_2 (by decide) (by decide) (by decide) ?_
  refine sh_aload_n (pc := 4) dX3_init_4 rfl rfl ?_
  refine sh_iconst (pc := 5) (v := 3) dX3_init_5 rfl ?_
  refine sh_newa (pc := 6) (N := 3) dX3_init_6 rfl (by decide) wa_int rfl (by decide) (is_P10 hb).2.1 (fun f => (hF _ (by omega)).1 f) (fun f => (hF _ (by omega)).2 f) (by simp [sh_noref] <;> omega) (by simp <;> omega) (by decide) ?_
  replace hF := hF.s
  refine sh_dup (pc := 8) dX3_init_8 ?_
  refine sh_iconst (pc := 9) (v := 0) dX3_init_9 rfl ?_
  refine sh_iconst (pc := 10) (v := 0) dX3_init_10 rfl ?_
  refine sh_iast (pc := 11) dX3_init_11 ⟨by omega, (is_P10 hb).2.1, by omega⟩ (by decide) (by decide) ?_
  replace hF := hF.u (o := (b + 10)) (f := 0) (v := 0) (by omega)
  refine sh_dup (pc := 12) dX3_init_12 ?_
  refine sh_iconst (pc := 13) (v := 1) dX3_init_13 rfl ?_
  refine sh_iconst (pc := 14) (v := 1) dX3_init_14 rfl ?_
  refine sh_iast (pc := 15) dX3_init_15 ⟨by omega, (is_P10 hb).2.1, by omega⟩ (by decide) (by decide) ?_
  replace hF := hF.u (o := (b + 10)) (f := 1) (v := 1) (by omega)
  refine sh_dup (pc := 16) dX3_init_16 ?_
  refine sh_iconst (pc := 17) (v := 2) dX3_init_17 rfl ?_
  refine sh_iconst (pc := 18) (v := 2) dX3_init_18 rfl ?_
  refine sh_iast (pc := 19) dX3_init_19 ⟨by omega, (is_P10 hb).2.1, by omega⟩ (by decide) (by decide) ?_
  replace hF := hF.u (o := (b + 10)) (f := 2) (v := 2) (by omega)
  refine sh_putRF (pc := 20) dX3_init_20 fl_X3_9 rfl (fun C T h => by rw [cl_X3.1] at h; cases h; rfl) rfl ⟨by omega, (is_L hb).2.1, by omega⟩ (by omega) (fun _ => rfl) (fun _ => rfl) ?_
  replace hF := hF.p (o := (b + 9)) (f := 0) (q := (b + 10)) (by omega)
  refine sh_aload_n (pc := 23) dX3_init_23 rfl rfl ?_
  refine sh_iconst (pc := 24) (v := 3) dX3_init_24 rfl ?_
  refine sh_newa (pc := 25) (N := 3) dX3_init_25 rfl (by decide) wa_int rfl (by decide) (is_P11 hb).2.1 (fun f => (hF _ (by omega)).1 f) (fun f => (hF _ (by omega)).2 f) (by simp [sh_noref] <;> omega) (by simp <;> omega) (by decide) ?_
  replace hF := hF.s
  refine sh_dup (pc := 27) dX3_init_27 ?_
  refine sh_iconst (pc := 28) (v := 0) dX3_init_28 rfl ?_
  refine sh_iconst (pc := 29) (v := 1) dX3_init_29 rfl ?_
  refine sh_iast (pc := 30) dX3_init_30 ⟨by omega, (is_P11 hb).2.1, by omega⟩ (by decide) (by decide) ?_
  replace hF := hF.u (o := (b + 11)) (f := 0) (v := 1) (by omega)
  refine sh_dup (pc := 31) dX3_init_31 ?_
  refine sh_iconst (pc := 32) (v := 1) dX3_init_32 rfl ?_
  refine sh_iconst (pc := 33) (v := 1) dX3_init_33 rfl ?_
  refine sh_iast (pc := 34) dX3_init_34 ⟨by omega, (is_P11 hb).2.1, by omega⟩ (by decide) (by decide) ?_
  replace hF := hF.u (o := (b + 11)) (f := 1) (v := 1) (by omega)
  refine sh_dup (pc := 35) dX3_init_35 ?_
  refine sh_iconst (pc := 36) (v := 2) dX3_init_36 rfl ?_
  refine sh_iconst (pc := 37) (v := 1) dX3_init_37 rfl ?_
  refine sh_iast (pc := 38) dX3_init_38 ⟨by omega, (is_P11 hb).2.1, by omega⟩ (by decide) (by decide) ?_
  replace hF := hF.u (o := (b + 11)) (f := 2) (v := 1) (by omega)
  refine sh_putRF (pc := 39) dX3_init_39 fl_X3_15 rfl (fun C T h => by rw [cl_X3.1] at h; cases h; rfl) rfl ⟨by omega, (is_L hb).2.1, by omega⟩ (by omega) (fun _ => rfl) (fun _ => rfl) ?_
  replace hF := hF.p (o := (b + 9)) (f := 1) (q := (b + 11)) (by omega)
  refine sh_aload_n (pc := 42) dX3_init_42 rfl rfl ?_
  refine sh_iconst (pc := 43) (v := 3) dX3_init_43 rfl ?_
  refine sh_newa (pc := 44) (N := 3) dX3_init_44 rfl (by decide) wa_int rfl (by decide) (is_P12 hb).2.1 (fun f => (hF _ (by omega)).1 f) (fun f => (hF _ (by omega)).2 f) (by simp [sh_noref] <;> omega) (by simp <;> omega) (by decide) ?_
  replace hF := hF.s
  refine sh_dup (pc := 46) dX3_init_46 ?_
  refine sh_iconst (pc := 47) (v := 0) dX3_init_47 rfl ?_
  refine sh_iconst (pc := 48) (v := 0) dX3_init_48 rfl ?_
  refine sh_iast (pc := 49) dX3_init_49 ⟨by omega, (is_P12 hb).2.1, by omega⟩ (by decide) (by decide) ?_
  replace hF := hF.u (o := (b + 12)) (f := 0) (v := 0) (by omega)
  refine sh_dup (pc := 50) dX3_init_50 ?_
  refine sh_iconst (pc := 51) (v := 1) dX3_init_51 rfl ?_
  refine sh_iconst (pc := 52) (v := 0) dX3_init_52 rfl ?_
  refine sh_iast (pc := 53) dX3_init_53 ⟨by omega, (is_P12 hb).2.1, by omega⟩ (by decide) (by decide) ?_
  replace hF := hF.u (o := (b + 12)) (f := 1) (v := 0) (by omega)
  refine sh_dup (pc := 54) dX3_init_54 ?_
  refine sh_iconst (pc := 55) (v := 2) dX3_init_55 rfl ?_
  refine sh_iconst (pc := 56) (v := 0) dX3_init_56 rfl ?_
  refine sh_iast (pc := 57) dX3_init_57 ⟨by omega, (is_P12 hb).2.1, by omega⟩ (by decide) (by decide) ?_
  replace hF := hF.u (o := (b + 12)) (f := 2) (v := 0) (by omega)
  refine sh_putRF (pc := 58) dX3_init_58 fl_X3_18 rfl (fun C T h => by rw [cl_X3.1] at h; cases h; rfl) rfl ⟨by omega, (is_L hb).2.1, by omega⟩ (by omega) (fun _ => rfl) (fun _ => rfl) ?_
  replace hF := hF.p (o := (b + 9)) (f := 2) (q := (b + 12)) (by omega)
  refine sh_aload_n (pc := 61) dX3_init_61 rfl rfl ?_
  refine sh_iconst (pc := 62) (v := 3) dX3_init_62 rfl ?_
  refine sh_newa (pc := 63) (N := 3) dX3_init_63 rfl (by decide) wa_int rfl (by decide) (is_P13 hb).2.1 (fun f => (hF _ (by omega)).1 f) (fun f => (hF _ (by omega)).2 f) (by simp [sh_noref] <;> omega) (by simp <;> omega) (by decide) ?_
  replace hF := hF.s
  refine sh_dup (pc := 65) dX3_init_65 ?_
  refine sh_iconst (pc := 66) (v := 0) dX3_init_66 rfl ?_
  refine sh_iconst (pc := 67) (v := 1) dX3_init_67 rfl ?_
  refine sh_iast (pc := 68) dX3_init_68 ⟨by omega, (is_P13 hb).2.1, by omega⟩ (by decide) (by decide) ?_
  replace hF := hF.u (o := (b + 13)) (f := 0) (v := 1) (by omega)
  refine sh_dup (pc := 69) dX3_init_69 ?_
  refine sh_iconst (pc := 70) (v := 1) dX3_init_70 rfl ?_
  refine sh_iconst (pc := 71) (v := 1) dX3_init_71 rfl ?_
  refine sh_iast (pc := 72) dX3_init_72 ⟨by omega, (is_P13 hb).2.1, by omega⟩ (by decide) (by decide) ?_
  replace hF := hF.u (o := (b + 13)) (f := 1) (v := 1) (by omega)
  refine sh_dup (pc := 73) dX3_init_73 ?_
  refine sh_iconst (pc := 74) (v := 2) dX3_init_74 rfl ?_
  refine sh_iconst (pc := 75) (v := 1) dX3_init_75 rfl ?_
  refine sh_iast (pc := 76) dX3_init_76 ⟨by omega, (is_P13 hb).2.1, by omega⟩ (by decide) (by decide) ?_
  replace hF := hF.u (o := (b + 13)) (f := 2) (v := 1) (by omega)
  refine sh_putRF (pc := 77) dX3_init_77 fl_X3_21 rfl (fun C T h => by rw [cl_X3.1] at h; cases h; rfl) rfl ⟨by omega, (is_L hb).2.1, by omega⟩ (by omega) (fun _ => rfl) (fun _ => rfl) ?_
  replace hF := hF.p (o := (b + 9)) (f := 3) (q := (b + 13)) (by omega)
  refine sh_vret (st := []) (pc := 80) dX3_init_80 rfl ?_
  exact h hF
noncomputable def V0 : Vw := fun j i => if j = 0 ∧ i = 1 then -5 else if j = 1 ∧ i = 0 then 3 else if j = 2 ∧ (i = 1 ∨ i = 2) then i else if (j = 3 ∨ j = 5) ∧ (0 ≤ i ∧ i < 3) then 1 else 0
def iP4 (P : sh_Ptr) (b : Nat) : sh_Ptr := sh_uP (sh_uP (iP3 (sh_uP (iP5 P b) b 0 (b + 1)) b) b 1 (b + 9)) b 2 (b + 14)
def iI4 (I : sh_Mem) (b : Nat) : sh_Mem := sh_u (sh_u (sh_u (sh_u (iI3 (iI5 I b) b) (b + 14) 0 3) (b + 14) 1 0) b 3 0) b 4 0
theorem i_4 {b : Nat} {I : sh_Mem} {P : sh_Ptr} {Q : Option Int → sh_St → Prop} (hb : sh_isP b) (hF : Fr (b + 1) I P) (h : Fr (b + 15) (iI4 I b) (iP4 P b) → Q none (b + 15, iI4 I b, iP4 P b)) : sh_C mX4_init [.inr b] (b + 1, I, P) Q := by
  refine sh_call (by decide +kernel) (Nat.le_refl 1) ?_
  show sh_O mX4_init 0 [some (.inr b)] [] (0, 0) (b + 1, I, P) Q
  have hb0 : 0 < b := (is_P hb).2.2
  refine sh_aload_n (pc := 0) dX4_init_0 rfl rfl ?_
  refine sh_objInit (pc := 1) dX4_init_1 wm_X4_3 wo_1 wo_2 (by decide) (by decide) (by decide) ?_
  refine sh_aload_n (pc := 4) dX4_init_4 rfl rfl ?_
  refine sh_new (pc := 5) dX4_init_5 cl_X5 wk_X4_9 wn_X5 wi_X5 (is_R hb).2.1 (fun f => (hF _ (by omega)).1 f) (fun f => (hF _ (by omega)).2 f) (by decide +kernel) (by simp [sh_noref] <;> omega) (by simp <;> omega) (by decide) ?_
  replace hF := hF.s
  refine sh_dup (pc := 8) dX4_init_8 ?_
  refine sh_callIN (as := []) (pc := 9) dX4_init_9 lk_X4_11 (Q1 := fun r σ' => r = none ∧ ∃ K R, σ' = (b + 9, K, R) ∧ K = _ ∧ R = _ ∧ Fr (b + 9) K R) (i_5 hb hF (fun q => ⟨rfl, _, _, rfl, rfl, rfl, q⟩)) rfl (show sh_fit mX4_init mX5_init (1, 12) 2 from ⟨by decide, by decide, by decide, by decide, by decide⟩) (Or.inr ⟨(by simp [sh_noref] <;> omega), (by simp <;> omega)⟩) ?_
  rintro r σ' ⟨rfl, K, R, rfl, eK, eR, hF2⟩
  clear hF; have hF := hF2; clear hF2
  subst eK; subst eR
  refine sh_putRF (pc := 12) dX4_init_12 fl_X4_12 rfl (fun C T h => by rw [cl_X4.1] at h; cases h; rfl) rfl ⟨by omega, (is_P hb).2.1, by omega⟩ (by omega) (fun _ => rfl) (fun _ => rfl) ?_
  replace hF := hF.p (o := b) (f := 0) (q := (b + 1)) (by omega)
  refine sh_aload_n (pc := 15) dX4_init_15 rfl rfl ?_
  refine sh_new (pc := 16) dX4_init_16 cl_X3 wk_X4_18 wn_X3 wi_X3 (is_L hb).2.1 (fun f => (hF _ (by omega)).1 f) (fun f => (hF _ (by omega)).2 f) (by decide +kernel) (by simp [sh_noref] <;> omega) (by simp <;> omega) (by decide) ?_
  replace hF := hF.s
  refine sh_dup (pc := 19) dX4_init_19 ?_
  refine sh_callIN (as := []) (pc := 20) dX4_init_20 lk_X4_20 (Q1 := fun r σ' => r = none ∧ ∃ K R, σ' = (b + 14, K, R) ∧ K = _ ∧ R = _ ∧ Fr (b + 14) K R) (i_3 hb hF (fun q => ⟨rfl, _, _, rfl, rfl, rfl, q⟩)) rfl (show sh_fit mX4_init mX3_init (9, 58) 2 from ⟨by decide, by decide, by decide, by decide, by decide⟩) (Or.inr ⟨(by simp [sh_noref] <;> omega), (by simp <;> omega)⟩) ?_
  rintro r σ' ⟨rfl, K, R, rfl, eK, eR, hF2⟩
  clear hF; have hF := hF2; clear hF2
  subst eK; subst eR
  refine sh_putRF (pc := 23) dX4_init_23 fl_X4_21 rfl (fun C T h => by rw [cl_X4.1] at h; cases h; rfl) rfl ⟨by omega, (is_P hb).2.1, by omega⟩ (by omega) (fun _ => rfl) (fun _ => rfl) ?_
  replace hF := hF.p (o := b) (f := 1) (q := (b + 9)) (by omega)
  refine sh_aload_n (pc := 26) dX4_init_26 rfl rfl ?_
  refine sh_iconst (pc := 27) (v := 2) dX4_init_27 rfl ?_
  refine sh_newa (pc := 28) (N := 2) dX4_init_28 rfl (by decide) wa_int rfl (by decide) (is_P14 hb).2.1 (fun f => (hF _ (by omega)).1 f) (fun f => (hF _ (by omega)).2 f) (by simp [sh_noref] <;> omega) (by simp <;> omega) (by decide) ?_
  replace hF := hF.s
  refine sh_dup (pc := 30) dX4_init_30 ?_
  refine sh_iconst (pc := 31) (v := 0) dX4_init_31 rfl ?_
  refine sh_iconst (pc := 32) (v := 3) dX4_init_32 rfl ?_
  refine sh_iast (pc := 33) dX4_init_33 ⟨by omega, (is_P14 hb).2.1, by omega⟩ (by decide) (by decide) ?_
  replace hF := hF.u (o := (b + 14)) (f := 0) (v := 3) (by omega)
  refine sh_dup (pc := 34) dX4_init_34 ?_
  refine sh_iconst (pc := 35) (v := 1) dX4_init_35 rfl ?_
  refine sh_iconst (pc := 36) (v := 0) dX4_init_36 rfl ?_
  refine sh_iast (pc := 37) dX4_init_37 ⟨by omega, (is_P14 hb).2.1, by omega⟩ (by decide) (by decide) ?_
  replace hF := hF.u (o := (b + 14)) (f := 1) (v := 0) (by omega)
  refine sh_putRF (pc := 38) dX4_init_38 fl_X4_25 rfl (fun C T h => by rw [cl_X4.1] at h; cases h; rfl) rfl ⟨by omega, (is_P hb).2.1, by omega⟩ (by omega) (fun _ => rfl) (fun _ => rfl) ?_
  replace hF := hF.p (o := b) (f := 2) (q := (b + 14)) (by omega)
  refine sh_aload_n (pc := 41) dX4_init_41 rfl rfl ?_
  refine sh_iconst (pc := 42) (v := 0) dX4_init_42 rfl ?_
  refine sh_putI (pc := 43) dX4_init_43 fl_X4_29 rfl ⟨by omega, (is_P hb).2.1, by omega⟩ rfl (by decide) (by decide) ?_
  replace hF := hF.u (o := b) (f := 3) (v := 0) (by omega)
  refine sh_aload_n (pc := 46) dX4_init_46 rfl rfl ?_
  refine sh_iconst (pc := 47) (v := 0) dX4_init_47 rfl ?_
  refine sh_putI (pc := 48) dX4_init_48 fl_X4_33 rfl ⟨by omega, (is_P hb).2.1, by omega⟩ rfl (by decide) (by decide) ?_
  replace hF := hF.u (o := b) (f := 4) (v := 0) (by omega)
  refine sh_vret (st := []) (pc := 51) dX4_init_51 rfl ?_
  exact h hF
def iI1 (I : sh_Mem) : sh_Mem := (sh_u (sh_u (sh_u I 109 1 0) 109 2 0) 109 6 0)
def iP1 (P : sh_Ptr) : sh_Ptr := (sh_uP (sh_uP (sh_uP (sh_uP P 109 0 110) 109 3 111) 109 4 112) 109 5 113)
theorem i_1 {I : sh_Mem} {P : sh_Ptr} {Q : Option Int → sh_St → Prop} (hF : Fr 110 I P) (h : Fr 114 (iI1 I) (iP1 P) → Q none (114, iI1 I, iP1 P)) : sh_C mX1_init [.inr 109] (110, I, P) Q := by
  refine sh_call (by decide +kernel) (Nat.le_refl 1) ?_
  show sh_O mX1_init 0 [some (.inr 109)] [] (0, 0) (110, I, P) Q
  refine sh_aload_n (pc := 0) dX1_init_0 rfl rfl ?_
  refine sh_objInit (pc := 1) dX1_init_1 wm_X1_3 wo_1 wo_2 (by decide) (by decide) (by decide) ?_
  refine sh_aload_n (pc := 4) dX1_init_4 rfl rfl ?_
  refine sh_bipush (pc := 5) (v := 60) dX1_init_5 (by decide) ?_
  refine sh_newa (pc := 7) (N := 60) dX1_init_7 rfl (by decide) wa_char rfl (by decide) is_110.2.1 (fun f => (hF _ (by omega)).1 f) (fun f => (hF _ (by omega)).2 f) (by simp [sh_noref] <;> omega) (by simp <;> omega) (by decide) ?_
  replace hF := hF.s
  refine sh_putRF (pc := 9) dX1_init_9 fl_X1_9 rfl (fun C T h => by rw [cl_X1.1] at h; cases h; rfl) rfl ⟨by omega, is_109.2.1, by omega⟩ (by omega) (fun _ => rfl) (fun _ => rfl) ?_
  replace hF := hF.p (o := 109) (f := 0) (q := 110) (by omega)
  refine sh_aload_n (pc := 12) dX1_init_12 rfl rfl ?_
  refine sh_iconst (pc := 13) (v := 0) dX1_init_13 rfl ?_
  refine sh_putI (pc := 14) dX1_init_14 fl_X1_15 rfl ⟨by omega, is_109.2.1, by omega⟩ rfl (by decide) (by decide) ?_
  replace hF := hF.u (o := 109) (f := 1) (v := 0) (by omega)
  refine sh_aload_n (pc := 17) dX1_init_17 rfl rfl ?_
  refine sh_iconst (pc := 18) (v := 0) dX1_init_18 rfl ?_
  refine sh_putI (pc := 19) dX1_init_19 fl_X1_19 rfl ⟨by omega, is_109.2.1, by omega⟩ rfl (by decide) (by decide) ?_
  replace hF := hF.u (o := 109) (f := 2) (v := 0) (by omega)
  refine sh_aload_n (pc := 22) dX1_init_22 rfl rfl ?_
  refine sh_bipush (pc := 23) (v := 20) dX1_init_23 (by decide) ?_
  refine sh_newa (pc := 25) (N := 20) dX1_init_25 rfl (by decide) wa_int rfl (by decide) is_111.2.1 (fun f => (hF _ (by omega)).1 f) (fun f => (hF _ (by omega)).2 f) (by simp [sh_noref] <;> omega) (by simp <;> omega) (by decide) ?_
  replace hF := hF.s
  refine sh_putRF (pc := 27) dX1_init_27 fl_X1_22 rfl (fun C T h => by rw [cl_X1.1] at h; cases h; rfl) rfl ⟨by omega, is_109.2.1, by omega⟩ (by omega) (fun _ => rfl) (fun _ => rfl) ?_
  replace hF := hF.p (o := 109) (f := 3) (q := 111) (by omega)
  refine sh_aload_n (pc := 30) dX1_init_30 rfl rfl ?_
  refine sh_bipush (pc := 31) (v := 20) dX1_init_31 (by decide) ?_
  refine sh_newa (pc := 33) (N := 20) dX1_init_33 rfl (by decide) wa_int rfl (by decide) is_112.2.1 (fun f => (hF _ (by omega)).1 f) (fun f => (hF _ (by omega)).2 f) (by simp [sh_noref] <;> omega) (by simp <;> omega) (by decide) ?_
  replace hF := hF.s
  refine sh_putRF (pc := 35) dX1_init_35 fl_X1_26 rfl (fun C T h => by rw [cl_X1.1] at h; cases h; rfl) rfl ⟨by omega, is_109.2.1, by omega⟩ (by omega) (fun _ => rfl) (fun _ => rfl) ?_
  replace hF := hF.p (o := 109) (f := 4) (q := 112) (by omega)
  refine sh_aload_n (pc := 38) dX1_init_38 rfl rfl ?_
  refine sh_bipush (pc := 39) (v := 20) dX1_init_39 (by decide) ?_
  refine sh_newa (pc := 41) (N := 20) dX1_init_41 rfl (by decide) wa_int rfl (by decide) is_113.2.1 (fun f => (hF _ (by omega)).1 f) (fun f => (hF _ (by omega)).2 f) (by simp [sh_noref] <;> omega) (by simp <;> omega) (by decide) ?_
  replace hF := hF.s
  refine sh_putRF (pc := 43) dX1_init_43 fl_X1_29 rfl (fun C T h => by rw [cl_X1.1] at h; cases h; rfl) rfl ⟨by omega, is_109.2.1, by omega⟩ (by omega) (fun _ => rfl) (fun _ => rfl) ?_
  replace hF := hF.p (o := 109) (f := 5) (q := 113) (by omega)
  refine sh_aload_n (pc := 46) dX1_init_46 rfl rfl ?_
  refine sh_iconst (pc := 47) (v := 0) dX1_init_47 rfl ?_
  refine sh_putI (pc := 48) dX1_init_48 fl_X1_32 rfl ⟨by omega, is_109.2.1, by omega⟩ rfl (by decide) (by decide) ?_
  replace hF := hF.u (o := 109) (f := 6) (v := 0) (by omega)
  refine sh_vret (st := []) (pc := 51) dX1_init_51 rfl ?_
  exact h hF
def iI0 (I : sh_Mem) : sh_Mem := (sh_u I 114 4 0)
def iP0 (P : sh_Ptr) : sh_Ptr := (sh_uP (sh_uP (sh_uP (sh_uP P 114 0 115) 114 1 116) 114 2 117) 114 3 118)
theorem i_0 {I : sh_Mem} {P : sh_Ptr} {Q : Option Int → sh_St → Prop} (hF : Fr 115 I P) (h : Fr 119 (iI0 I) (iP0 P) → Q none (119, iI0 I, iP0 P)) : sh_C mX0_init [.inr 114] (115, I, P) Q := by
  refine sh_call (by decide +kernel) (Nat.le_refl 1) ?_
  show sh_O mX0_init 0 [some (.inr 114)] [] (0, 0) (115, I, P) Q
  refine sh_aload_n (pc := 0) dX0_init_0 rfl rfl ?_
  refine sh_objInit (pc := 1) dX0_init_1 wm_X0_3 wo_1 wo_2 (by decide) (by decide) (by decide) ?_
  refine sh_aload_n (pc := 4) dX0_init_4 rfl rfl ?_
  refine sh_bipush (pc := 5) (v := 100) dX0_init_5 (by decide) ?_
  refine sh_newa (pc := 7) (N := 100) dX0_init_7 rfl (by decide) wa_boolean rfl (by decide) is_115.2.1 (fun f => (hF _ (by omega)).1 f) (fun f => (hF _ (by omega)).2 f) (by simp [sh_noref] <;> omega) (by simp <;> omega) (by decide) ?_
  replace hF := hF.s
  refine sh_putRF (pc := 9) dX0_init_9 fl_X0_9 rfl (fun C T h => by rw [cl_X0.1] at h; cases h; rfl) rfl ⟨by omega, is_114.2.1, by omega⟩ (by omega) (fun _ => rfl) (fun _ => rfl) ?_
  replace hF := hF.p (o := 114) (f := 0) (q := 115) (by omega)
  refine sh_aload_n (pc := 12) dX0_init_12 rfl rfl ?_
  refine sh_bipush (pc := 13) (v := 100) dX0_init_13 (by decide) ?_
  refine sh_newa (pc := 15) (N := 100) dX0_init_15 rfl (by decide) wa_boolean rfl (by decide) is_116.2.1 (fun f => (hF _ (by omega)).1 f) (fun f => (hF _ (by omega)).2 f) (by simp [sh_noref] <;> omega) (by simp <;> omega) (by decide) ?_
  replace hF := hF.s
  refine sh_putRF (pc := 17) dX0_init_17 fl_X0_15 rfl (fun C T h => by rw [cl_X0.1] at h; cases h; rfl) rfl ⟨by omega, is_114.2.1, by omega⟩ (by omega) (fun _ => rfl) (fun _ => rfl) ?_
  replace hF := hF.p (o := 114) (f := 1) (q := 116) (by omega)
  refine sh_aload_n (pc := 20) dX0_init_20 rfl rfl ?_
  refine sh_bipush (pc := 21) (v := 100) dX0_init_21 (by decide) ?_
  refine sh_newa (pc := 23) (N := 100) dX0_init_23 rfl (by decide) wa_int rfl (by decide) is_117.2.1 (fun f => (hF _ (by omega)).1 f) (fun f => (hF _ (by omega)).2 f) (by simp [sh_noref] <;> omega) (by simp <;> omega) (by decide) ?_
  replace hF := hF.s
  refine sh_putRF (pc := 25) dX0_init_25 fl_X0_18 rfl (fun C T h => by rw [cl_X0.1] at h; cases h; rfl) rfl ⟨by omega, is_114.2.1, by omega⟩ (by omega) (fun _ => rfl) (fun _ => rfl) ?_
  replace hF := hF.p (o := 114) (f := 2) (q := 117) (by omega)
  refine sh_aload_n (pc := 28) dX0_init_28 rfl rfl ?_
  refine sh_bipush (pc := 29) (v := 100) dX0_init_29 (by decide) ?_
  refine sh_newa (pc := 31) (N := 100) dX0_init_31 rfl (by decide) wa_int rfl (by decide) is_118.2.1 (fun f => (hF _ (by omega)).1 f) (fun f => (hF _ (by omega)).2 f) (by simp [sh_noref] <;> omega) (by simp <;> omega) (by decide) ?_
  replace hF := hF.s
  refine sh_putRF (pc := 33) dX0_init_33 fl_X0_22 rfl (fun C T h => by rw [cl_X0.1] at h; cases h; rfl) rfl ⟨by omega, is_114.2.1, by omega⟩ (by omega) (fun _ => rfl) (fun _ => rfl) ?_
  replace hF := hF.p (o := 114) (f := 3) (q := 118) (by omega)
  refine sh_aload_n (pc := 36) dX0_init_36 rfl rfl ?_
  refine sh_iconst (pc := 37) (v := 0) dX0_init_37 rfl ?_
  refine sh_putI (pc := 38) dX0_init_38 fl_X0_25 rfl ⟨by omega, is_114.2.1, by omega⟩ rfl (by decide) (by decide) ?_
  replace hF := hF.u (o := 114) (f := 4) (v := 0) (by omega)
  refine sh_vret (st := []) (pc := 41) dX0_init_41 rfl ?_
  exact h hF
def iI2 (I : sh_Mem) : sh_Mem := iI4 (iI4 (iI4 (iI4 (sh_u (sh_u I 47 1 0) 47 2 0) 49) 64) 79) 94
def iP2 (P : sh_Ptr) : sh_Ptr := sh_uP (iP4 (sh_uP (iP4 (sh_uP (iP4 (sh_uP (iP4 (sh_uP P 47 0 48) 49) 48 0 49) 64) 48 1 64) 79) 48 2 79) 94) 48 3 94
theorem i_2 {I : sh_Mem} {P : sh_Ptr} {Q : Option Int → sh_St → Prop} (hF : Fr 48 I P) (h : Fr 109 (iI2 I) (iP2 P) → Q none (109, iI2 I, iP2 P)) : sh_C mX2_init [.inr 47] (48, I, P) Q := by
  refine sh_call (by decide +kernel) (by decide) ?_
  show sh_O mX2_init 0 [some (.inr 47), none] [] (0, 0) (48, I, P) Q
  refine sh_aload_n (pc := 0) dX2_init_0 rfl rfl ?_
  refine sh_objInit (pc := 1) dX2_init_1 wm_X2_3 wo_1 wo_2 (by decide) (by decide) (by decide) ?_
  refine sh_aload_n (pc := 4) dX2_init_4 rfl rfl ?_
  refine sh_iconst (pc := 5) (v := 4) dX2_init_5 rfl ?_
  refine sh_newq (pc := 6) (N := 4) dX2_init_6 wk_X2_9 rfl (by decide) is_48.2.1 (fun f => (hF _ (by omega)).2 f) (by simp [sh_noref] <;> omega) (by simp <;> omega) (by decide) ?_
  replace hF := hF.s
  refine sh_putRF (pc := 9) dX2_init_9 fl_X2_11 rfl (fun C T h => by rw [cl_X2.1] at h; cases h; rfl) rfl ⟨by omega, is_47.2.1, by omega⟩ (by omega) (fun _ => rfl) (fun _ => rfl) ?_
  replace hF := hF.p (o := 47) (f := 0) (q := 48) (by omega)
  refine sh_aload_n (pc := 12) dX2_init_12 rfl rfl ?_
  refine sh_iconst (pc := 13) (v := 0) dX2_init_13 rfl ?_
  refine sh_putI (pc := 14) dX2_init_14 fl_X2_17 rfl ⟨by omega, is_47.2.1, by omega⟩ rfl (by decide) (by decide) ?_
  replace hF := hF.u (o := 47) (f := 1) (v := 0) (by omega)
  refine sh_aload_n (pc := 17) dX2_init_17 rfl rfl ?_
  refine sh_iconst (pc := 18) (v := 0) dX2_init_18 rfl ?_
  refine sh_putI (pc := 19) dX2_init_19 fl_X2_21 rfl ⟨by omega, is_47.2.1, by omega⟩ rfl (by decide) (by decide) ?_
  replace hF := hF.u (o := 47) (f := 2) (v := 0) (by omega)
  refine sh_iconst (pc := 22) (v := 0) dX2_init_22 rfl ?_
  refine k_istore_n (pc := 23) [some (.inr 47), some (.inl 0)] dX2_init_23 rfl rfl (by decide) ?_
  refine sh_iload_n (pc := 24) dX2_init_24 rfl rfl ?_
  refine sh_iconst (pc := 25) (v := 4) dX2_init_25 rfl ?_
  refine sh_icmp_ge (pc := 26) (tgt := 48) dX2_init_26 (by decide) (bd_lit (by decide)) (bd_lit (by decide)) (fun q => absurd q (by decide)) (fun _ => ?_)
  refine sh_aload_n (pc := 29) dX2_init_29 rfl rfl ?_
  refine sh_getR (q := 48) (pc := 30) dX2_init_30 fl_X2_11 rfl ⟨by omega, is_47.2.1, by omega⟩ rfl ?_
  refine sh_iload_n (pc := 33) dX2_init_33 rfl rfl ?_
  refine sh_new (pc := 34) dX2_init_34 cl_X4 wk_X2_9 wn_X4 wi_X4 (is_P isP_49).2.1 (fun f => (hF _ (by omega)).1 f) (fun f => (hF _ (by omega)).2 f) (by decide +kernel) (by simp [sh_noref] <;> omega) (by simp <;> omega) (by decide) ?_
  replace hF := hF.s
  refine sh_dup (pc := 37) dX2_init_37 ?_
  refine sh_callIN (as := []) (pc := 38) dX2_init_38 lk_X2_24 (Q1 := fun r σ' => r = none ∧ ∃ K R, σ' = (64, K, R) ∧ K = _ ∧ R = _ ∧ Fr 64 K R) (i_4 isP_49 hF (fun q => ⟨rfl, _, _, rfl, rfl, rfl, q⟩)) rfl (show sh_fit mX2_init mX4_init (2, 9) 3 from ⟨by decide, by decide, by decide, by decide, by decide⟩) (Or.inr ⟨(by simp [sh_noref] <;> omega), (by simp <;> omega)⟩) ?_
  rintro r σ' ⟨rfl, K, R, rfl, eK, eR, hF2⟩
  clear hF; have hF := hF2; clear hF2
  subst eK; subst eR
  refine sh_aast (pc := 41) dX2_init_41 ⟨by omega, is_48.2.1, by omega⟩ (by decide) (by decide) ⟨by omega, (is_P isP_49).2.1, by omega⟩ ?_
  replace hF := hF.p (o := 48) (f := 0) (q := 49) (by omega)
  refine k_iinc (pc := 42) [some (.inr 47), some (.inl 1)] dX2_init_42 rfl rfl (by decide) ?_
  refine sh_goto (pc := 45) (tgt := 24) dX2_init_45 (by decide) ?_
  refine sh_iload_n (pc := 24) dX2_init_24 rfl rfl ?_
  refine sh_iconst (pc := 25) (v := 4) dX2_init_25 rfl ?_
  refine sh_icmp_ge (pc := 26) (tgt := 48) dX2_init_26 (by decide) (bd_lit (by decide)) (bd_lit (by decide)) (fun q => absurd q (by decide)) (fun _ => ?_)
  refine sh_aload_n (pc := 29) dX2_init_29 rfl rfl ?_
  refine sh_getR (q := 48) (pc := 30) dX2_init_30 fl_X2_11 rfl ⟨by omega, is_47.2.1, by omega⟩ rfl ?_
  refine sh_iload_n (pc := 33) dX2_init_33 rfl rfl ?_
  refine sh_new (pc := 34) dX2_init_34 cl_X4 wk_X2_9 wn_X4 wi_X4 (is_P isP_64).2.1 (fun f => (hF _ (by omega)).1 f) (fun f => (hF _ (by omega)).2 f) (by decide +kernel) (by simp [sh_noref] <;> omega) (by simp <;> omega) (by decide) ?_
  replace hF := hF.s
  refine sh_dup (pc := 37) dX2_init_37 ?_
  refine sh_callIN (as := []) (pc := 38) dX2_init_38 lk_X2_24 (Q1 := fun r σ' => r = none ∧ ∃ K R, σ' = (79, K, R) ∧ K = _ ∧ R = _ ∧ Fr 79 K R) (i_4 isP_64 hF (fun q => ⟨rfl, _, _, rfl, rfl, rfl, q⟩)) rfl (show sh_fit mX2_init mX4_init (17, 86) 3 from ⟨by decide, by decide, by decide, by decide, by decide⟩) (Or.inr ⟨(by simp [sh_noref] <;> omega), (by simp <;> omega)⟩) ?_
  rintro r σ' ⟨rfl, K, R, rfl, eK, eR, hF2⟩
  clear hF; have hF := hF2; clear hF2
  subst eK; subst eR
  refine sh_aast (pc := 41) dX2_init_41 ⟨by omega, is_48.2.1, by omega⟩ (by decide) (by decide) ⟨by omega, (is_P isP_64).2.1, by omega⟩ ?_
  replace hF := hF.p (o := 48) (f := 1) (q := 64) (by omega)
  refine k_iinc (pc := 42) [some (.inr 47), some (.inl 2)] dX2_init_42 rfl rfl (by decide) ?_
  refine sh_goto (pc := 45) (tgt := 24) dX2_init_45 (by decide) ?_
  refine sh_iload_n (pc := 24) dX2_init_24 rfl rfl ?_
  refine sh_iconst (pc := 25) (v := 4) dX2_init_25 rfl ?_
  refine sh_icmp_ge (pc := 26) (tgt := 48) dX2_init_26 (by decide) (bd_lit (by decide)) (bd_lit (by decide)) (fun q => absurd q (by decide)) (fun _ => ?_)
  refine sh_aload_n (pc := 29) dX2_init_29 rfl rfl ?_
  refine sh_getR (q := 48) (pc := 30) dX2_init_30 fl_X2_11 rfl ⟨by omega, is_47.2.1, by omega⟩ rfl ?_
  refine sh_iload_n (pc := 33) dX2_init_33 rfl rfl ?_
  refine sh_new (pc := 34) dX2_init_34 cl_X4 wk_X2_9 wn_X4 wi_X4 (is_P isP_79).2.1 (fun f => (hF _ (by omega)).1 f) (fun f => (hF _ (by omega)).2 f) (by decide +kernel) (by simp [sh_noref] <;> omega) (by simp <;> omega) (by decide) ?_
  replace hF := hF.s
  refine sh_dup (pc := 37) dX2_init_37 ?_
  refine sh_callIN (as := []) (pc := 38) dX2_init_38 lk_X2_24 (Q1 := fun r σ' => r = none ∧ ∃ K R, σ' = (94, K, R) ∧ K = _ ∧ R = _ ∧ Fr 94 K R) (i_4 isP_79 hF (fun q => ⟨rfl, _, _, rfl, rfl, rfl, q⟩)) rfl (show sh_fit mX2_init mX4_init (32, 163) 3 from ⟨by decide, by decide, by decide, by decide, by decide⟩) (Or.inr ⟨(by simp [sh_noref] <;> omega), (by simp <;> omega)⟩) ?_
  rintro r σ' ⟨rfl, K, R, rfl, eK, eR, hF2⟩
  clear hF; have hF := hF2; clear hF2
  subst eK; subst eR
  refine sh_aast (pc := 41) dX2_init_41 ⟨by omega, is_48.2.1, by omega⟩ (by decide) (by decide) ⟨by omega, (is_P isP_79).2.1, by omega⟩ ?_
  replace hF := hF.p (o := 48) (f := 2) (q := 79) (by omega)
  refine k_iinc (pc := 42) [some (.inr 47), some (.inl 3)] dX2_init_42 rfl rfl (by decide) ?_
  refine sh_goto (pc := 45) (tgt := 24) dX2_init_45 (by decide) ?_
  refine sh_iload_n (pc := 24) dX2_init_24 rfl rfl ?_
  refine sh_iconst (pc := 25) (v := 4) dX2_init_25 rfl ?_
  refine sh_icmp_ge (pc := 26) (tgt := 48) dX2_init_26 (by decide) (bd_lit (by decide)) (bd_lit (by decide)) (fun q => absurd q (by decide)) (fun _ => ?_)
  refine sh_aload_n (pc := 29) dX2_init_29 rfl rfl ?_
  refine sh_getR (q := 48) (pc := 30) dX2_init_30 fl_X2_11 rfl ⟨by omega, is_47.2.1, by omega⟩ rfl ?_
  refine sh_iload_n (pc := 33) dX2_init_33 rfl rfl ?_
  refine sh_new (pc := 34) dX2_init_34 cl_X4 wk_X2_9 wn_X4 wi_X4 (is_P isP_94).2.1 (fun f => (hF _ (by omega)).1 f) (fun f => (hF _ (by omega)).2 f) (by decide +kernel) (by simp [sh_noref] <;> omega) (by simp <;> omega) (by decide) ?_
  replace hF := hF.s
  refine sh_dup (pc := 37) dX2_init_37 ?_
  refine sh_callIN (as := []) (pc := 38) dX2_init_38 lk_X2_24 (Q1 := fun r σ' => r = none ∧ ∃ K R, σ' = (109, K, R) ∧ K = _ ∧ R = _ ∧ Fr 109 K R) (i_4 isP_94 hF (fun q => ⟨rfl, _, _, rfl, rfl, rfl, q⟩)) rfl (show sh_fit mX2_init mX4_init (47, 240) 3 from ⟨by decide, by decide, by decide, by decide, by decide⟩) (Or.inr ⟨(by simp [sh_noref] <;> omega), (by simp <;> omega)⟩) ?_
  rintro r σ' ⟨rfl, K, R, rfl, eK, eR, hF2⟩
  clear hF; have hF := hF2; clear hF2
  subst eK; subst eR
  refine sh_aast (pc := 41) dX2_init_41 ⟨by omega, is_48.2.1, by omega⟩ (by decide) (by decide) ⟨by omega, (is_P isP_94).2.1, by omega⟩ ?_
  replace hF := hF.p (o := 48) (f := 3) (q := 94) (by omega)
  refine k_iinc (pc := 42) [some (.inr 47), some (.inl 4)] dX2_init_42 rfl rfl (by decide) ?_
  refine sh_goto (pc := 45) (tgt := 24) dX2_init_45 (by decide) ?_
  refine sh_iload_n (pc := 24) dX2_init_24 rfl rfl ?_
  refine sh_iconst (pc := 25) (v := 4) dX2_init_25 rfl ?_
  refine sh_icmp_ge (pc := 26) (tgt := 48) dX2_init_26 (by decide) (bd_lit (by decide)) (bd_lit (by decide)) (fun _ => ?_) (fun q => absurd q (by decide))
  refine sh_vret (st := []) (pc := 48) dX2_init_48 rfl ?_
  exact h hF
def iI6 (I : sh_Mem) : sh_Mem := sh_u (sh_u (sh_u (iI0 (iI1 (iI2 (iI4 (iI4 (iI4 I 2) 17) 32)))) 1 6 0) 1 7 (-5)) 1 8 (-5)
def iP6 (P : sh_Ptr) : sh_Ptr := sh_uP (iP0 (sh_uP (iP1 (sh_uP (iP2 (sh_uP (iP4 (sh_uP (iP4 (sh_uP (iP4 P 2) 1 0 2) 17) 1 1 17) 32) 1 2 32)) 1 3 47)) 1 4 109)) 1 5 114
theorem i_6 {I : sh_Mem} {P : sh_Ptr} {Q : Option Int → sh_St → Prop} (hF : Fr 2 I P) (h : Fr 119 (iI6 I) (iP6 P) → Q none (119, iI6 I, iP6 P)) : sh_C mX6_init [.inr 1] (2, I, P) Q := by
  refine sh_call (by decide +kernel) (Nat.le_refl 1) ?_
  show sh_O mX6_init 0 [some (.inr 1)] [] (0, 0) (2, I, P) Q
  refine sh_aload_n (pc := 0) dX6_init_0 rfl rfl ?_
  refine sh_objInit (pc := 1) dX6_init_1 wm_X6_3 wo_1 wo_2 (by decide) (by decide) (by decide) ?_
  refine sh_aload_n (pc := 4) dX6_init_4 rfl rfl ?_
  refine sh_new (pc := 5) dX6_init_5 cl_X4 wk_X6_9 wn_X4 wi_X4 (is_P isP_2).2.1 (fun f => (hF _ (by omega)).1 f) (fun f => (hF _ (by omega)).2 f) (by decide +kernel) (by simp [sh_noref] <;> omega) (by simp <;> omega) (by decide) ?_
  replace hF := hF.s
  refine sh_dup (pc := 8) dX6_init_8 ?_
  refine sh_callIN (as := []) (pc := 9) dX6_init_9 lk_X6_11 (Q1 := fun r σ' => r = none ∧ ∃ K R, σ' = (17, K, R) ∧ K = _ ∧ R = _ ∧ Fr 17 K R) (i_4 isP_2 hF (fun q => ⟨rfl, _, _, rfl, rfl, rfl, q⟩)) rfl (show sh_fit mX6_init mX4_init (1, 5) 2 from ⟨by decide, by decide, by decide, by decide, by decide⟩) (Or.inr ⟨(by simp [sh_noref] <;> omega), (by simp <;> omega)⟩) ?_
  rintro r σ' ⟨rfl, K, R, rfl, eK, eR, hF2⟩
  clear hF; have hF := hF2; clear hF2
  subst eK; subst eR
  refine sh_putRF (pc := 12) dX6_init_12 fl_X6_12 rfl (fun C T h => by rw [cl_X6.1] at h; cases h; rfl) rfl ⟨by omega, is_1.2.1, by omega⟩ (by omega) (fun _ => rfl) (fun _ => rfl) ?_
  replace hF := hF.p (o := 1) (f := 0) (q := 2) (by omega)
  refine sh_aload_n (pc := 15) dX6_init_15 rfl rfl ?_
  refine sh_new (pc := 16) dX6_init_16 cl_X4 wk_X6_9 wn_X4 wi_X4 (is_P isP_17).2.1 (fun f => (hF _ (by omega)).1 f) (fun f => (hF _ (by omega)).2 f) (by decide +kernel) (by simp [sh_noref] <;> omega) (by simp <;> omega) (by decide) ?_
  replace hF := hF.s
  refine sh_dup (pc := 19) dX6_init_19 ?_
  refine sh_callIN (as := []) (pc := 20) dX6_init_20 lk_X6_11 (Q1 := fun r σ' => r = none ∧ ∃ K R, σ' = (32, K, R) ∧ K = _ ∧ R = _ ∧ Fr 32 K R) (i_4 isP_17 hF (fun q => ⟨rfl, _, _, rfl, rfl, rfl, q⟩)) rfl (show sh_fit mX6_init mX4_init (16, 82) 2 from ⟨by decide, by decide, by decide, by decide, by decide⟩) (Or.inr ⟨(by simp [sh_noref] <;> omega), (by simp <;> omega)⟩) ?_
  rintro r σ' ⟨rfl, K, R, rfl, eK, eR, hF2⟩
  clear hF; have hF := hF2; clear hF2
  subst eK; subst eR
  refine sh_putRF (pc := 23) dX6_init_23 fl_X6_16 rfl (fun C T h => by rw [cl_X6.1] at h; cases h; rfl) rfl ⟨by omega, is_1.2.1, by omega⟩ (by omega) (fun _ => rfl) (fun _ => rfl) ?_
  replace hF := hF.p (o := 1) (f := 1) (q := 17) (by omega)
  refine sh_aload_n (pc := 26) dX6_init_26 rfl rfl ?_
  refine sh_new (pc := 27) dX6_init_27 cl_X4 wk_X6_9 wn_X4 wi_X4 (is_P isP_32).2.1 (fun f => (hF _ (by omega)).1 f) (fun f => (hF _ (by omega)).2 f) (by decide +kernel) (by simp [sh_noref] <;> omega) (by simp <;> omega) (by decide) ?_
  replace hF := hF.s
  refine sh_dup (pc := 30) dX6_init_30 ?_
  refine sh_callIN (as := []) (pc := 31) dX6_init_31 lk_X6_11 (Q1 := fun r σ' => r = none ∧ ∃ K R, σ' = (47, K, R) ∧ K = _ ∧ R = _ ∧ Fr 47 K R) (i_4 isP_32 hF (fun q => ⟨rfl, _, _, rfl, rfl, rfl, q⟩)) rfl (show sh_fit mX6_init mX4_init (31, 159) 2 from ⟨by decide, by decide, by decide, by decide, by decide⟩) (Or.inr ⟨(by simp [sh_noref] <;> omega), (by simp <;> omega)⟩) ?_
  rintro r σ' ⟨rfl, K, R, rfl, eK, eR, hF2⟩
  clear hF; have hF := hF2; clear hF2
  subst eK; subst eR
  refine sh_putRF (pc := 34) dX6_init_34 fl_X6_19 rfl (fun C T h => by rw [cl_X6.1] at h; cases h; rfl) rfl ⟨by omega, is_1.2.1, by omega⟩ (by omega) (fun _ => rfl) (fun _ => rfl) ?_
  replace hF := hF.p (o := 1) (f := 2) (q := 32) (by omega)
  refine sh_aload_n (pc := 37) dX6_init_37 rfl rfl ?_
  refine sh_new (pc := 38) dX6_init_38 cl_X2 wk_X6_22 wn_X2 wi_X2 is_47.2.1 (fun f => (hF _ (by omega)).1 f) (fun f => (hF _ (by omega)).2 f) (by decide +kernel) (by simp [sh_noref] <;> omega) (by simp <;> omega) (by decide) ?_
  replace hF := hF.s
  refine sh_dup (pc := 41) dX6_init_41 ?_
  refine sh_callI (as := []) (pc := 42) dX6_init_42 lk_X6_24 (Q1 := fun r σ' => r = none ∧ ∃ K R, σ' = (109, K, R) ∧ K = _ ∧ R = _ ∧ Fr 109 K R) (i_2 hF (fun q => ⟨rfl, _, _, rfl, rfl, rfl, q⟩)) rfl (show sh_fit mX6_init mX2_init (46, 234) 2 from ⟨by decide, by decide, by decide, by decide, by decide⟩) (Or.inr ⟨(by simp [sh_noref] <;> omega), (by simp <;> omega)⟩) ?_
  rintro r σ' ⟨rfl, K, R, rfl, eK, eR, hF2⟩
  clear hF; have hF := hF2; clear hF2
  subst eK; subst eR
  refine sh_putRF (pc := 45) dX6_init_45 fl_X6_25 rfl (fun C T h => by rw [cl_X6.1] at h; cases h; rfl) rfl ⟨by omega, is_1.2.1, by omega⟩ (by omega) (fun _ => rfl) (fun _ => rfl) ?_
  replace hF := hF.p (o := 1) (f := 3) (q := 47) (by omega)
  refine sh_aload_n (pc := 48) dX6_init_48 rfl rfl ?_
  refine sh_new (pc := 49) dX6_init_49 cl_X1 wk_X6_29 wn_X1 wi_X1 is_109.2.1 (fun f => (hF _ (by omega)).1 f) (fun f => (hF _ (by omega)).2 f) (by decide +kernel) (by simp [sh_noref] <;> omega) (by simp <;> omega) (by decide) ?_
  replace hF := hF.s
  refine sh_dup (pc := 52) dX6_init_52 ?_
  refine sh_callIN (as := []) (pc := 53) dX6_init_53 lk_X6_31 (Q1 := fun r σ' => r = none ∧ ∃ K R, σ' = (114, K, R) ∧ K = _ ∧ R = _ ∧ Fr 114 K R) (i_1 hF (fun q => ⟨rfl, _, _, rfl, rfl, rfl, q⟩)) rfl (show sh_fit mX6_init mX1_init (108, 553) 2 from ⟨by decide, by decide, by decide, by decide, by decide⟩) (Or.inr ⟨(by simp [sh_noref] <;> omega), (by simp <;> omega)⟩) ?_
  rintro r σ' ⟨rfl, K, R, rfl, eK, eR, hF2⟩
  clear hF; have hF := hF2; clear hF2
  subst eK; subst eR
  refine sh_putRF (pc := 56) dX6_init_56 fl_X6_32 rfl (fun C T h => by rw [cl_X6.1] at h; cases h; rfl) rfl ⟨by omega, is_1.2.1, by omega⟩ (by omega) (fun _ => rfl) (fun _ => rfl) ?_
  replace hF := hF.p (o := 1) (f := 4) (q := 109) (by omega)
  refine sh_aload_n (pc := 59) dX6_init_59 rfl rfl ?_
  refine sh_new (pc := 60) dX6_init_60 cl_X0 wk_X6_36 wn_X0 wi_X0 is_114.2.1 (fun f => (hF _ (by omega)).1 f) (fun f => (hF _ (by omega)).2 f) (by decide +kernel) (by simp [sh_noref] <;> omega) (by simp <;> omega) (by decide) ?_
  replace hF := hF.s
  refine sh_dup (pc := 63) dX6_init_63 ?_
  refine sh_callIN (as := []) (pc := 64) dX6_init_64 lk_X6_38 (Q1 := fun r σ' => r = none ∧ ∃ K R, σ' = (119, K, R) ∧ K = _ ∧ R = _ ∧ Fr 119 K R) (i_0 hF (fun q => ⟨rfl, _, _, rfl, rfl, rfl, q⟩)) rfl (show sh_fit mX6_init mX0_init (113, 678) 2 from ⟨by decide, by decide, by decide, by decide, by decide⟩) (Or.inr ⟨(by simp [sh_noref] <;> omega), (by simp <;> omega)⟩) ?_
  rintro r σ' ⟨rfl, K, R, rfl, eK, eR, hF2⟩
  clear hF; have hF := hF2; clear hF2
  subst eK; subst eR
  refine sh_putRF (pc := 67) dX6_init_67 fl_X6_39 rfl (fun C T h => by rw [cl_X6.1] at h; cases h; rfl) rfl ⟨by omega, is_1.2.1, by omega⟩ (by omega) (fun _ => rfl) (fun _ => rfl) ?_
  replace hF := hF.p (o := 1) (f := 5) (q := 114) (by omega)
  refine sh_aload_n (pc := 70) dX6_init_70 rfl rfl ?_
  refine sh_iconst (pc := 71) (v := 0) dX6_init_71 rfl ?_
  refine sh_putI (pc := 72) dX6_init_72 fl_X6_43 rfl ⟨by omega, is_1.2.1, by omega⟩ rfl (by decide) (by decide) ?_
  replace hF := hF.u (o := 1) (f := 6) (v := 0) (by omega)
  refine sh_aload_n (pc := 75) dX6_init_75 rfl rfl ?_
  refine sh_bipush (pc := 76) (v := -5) dX6_init_76 (by decide) ?_
  refine sh_putI (pc := 78) dX6_init_78 fl_X6_47 rfl ⟨by omega, is_1.2.1, by omega⟩ rfl (by decide) (by decide) ?_
  replace hF := hF.u (o := 1) (f := 7) (v := (-5)) (by omega)
  refine sh_aload_n (pc := 81) dX6_init_81 rfl rfl ?_
  refine sh_bipush (pc := 82) (v := -5) dX6_init_82 (by decide) ?_
  refine sh_putI (pc := 84) dX6_init_84 fl_X6_51 rfl ⟨by omega, is_1.2.1, by omega⟩ rfl (by decide) (by decide) ?_
  replace hF := hF.u (o := 1) (f := 8) (v := (-5)) (by omega)
  refine sh_vret (st := []) (pc := 87) dX6_init_87 rfl ?_
  exact h hF
