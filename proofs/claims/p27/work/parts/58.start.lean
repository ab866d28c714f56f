/-! ===== 58: the start ===== -/
theorem vP_zero {I : sh_Mem} {b : Nat} (h : ∀ k, b ≤ k → ∀ f, I k f = 0) : vP I b = fun _ _ => 0 := by
  funext j i
  simp only [vP]
  split
  · rename_i hd
    exact h _ (lo1_in hd).1 _
  · rfl
def VP0 : Vw := (up (up (up (up (up (up (up (up (up (up (up (up (up (up (up (up (up (up (up (up (up (fun _ _ => 0) 0 6 (0)) 0 1 (-5)) 0 2 (0)) 0 3 (0)) 0 4 (0)) 2 0 0) 2 1 1) 2 2 2) 3 0 1) 3 1 1) 3 2 1) 4 0 0) 4 1 0) 4 2 0) 5 0 1) 5 1 1) 5 2 1) 1 0 3) 1 1 0) 0 0 0) 0 5 0)
theorem V0_same : VP0 = VM0 := by
  funext j i
  simp only [VP0, VM0, up]
  by_cases h2 : j = 2
  · subst h2
    by_cases a : i = 0
    · subst a; rfl
    · by_cases b : i = 1
      · subst b; rfl
      · by_cases c : i = 2
        · subst c; rfl
        · simp [a, b, c]
  · by_cases h3 : j = 3
    · subst h3
      by_cases a : i = 0
      · subst a; rfl
      · by_cases b : i = 1
        · subst b; rfl
        · by_cases c : i = 2
          · subst c; rfl
          · simp [a, b, c]
    · by_cases h4 : j = 4
      · subst h4
        by_cases a : i = 0
        · subst a; rfl
        · by_cases b : i = 1
          · subst b; rfl
          · by_cases c : i = 2
            · subst c; rfl
            · simp [a, b, c]
      · by_cases h5 : j = 5
        · subst h5
          by_cases a : i = 0
          · subst a; rfl
          · by_cases b : i = 1
            · subst b; rfl
            · by_cases c : i = 2
              · subst c; rfl
              · simp [a, b, c]
        · by_cases h0 : j = 0
          · subst h0
            by_cases a : i = 1
            · subst a; rfl
            · simp [a]
          · by_cases h1 : j = 1
            · subst h1
              by_cases a : i = 0
              · subst a; rfl
              · simp [a]
            · simp [h0, h1, h2, h3, h4, h5]
theorem iI5_v {I : sh_Mem} {b : Nat} : vP (iI5 I b) b = up (up (up (up (up (vP I b) 0 6 0) 0 1 (-5)) 0 2 0) 0 3 0) 0 4 0 := by
  unfold iI5
  rw [wP0_4, wP0_3, wP0_2, wP0_1, wP0_6]
theorem iI4_v {I : sh_Mem} {b : Nat} (h : ∀ k, b ≤ k → ∀ f, I k f = 0) : vP (iI4 I b) b = VP0 := by
  unfold iI4
  rw [wP0_5, wP0_0, wP1 (I := sh_u (iI3 (iI5 I b) b) (b + 14) 0 3) (i := 1) (by decide), wP1 (I := iI3 (iI5 I b) b) (i := 0) (by decide)]
  unfold iI3
  rw [wP5 (i := 2) (by decide), wP5 (i := 1) (by decide), wP5 (i := 0) (by decide), wP4 (i := 2) (by decide), wP4 (i := 1) (by decide), wP4 (i := 0) (by decide), wP3 (i := 2) (by decide), wP3 (i := 1) (by decide), wP3 (i := 0) (by decide), wP2 (i := 2) (by decide), wP2 (i := 1) (by decide), wP2 (i := 0) (by decide), iI5_v, vP_zero h]
  rfl
theorem iI4_off {I : sh_Mem} {b o : Nat} (h : o < b ∨ b + 15 ≤ o) : iI4 I b o = I o := by
  unfold iI4 iI3 iI5
  repeat rw [sh_u_ne (by omega)]
theorem iI2_off {I : sh_Mem} {o : Nat} (h : o < 47 ∨ 109 ≤ o) : iI2 I o = I o := by
  unfold iI2
  rw [iI4_off (by omega), iI4_off (by omega), iI4_off (by omega), iI4_off (by omega), sh_u_ne (by omega), sh_u_ne (by omega)]
theorem iI2_47 {I : sh_Mem} : iI2 I 47 1 = 0 ∧ iI2 I 47 2 = 0 := by
  unfold iI2
  rw [iI4_off (by omega), iI4_off (by omega), iI4_off (by omega), iI4_off (by omega)]
  exact ⟨by simp [sh_u], by simp [sh_u]⟩
theorem iI1_off {I : sh_Mem} {o : Nat} (h : o ≠ 109) : iI1 I o = I o := by
  unfold iI1
  repeat rw [sh_u_ne h]
theorem iI0_off {I : sh_Mem} {o : Nat} (h : o ≠ 114) : iI0 I o = I o := by
  unfold iI0
  repeat rw [sh_u_ne h]
/-- the class is made -/
theorem ci_start {I : sh_Mem} (h0 : ∀ k, 1 ≤ k → ∀ f, I k f = 0) : CI (iI6 I) VM0 ∧ iI6 I 0 = I 0 := by
  have low : ∀ o, o ≠ 1 → o < 109 → iI6 I o = iI2 (iI4 (iI4 (iI4 I 2) 17) 32) o := fun o h1 h2 => by
    unfold iI6
    rw [sh_u_ne h1, sh_u_ne h1, sh_u_ne h1, iI0_off (by omega), iI1_off (by omega)]
  have eP : vP (iI6 I) oP = VP0 := by
    rw [← iI4_v (I := I) (b := 2) (fun k hk f => h0 k (by omega) f), oP_v]
    exact vP_same fun o h1 h2 => by rw [low o (by omega) (by omega), iI2_off (by omega), iI4_off (by omega), iI4_off (by omega)]
  have c47 : iI6 I 47 1 = 0 ∧ iI6 I 47 2 = 0 := by
    rw [low 47 (by decide) (by decide)]
    exact iI2_47
  refine ⟨⟨by rw [eP]; exact V0_same, VM0_wb, by omega, by omega⟩, ?_⟩
  rw [low 0 (by decide) (by decide), iI2_off (by omega), iI4_off (by omega), iI4_off (by omega), iI4_off (by omega)]
theorem iP_all : iP6 (fun _ _ => none) = sh_PT := rfl
