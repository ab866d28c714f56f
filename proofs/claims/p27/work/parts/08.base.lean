/-! ===== 08: where the objects are; runs and calls of the made system ===== -/
def sh_PT : sh_Ptr := (sh_uP (sh_uP (sh_uP (sh_uP (sh_uP (sh_uP (sh_uP (sh_uP (sh_uP (sh_uP (sh_uP (sh_uP (sh_uP (sh_uP (sh_uP (sh_uP (sh_uP (sh_uP (sh_uP (sh_uP (sh_uP (sh_uP (sh_uP (sh_uP (sh_uP (sh_uP (sh_uP (sh_uP (sh_uP (sh_uP (sh_uP (sh_uP (sh_uP (sh_uP (sh_uP (sh_uP (sh_uP (sh_uP (sh_uP (sh_uP (sh_uP (sh_uP (sh_uP (sh_uP (sh_uP (sh_uP (sh_uP (sh_uP (sh_uP (sh_uP (sh_uP (sh_uP (sh_uP (sh_uP (sh_uP (sh_uP (sh_uP (sh_uP (sh_uP (sh_uP (sh_uP (sh_uP (sh_uP (sh_uP (sh_uP (sh_uP (sh_uP (sh_uP (sh_uP (sh_uP (sh_uP (sh_uP (sh_uP (sh_uP (sh_uP (sh_uP (sh_uP (sh_uP (sh_uP (sh_uP (sh_uP (sh_uP (sh_uP (sh_uP (sh_uP (sh_uP (sh_uP (sh_uP (sh_uP (sh_uP (sh_uP (sh_uP (sh_uP (sh_uP (sh_uP (sh_uP (sh_uP (sh_uP (sh_uP (sh_uP (sh_uP (sh_uP (sh_uP (sh_uP (sh_uP (sh_uP (sh_uP (sh_uP (sh_uP (sh_uP (sh_uP (sh_uP (sh_uP (sh_uP (sh_uP (sh_uP (sh_uP (fun _ _ => none) 3 0 4) 3 1 5) 3 2 6) 3 3 7) 3 4 8) 3 5 9) 3 6 10) 2 0 3) 11 0 12) 11 1 13) 11 2 14) 11 3 15) 2 1 11) 2 2 16) 1 0 2) 18 0 19) 18 1 20) 18 2 21) 18 3 22) 18 4 23) 18 5 24) 18 6 25) 17 0 18) 26 0 27) 26 1 28) 26 2 29) 26 3 30) 17 1 26) 17 2 31) 1 1 17) 33 0 34) 33 1 35) 33 2 36) 33 3 37) 33 4 38) 33 5 39) 33 6 40) 32 0 33) 41 0 42) 41 1 43) 41 2 44) 41 3 45) 32 1 41) 32 2 46) 1 2 32) 47 0 48) 50 0 51) 50 1 52) 50 2 53) 50 3 54) 50 4 55) 50 5 56) 50 6 57) 49 0 50) 58 0 59) 58 1 60) 58 2 61) 58 3 62) 49 1 58) 49 2 63) 48 0 49) 65 0 66) 65 1 67) 65 2 68) 65 3 69) 65 4 70) 65 5 71) 65 6 72) 64 0 65) 73 0 74) 73 1 75) 73 2 76) 73 3 77) 64 1 73) 64 2 78) 48 1 64) 80 0 81) 80 1 82) 80 2 83) 80 3 84) 80 4 85) 80 5 86) 80 6 87) 79 0 80) 88 0 89) 88 1 90) 88 2 91) 88 3 92) 79 1 88) 79 2 93) 48 2 79) 95 0 96) 95 1 97) 95 2 98) 95 3 99) 95 4 100) 95 5 101) 95 6 102) 94 0 95) 103 0 104) 103 1 105) 103 2 106) 103 3 107) 94 1 103) 94 2 108) 48 3 94) 1 3 47) 109 0 110) 109 3 111) 109 4 112) 109 5 113) 1 4 109) 114 0 115) 114 1 116) 114 2 117) 114 3 118) 1 5 114)
theorem uP_lt {P : sh_Ptr} {a b q n : Nat} (hq : q < n) (h : ∀ o f x, P o f = some x → x < n) : ∀ o f x, sh_uP P a b q o f = some x → x < n := fun o f x e => by
  simp only [sh_uP] at e
  split at e
  · cases e
    exact hq
  · exact h o f x e
theorem sh_PT_lt : ∀ o f x, sh_PT o f = some x → x < 119 := (uP_lt (by decide) (uP_lt (by decide) (uP_lt (by decide) (uP_lt (by decide) (uP_lt (by decide) (uP_lt (by decide) (uP_lt (by decide) (uP_lt (by decide) (uP_lt (by decide) (uP_lt (by decide) (uP_lt (by decide) (uP_lt (by decide) (uP_lt (by decide) (uP_lt (by decide) (uP_lt (by decide) (uP_lt (by decide) (uP_lt (by decide) (uP_lt (by decide) (uP_lt (by decide) (uP_lt (by decide) (uP_lt (by decide) (uP_lt (by decide) (uP_lt (by decide) (uP_lt (by decide) (uP_lt (by decide) (uP_lt (by decide) (uP_lt (by decide) (uP_lt (by decide) (uP_lt (by decide) (uP_lt (by decide) (uP_lt (by decide) (uP_lt (by decide) (uP_lt (by decide) (uP_lt (by decide) (uP_lt (by decide) (uP_lt (by decide) (uP_lt (by decide) (uP_lt (by decide) (uP_lt (by decide) (uP_lt (by decide) (uP_lt (by decide) (uP_lt (by decide) (uP_lt (by decide) (uP_lt (by decide) (uP_lt (by decide) (uP_lt (by decide) (uP_lt (by decide) (uP_lt (by decide) (uP_lt (by decide) (uP_lt (by decide) (uP_lt (by decide) (uP_lt (by decide) (uP_lt (by decide) (uP_lt (by decide) (uP_lt (by decide) (uP_lt (by decide) (uP_lt (by decide) (uP_lt (by decide) (uP_lt (by decide) (uP_lt (by decide) (uP_lt (by decide) (uP_lt (by decide) (uP_lt (by decide) (uP_lt (by decide) (uP_lt (by decide) (uP_lt (by decide) (uP_lt (by decide) (uP_lt (by decide) (uP_lt (by decide) (uP_lt (by decide) (uP_lt (by decide) (uP_lt (by decide) (uP_lt (by decide) (uP_lt (by decide) (uP_lt (by decide) (uP_lt (by decide) (uP_lt (by decide) (uP_lt (by decide) (uP_lt (by decide) (uP_lt (by decide) (uP_lt (by decide) (uP_lt (by decide) (uP_lt (by decide) (uP_lt (by decide) (uP_lt (by decide) (uP_lt (by decide) (uP_lt (by decide) (uP_lt (by decide) (uP_lt (by decide) (uP_lt (by decide) (uP_lt (by decide) (uP_lt (by decide) (uP_lt (by decide) (uP_lt (by decide) (uP_lt (by decide) (uP_lt (by decide) (uP_lt (by decide) (uP_lt (by decide) (uP_lt (by decide) (uP_lt (by decide) (uP_lt (by decide) (uP_lt (by decide) (uP_lt (by decide) (uP_lt (by decide) (uP_lt (by decide) (uP_lt (by decide) (uP_lt (by decide) (uP_lt (by decide) (uP_lt (by decide) (uP_lt (by decide) (uP_lt (by decide) (uP_lt (by decide) (uP_lt (by decide) (uP_lt (by decide) (uP_lt (by decide) (uP_lt (by decide) (uP_lt (by decide) (fun _ _ _ e => by cases e))))))))))))))))))))))))))))))))))))))))))))))))))))))))))))))))))))))))))))))))))))))))))))))))))))))))))))))))))))))
def sh_isP (b : Nat) : Prop := b = 2 ∨ b = 17 ∨ b = 32 ∨ b = 49 ∨ b = 64 ∨ b = 79 ∨ b = 94
def oP : Nat := 2
theorem isP_oP : sh_isP oP := by simp [sh_isP, oP]
def oT : Nat := 17
theorem isP_oT : sh_isP oT := by simp [sh_isP, oT]
def oS : Nat := 32
theorem isP_oS : sh_isP oS := by simp [sh_isP, oS]
theorem sh_isI {o ci k : Nat} (h : decide (o < 119) && decide (sh_KD o = (ci, k)) && decide (0 < o) = true) : sh_is 119 o ci k := by
  simp only [Bool.and_eq_true, decide_eq_true_eq] at h
  exact ⟨h.1.1, h.1.2, h.2⟩
theorem is_P {b : Nat} (h : sh_isP b) : sh_is 119 b 4 5 := by
  rcases h with rfl | rfl | rfl | rfl | rfl | rfl | rfl <;> exact sh_isI (by decide +kernel)
theorem is_R {b : Nat} (h : sh_isP b) : sh_is 119 (b + 1) 5 12 := by
  rcases h with rfl | rfl | rfl | rfl | rfl | rfl | rfl <;> exact sh_isI (by decide +kernel)
theorem is_P2 {b : Nat} (h : sh_isP b) : sh_is 119 (b + 2) 8 6 := by
  rcases h with rfl | rfl | rfl | rfl | rfl | rfl | rfl <;> exact sh_isI (by decide +kernel)
theorem is_P3 {b : Nat} (h : sh_isP b) : sh_is 119 (b + 3) 8 6 := by
  rcases h with rfl | rfl | rfl | rfl | rfl | rfl | rfl <;> exact sh_isI (by decide +kernel)
theorem is_P4 {b : Nat} (h : sh_isP b) : sh_is 119 (b + 4) 8 6 := by
  rcases h with rfl | rfl | rfl | rfl | rfl | rfl | rfl <;> exact sh_isI (by decide +kernel)
theorem is_P5 {b : Nat} (h : sh_isP b) : sh_is 119 (b + 5) 8 6 := by
  rcases h with rfl | rfl | rfl | rfl | rfl | rfl | rfl <;> exact sh_isI (by decide +kernel)
theorem is_P6 {b : Nat} (h : sh_isP b) : sh_is 119 (b + 6) 8 6 := by
  rcases h with rfl | rfl | rfl | rfl | rfl | rfl | rfl <;> exact sh_isI (by decide +kernel)
theorem is_P7 {b : Nat} (h : sh_isP b) : sh_is 119 (b + 7) 8 6 := by
  rcases h with rfl | rfl | rfl | rfl | rfl | rfl | rfl <;> exact sh_isI (by decide +kernel)
theorem is_P8 {b : Nat} (h : sh_isP b) : sh_is 119 (b + 8) 8 6 := by
  rcases h with rfl | rfl | rfl | rfl | rfl | rfl | rfl <;> exact sh_isI (by decide +kernel)
theorem is_L {b : Nat} (h : sh_isP b) : sh_is 119 (b + 9) 3 4 := by
  rcases h with rfl | rfl | rfl | rfl | rfl | rfl | rfl <;> exact sh_isI (by decide +kernel)
theorem is_P10 {b : Nat} (h : sh_isP b) : sh_is 119 (b + 10) 8 3 := by
  rcases h with rfl | rfl | rfl | rfl | rfl | rfl | rfl <;> exact sh_isI (by decide +kernel)
theorem is_P11 {b : Nat} (h : sh_isP b) : sh_is 119 (b + 11) 8 3 := by
  rcases h with rfl | rfl | rfl | rfl | rfl | rfl | rfl <;> exact sh_isI (by decide +kernel)
theorem is_P12 {b : Nat} (h : sh_isP b) : sh_is 119 (b + 12) 8 3 := by
  rcases h with rfl | rfl | rfl | rfl | rfl | rfl | rfl <;> exact sh_isI (by decide +kernel)
theorem is_P13 {b : Nat} (h : sh_isP b) : sh_is 119 (b + 13) 8 3 := by
  rcases h with rfl | rfl | rfl | rfl | rfl | rfl | rfl <;> exact sh_isI (by decide +kernel)
theorem is_P14 {b : Nat} (h : sh_isP b) : sh_is 119 (b + 14) 8 2 := by
  rcases h with rfl | rfl | rfl | rfl | rfl | rfl | rfl <;> exact sh_isI (by decide +kernel)
theorem pt_P0 {b : Nat} (h : sh_isP b) : sh_PT b 0 = some (b + 1) := by
  rcases h with rfl | rfl | rfl | rfl | rfl | rfl | rfl <;> decide +kernel
theorem pt_P1 {b : Nat} (h : sh_isP b) : sh_PT b 1 = some (b + 9) := by
  rcases h with rfl | rfl | rfl | rfl | rfl | rfl | rfl <;> decide +kernel
theorem pt_P2 {b : Nat} (h : sh_isP b) : sh_PT b 2 = some (b + 14) := by
  rcases h with rfl | rfl | rfl | rfl | rfl | rfl | rfl <;> decide +kernel
theorem pt_R0 {b : Nat} (h : sh_isP b) : sh_PT (b + 1) 0 = some (b + 2) := by
  rcases h with rfl | rfl | rfl | rfl | rfl | rfl | rfl <;> decide +kernel
theorem pt_R1 {b : Nat} (h : sh_isP b) : sh_PT (b + 1) 1 = some (b + 3) := by
  rcases h with rfl | rfl | rfl | rfl | rfl | rfl | rfl <;> decide +kernel
theorem pt_R2 {b : Nat} (h : sh_isP b) : sh_PT (b + 1) 2 = some (b + 4) := by
  rcases h with rfl | rfl | rfl | rfl | rfl | rfl | rfl <;> decide +kernel
theorem pt_R3 {b : Nat} (h : sh_isP b) : sh_PT (b + 1) 3 = some (b + 5) := by
  rcases h with rfl | rfl | rfl | rfl | rfl | rfl | rfl <;> decide +kernel
theorem pt_R4 {b : Nat} (h : sh_isP b) : sh_PT (b + 1) 4 = some (b + 6) := by
  rcases h with rfl | rfl | rfl | rfl | rfl | rfl | rfl <;> decide +kernel
theorem pt_R5 {b : Nat} (h : sh_isP b) : sh_PT (b + 1) 5 = some (b + 7) := by
  rcases h with rfl | rfl | rfl | rfl | rfl | rfl | rfl <;> decide +kernel
theorem pt_R6 {b : Nat} (h : sh_isP b) : sh_PT (b + 1) 6 = some (b + 8) := by
  rcases h with rfl | rfl | rfl | rfl | rfl | rfl | rfl <;> decide +kernel
theorem pt_L0 {b : Nat} (h : sh_isP b) : sh_PT (b + 9) 0 = some (b + 10) := by
  rcases h with rfl | rfl | rfl | rfl | rfl | rfl | rfl <;> decide +kernel
theorem pt_L1 {b : Nat} (h : sh_isP b) : sh_PT (b + 9) 1 = some (b + 11) := by
  rcases h with rfl | rfl | rfl | rfl | rfl | rfl | rfl <;> decide +kernel
theorem pt_L2 {b : Nat} (h : sh_isP b) : sh_PT (b + 9) 2 = some (b + 12) := by
  rcases h with rfl | rfl | rfl | rfl | rfl | rfl | rfl <;> decide +kernel
theorem pt_L3 {b : Nat} (h : sh_isP b) : sh_PT (b + 9) 3 = some (b + 13) := by
  rcases h with rfl | rfl | rfl | rfl | rfl | rfl | rfl <;> decide +kernel
theorem is_1 : sh_is 119 1 6 9 := sh_isI (by decide +kernel)
theorem is_47 : sh_is 119 47 2 3 := sh_isI (by decide +kernel)
theorem is_48 : sh_is 119 48 11 4 := sh_isI (by decide +kernel)
theorem is_109 : sh_is 119 109 1 7 := sh_isI (by decide +kernel)
theorem is_110 : sh_is 119 110 10 60 := sh_isI (by decide +kernel)
theorem is_111 : sh_is 119 111 8 20 := sh_isI (by decide +kernel)
theorem is_112 : sh_is 119 112 8 20 := sh_isI (by decide +kernel)
theorem is_113 : sh_is 119 113 8 20 := sh_isI (by decide +kernel)
theorem is_114 : sh_is 119 114 0 5 := sh_isI (by decide +kernel)
theorem is_115 : sh_is 119 115 9 100 := sh_isI (by decide +kernel)
theorem is_116 : sh_is 119 116 9 100 := sh_isI (by decide +kernel)
theorem is_117 : sh_is 119 117 8 100 := sh_isI (by decide +kernel)
theorem is_118 : sh_is 119 118 8 100 := sh_isI (by decide +kernel)
theorem pt_1_0 : sh_PT 1 0 = some oP := by decide +kernel
theorem pt_1_1 : sh_PT 1 1 = some oT := by decide +kernel
theorem pt_1_2 : sh_PT 1 2 = some oS := by decide +kernel
theorem pt_47_0 : sh_PT 47 0 = some 48 := by decide +kernel
theorem pt_48_0 : sh_PT 48 0 = some 49 := by decide +kernel
theorem pt_48_1 : sh_PT 48 1 = some 64 := by decide +kernel
theorem pt_48_2 : sh_PT 48 2 = some 79 := by decide +kernel
theorem pt_48_3 : sh_PT 48 3 = some 94 := by decide +kernel
theorem pt_1_3 : sh_PT 1 3 = some 47 := by decide +kernel
theorem pt_109_0 : sh_PT 109 0 = some 110 := by decide +kernel
theorem pt_109_3 : sh_PT 109 3 = some 111 := by decide +kernel
theorem pt_109_4 : sh_PT 109 4 = some 112 := by decide +kernel
theorem pt_109_5 : sh_PT 109 5 = some 113 := by decide +kernel
theorem pt_1_4 : sh_PT 1 4 = some 109 := by decide +kernel
theorem pt_114_0 : sh_PT 114 0 = some 115 := by decide +kernel
theorem pt_114_1 : sh_PT 114 1 = some 116 := by decide +kernel
theorem pt_114_2 : sh_PT 114 2 = some 117 := by decide +kernel
theorem pt_114_3 : sh_PT 114 3 = some 118 := by decide +kernel
theorem pt_1_5 : sh_PT 1 5 = some 114 := by decide +kernel
theorem isP_2 : sh_isP 2 := by simp [sh_isP]
theorem isP_17 : sh_isP 17 := by simp [sh_isP]
theorem isP_32 : sh_isP 32 := by simp [sh_isP]
theorem isP_49 : sh_isP 49 := by simp [sh_isP]
theorem isP_64 : sh_isP 64 := by simp [sh_isP]
theorem isP_79 : sh_isP 79 := by simp [sh_isP]
theorem isP_94 : sh_isP 94 := by simp [sh_isP]
abbrev sh_S (I : sh_Mem) : sh_St := (119, I, sh_PT)
def qi (Q : Int → sh_Mem → Prop) (r : Option Int) (σ : sh_St) : Prop := ∃ I v, σ = sh_S I ∧ r = some v ∧ Q v I
def qv (Q : sh_Mem → Prop) (r : Option Int) (σ : sh_St) : Prop := ∃ I, σ = sh_S I ∧ r = none ∧ Q I
/-- from this place of y on, over the memory I -/
abbrev kk (y : sh_M) (pc : Nat) (ls : List (Option sh_V)) (st : List sh_V) (I : sh_Mem) (Q : Option Int → sh_St → Prop) : Prop := sh_O y pc ls st (0, 0) (sh_S I) Q
/-- a call of y over the memory I -/
abbrev cc (y : sh_M) (as : List sh_V) (I : sh_Mem) (Q : Option Int → sh_St → Prop) : Prop := sh_C y as (sh_S I) Q
theorem qi_mono {Q Q' : Int → sh_Mem → Prop} (h : ∀ v I, Q v I → Q' v I) (r : Option Int) (σ : sh_St) (q : qi Q r σ) : qi Q' r σ := by
  obtain ⟨I, v, h1, h2, h3⟩ := q
  exact ⟨I, v, h1, h2, h v I h3⟩
theorem qv_mono {Q Q' : sh_Mem → Prop} (h : ∀ I, Q I → Q' I) (r : Option Int) (σ : sh_St) (q : qv Q r σ) : qv Q' r σ := by
  obtain ⟨I, h1, h2, h3⟩ := q
  exact ⟨I, h1, h2, h I h3⟩
theorem ci_mono {y : sh_M} {as : List sh_V} {I : sh_Mem} {Q Q' : Int → sh_Mem → Prop} (c : cc y as I (qi Q)) (h : ∀ v I1, Q v I1 → Q' v I1) : cc y as I (qi Q') := c.mono (qi_mono h)
theorem cv_mono {y : sh_M} {as : List sh_V} {I : sh_Mem} {Q Q' : sh_Mem → Prop} (c : cc y as I (qv Q)) (h : ∀ I1, Q I1 → Q' I1) : cc y as I (qv Q') := c.mono (qv_mono h)
theorem sub_nil {b : List (Option sh_V)} : ∀ (i : Nat) (v : sh_V), ([] : List (Option sh_V))[i]? = some (some v) → b[i]? = some (some v) := fun i v h => by simp at h
theorem sub_none {w : Option sh_V} {a b : List (Option sh_V)} (h : ∀ (i : Nat) (v : sh_V), a[i]? = some (some v) → b[i]? = some (some v)) : ∀ (i : Nat) (v : sh_V), (none :: a)[i]? = some (some v) → (w :: b)[i]? = some (some v) := fun i v q => by
  cases i with
  | zero => simp at q
  | succ i => exact h i v q
theorem sub_some {w : sh_V} {a b : List (Option sh_V)} (h : ∀ (i : Nat) (v : sh_V), a[i]? = some (some v) → b[i]? = some (some v)) : ∀ (i : Nat) (v : sh_V), (some w :: a)[i]? = some (some v) → (some w :: b)[i]? = some (some v) := fun i v q => by
  cases i with
  | zero => exact q
  | succ i => exact h i v q
def sh_01 (v : Int) : Prop := v = 0 ∨ v = 1
theorem nar01 {v : Int} (h : sh_01 v) : narrow .boolean (.int (Int32.ofInt v)) = .int (Int32.ofInt v) := by rcases h with rfl | rfl <;> rfl
theorem bd_lit {a : Int} (h : decide (-2147483648 ≤ a) && decide (a < 2147483648) = true) : sh_Bd a := by
  simp only [Bool.and_eq_true, decide_eq_true_eq] at h
  exact h
