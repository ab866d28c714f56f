/-! ===== 20: a state as a table: row 0 what is single (turn, catcher, tags, steps, stops, turned, many), row 1 settings, rows 2 to 5 lamps, rows 6 to 12 runners ===== -/
abbrev Vw : Type := Nat → Int → Int
theorem bdi {a : Int} (h : -2147483648 ≤ a ∧ a < 2147483648) : sh_Bd a := h
def szv (j : Nat) : Int := if j = 0 then 7 else if j = 1 then 2 else if j ≤ 5 then 3 else if j ≤ 12 then 6 else 0
def lo1 (b j : Nat) (i : Int) : Nat := if j = 0 then (if i = 0 ∨ i = 5 then b else b + 1) else if j = 1 then b + 14 else if j ≤ 5 then b + (j + 8) else b + (j - 4)
def lo2 (j : Nat) (i : Int) : Int := if j = 0 then (if i = 0 then 3 else if i = 5 then 4 else if i = 6 then 7 else i + 7) else i
def lmi (j : Nat) (i : Int) : Int := if j = 0 then (if i = 6 then 20 else i) else if j = 1 then 6 + i else if j ≤ 5 then 8 + 4 * i + ((j : Int) - 2) else 21 + 7 * i + ((j : Int) - 6)
/-- the state that a platform of the class holds -/
def vP (I : sh_Mem) (b : Nat) : Vw := fun j i => if 0 ≤ i ∧ i < szv j then I (lo1 b j i) (lo2 j i) else 0
/-- the state that a row of the reference holds -/
def vM (R : Int → Int) : Vw := fun j i => if 0 ≤ i ∧ i < szv j then R (lmi j i) else 0
def up (v : Vw) (j : Nat) (i x : Int) : Vw := fun a b => if a = j ∧ b = i then x else v a b
theorem szv_pos {j : Nat} {i : Int} (h : 0 ≤ i ∧ i < szv j) : j ≤ 12 := by
  unfold szv at h
  by_cases hj : j ≤ 12
  · exact hj
  · rw [if_neg (by omega), if_neg (by omega), if_neg (by omega), if_neg hj] at h
    omega
theorem szv_le {j : Nat} {i : Int} (h : 0 ≤ i ∧ i < szv j) : i ≤ 6 := by
  unfold szv at h
  split at h
  · omega
  · split at h
    · omega
    · split at h
      · omega
      · split at h <;> omega
theorem szv0 {i : Int} (h : 0 ≤ i ∧ i < szv 0) : i ≤ 6 := szv_le h
theorem lo_inj {b j j' : Nat} {i i' : Int} (h : 0 ≤ i ∧ i < szv j) (h' : 0 ≤ i' ∧ i' < szv j') (e1 : lo1 b j' i' = lo1 b j i) (e2 : lo2 j' i' = lo2 j i) : j' = j ∧ i' = i := by
  have hj := szv_pos h
  have hj' := szv_pos h'
  have hi := szv_le h
  have hi' := szv_le h'
  unfold lo1 at e1
  unfold lo2 at e2
  by_cases z : j = 0
  · by_cases z' : j' = 0
    · rw [if_pos z, if_pos z'] at e1 e2
      refine ⟨by omega, ?_⟩
      split at e2 <;> split at e2 <;> (try split at e2) <;> (try split at e2) <;> (try split at e2) <;> (try split at e2) <;> (try omega) <;> (split at e1 <;> split at e1 <;> omega)
    · rw [if_pos z, if_neg z'] at e1 e2
      exfalso
      split at e1 <;> split at e1 <;> (try split at e1) <;> omega
  · by_cases z' : j' = 0
    · rw [if_neg z, if_pos z'] at e1 e2
      exfalso
      split at e1 <;> split at e1 <;> (try split at e1) <;> omega
    · rw [if_neg z, if_neg z'] at e1 e2
      refine ⟨?_, e2⟩
      split at e1 <;> split at e1 <;> (try split at e1) <;> (try split at e1) <;> omega
theorem lm_inj {j j' : Nat} {i i' : Int} (h : 0 ≤ i ∧ i < szv j) (h' : 0 ≤ i' ∧ i' < szv j') (e : lmi j' i' = lmi j i) : j' = j ∧ i' = i := by
  have hj := szv_pos h
  have hj' := szv_pos h'
  unfold szv at h h'
  unfold lmi at e
  split at e <;> split at e <;> (try split at e) <;> (try split at e) <;> (try split at e) <;> (try split at e) <;> simp_all <;> omega
theorem vP_up {I : sh_Mem} {b j : Nat} {i x : Int} (h : 0 ≤ i ∧ i < szv j) : vP (sh_u I (lo1 b j i) (lo2 j i) x) b = up (vP I b) j i x := by
  funext j' i'
  simp only [vP, up, sh_u]
  by_cases hd : 0 ≤ i' ∧ i' < szv j'
  · rw [if_pos hd, if_pos hd]
    by_cases e : j' = j ∧ i' = i
    · rw [if_pos e, e.1, e.2, if_pos ⟨rfl, rfl⟩]
    · rw [if_neg e, if_neg]
      intro q
      exact e (lo_inj h hd q.1 q.2)
  · rw [if_neg hd, if_neg hd, if_neg]
    rintro ⟨rfl, rfl⟩
    exact hd h
theorem vM_up {R : Int → Int} {j : Nat} {i x : Int} (h : 0 ≤ i ∧ i < szv j) : vM (fun k => if k = lmi j i then x else R k) = up (vM R) j i x := by
  funext j' i'
  simp only [vM, up]
  by_cases hd : 0 ≤ i' ∧ i' < szv j'
  · rw [if_pos hd, if_pos hd]
    by_cases e : j' = j ∧ i' = i
    · rw [if_pos e, e.1, e.2, if_pos rfl]
    · rw [if_neg e, if_neg]
      intro q
      exact e (lm_inj h hd q)
  · rw [if_neg hd, if_neg hd, if_neg]
    rintro ⟨rfl, rfl⟩
    exact hd h
/-- the row of the reference, written at a place -/
theorem vM_u {I : sh_Mem} {o j : Nat} {i k x : Int} (h : 0 ≤ i ∧ i < szv j) (hk : k = lmi j i) : vM (sh_u I o k x o) = up (vM (I o)) j i x := by
  rw [← vM_up h]
  congr 1
  funext b
  simp [sh_u, hk]
theorem up_same {v : Vw} {j : Nat} {i x : Int} : up v j i x j i = x := by simp [up]
theorem up_ne {v : Vw} {j j' : Nat} {i i' x : Int} (h : ¬ (j' = j ∧ i' = i)) : up v j i x j' i' = v j' i' := by simp only [up, if_neg h]
/-- what lies between b and b + 15 alone may have changed -/
def Off (b : Nat) (I I' : sh_Mem) : Prop := ∀ o, o < b ∨ b + 15 ≤ o → I' o = I o
theorem Off.rf {b : Nat} {I : sh_Mem} : Off b I I := fun _ _ => rfl
theorem Off.tr {b : Nat} {I I' I2 : sh_Mem} (h : Off b I I') (h2 : Off b I' I2) : Off b I I2 := fun o ho => (h2 o ho).trans (h o ho)
theorem Off.put {b o : Nat} {f x : Int} {I I' : sh_Mem} (h : Off b I I') (ho : b ≤ o ∧ o < b + 15) : Off b I (sh_u I' o f x) := fun k hk => by
  rw [sh_u_ne (by omega)]
  exact h k hk
theorem lo1_in {b j : Nat} {i : Int} (h : 0 ≤ i ∧ i < szv j) : b ≤ lo1 b j i ∧ lo1 b j i < b + 15 := by
  have hj := szv_pos h
  unfold lo1
  split
  · split <;> omega
  · split
    · omega
    · split <;> omega
theorem vP_same {I I' : sh_Mem} {b : Nat} (h : ∀ o, b ≤ o → o < b + 15 → I' o = I o) : vP I' b = vP I b := by
  funext j i
  simp only [vP]
  by_cases hd : 0 ≤ i ∧ i < szv j
  · have := lo1_in (b := b) hd
    rw [if_pos hd, if_pos hd, h _ this.1 this.2]
  · rw [if_neg hd, if_neg hd]
theorem isP_far {b c : Nat} (hb : sh_isP b) (hc : sh_isP c) (h : b ≠ c) : b + 15 ≤ c ∨ c + 15 ≤ b := by
  unfold sh_isP at hb hc
  omega
theorem isP_lt {b : Nat} (hb : sh_isP b) : 2 ≤ b ∧ b + 15 ≤ 109 ∧ ¬ (32 < b ∧ b < 49) := by
  unfold sh_isP at hb
  omega
theorem vP_off {I I' : sh_Mem} {b c : Nat} (hb : sh_isP b) (hc : sh_isP c) (h : b ≠ c) (ho : Off b I I') : vP I' c = vP I c :=
  vP_same fun o h1 h2 => ho o (by have := isP_far hb hc h; omega)
theorem lmi_in {j : Nat} {i : Int} (h : 0 ≤ i ∧ i < szv j) : 0 ≤ lmi j i ∧ lmi j i < 63 := by
  have hj := szv_pos h
  unfold szv at h
  unfold lmi
  by_cases z : j = 0
  · rw [if_pos z] at h ⊢
    split <;> omega
  · rw [if_neg z] at h ⊢
    by_cases z1 : j = 1
    · rw [if_pos z1] at h ⊢
      omega
    · rw [if_neg z1] at h ⊢
      by_cases z2 : j ≤ 5
      · rw [if_pos z2] at h ⊢
        omega
      · rw [if_neg z2] at h ⊢
        rw [if_pos hj] at h
        omega
theorem vM_same {R R' : Int → Int} (h : ∀ k, 0 ≤ k → k < 63 → R' k = R k) : vM R' = vM R := by
  funext j i
  simp only [vM]
  by_cases hd : 0 ≤ i ∧ i < szv j
  · have := lmi_in hd
    rw [if_pos hd, if_pos hd, h _ this.1 this.2]
  · rw [if_neg hd, if_neg hd]
theorem rP1 {I : sh_Mem} {b : Nat} {i : Int} (h : 0 ≤ i ∧ i < 2) : I (b + 14) i = vP I b 1 i := (if_pos (show 0 ≤ i ∧ i < szv 1 from h)).symm
theorem wP1 {I : sh_Mem} {b : Nat} {i x : Int} (h : 0 ≤ i ∧ i < 2) : vP (sh_u I (b + 14) i x) b = up (vP I b) 1 i x := vP_up (j := 1) h
theorem rP2 {I : sh_Mem} {b : Nat} {i : Int} (h : 0 ≤ i ∧ i < 3) : I (b + 10) i = vP I b 2 i := (if_pos (show 0 ≤ i ∧ i < szv 2 from h)).symm
theorem wP2 {I : sh_Mem} {b : Nat} {i x : Int} (h : 0 ≤ i ∧ i < 3) : vP (sh_u I (b + 10) i x) b = up (vP I b) 2 i x := vP_up (j := 2) h
theorem rP3 {I : sh_Mem} {b : Nat} {i : Int} (h : 0 ≤ i ∧ i < 3) : I (b + 11) i = vP I b 3 i := (if_pos (show 0 ≤ i ∧ i < szv 3 from h)).symm
theorem wP3 {I : sh_Mem} {b : Nat} {i x : Int} (h : 0 ≤ i ∧ i < 3) : vP (sh_u I (b + 11) i x) b = up (vP I b) 3 i x := vP_up (j := 3) h
theorem rP4 {I : sh_Mem} {b : Nat} {i : Int} (h : 0 ≤ i ∧ i < 3) : I (b + 12) i = vP I b 4 i := (if_pos (show 0 ≤ i ∧ i < szv 4 from h)).symm
theorem wP4 {I : sh_Mem} {b : Nat} {i x : Int} (h : 0 ≤ i ∧ i < 3) : vP (sh_u I (b + 12) i x) b = up (vP I b) 4 i x := vP_up (j := 4) h
theorem rP5 {I : sh_Mem} {b : Nat} {i : Int} (h : 0 ≤ i ∧ i < 3) : I (b + 13) i = vP I b 5 i := (if_pos (show 0 ≤ i ∧ i < szv 5 from h)).symm
theorem wP5 {I : sh_Mem} {b : Nat} {i x : Int} (h : 0 ≤ i ∧ i < 3) : vP (sh_u I (b + 13) i x) b = up (vP I b) 5 i x := vP_up (j := 5) h
theorem rP6 {I : sh_Mem} {b : Nat} {i : Int} (h : 0 ≤ i ∧ i < 6) : I (b + 2) i = vP I b 6 i := (if_pos (show 0 ≤ i ∧ i < szv 6 from h)).symm
theorem wP6 {I : sh_Mem} {b : Nat} {i x : Int} (h : 0 ≤ i ∧ i < 6) : vP (sh_u I (b + 2) i x) b = up (vP I b) 6 i x := vP_up (j := 6) h
theorem rP7 {I : sh_Mem} {b : Nat} {i : Int} (h : 0 ≤ i ∧ i < 6) : I (b + 3) i = vP I b 7 i := (if_pos (show 0 ≤ i ∧ i < szv 7 from h)).symm
theorem wP7 {I : sh_Mem} {b : Nat} {i x : Int} (h : 0 ≤ i ∧ i < 6) : vP (sh_u I (b + 3) i x) b = up (vP I b) 7 i x := vP_up (j := 7) h
theorem rP8 {I : sh_Mem} {b : Nat} {i : Int} (h : 0 ≤ i ∧ i < 6) : I (b + 4) i = vP I b 8 i := (if_pos (show 0 ≤ i ∧ i < szv 8 from h)).symm
theorem wP8 {I : sh_Mem} {b : Nat} {i x : Int} (h : 0 ≤ i ∧ i < 6) : vP (sh_u I (b + 4) i x) b = up (vP I b) 8 i x := vP_up (j := 8) h
theorem rP9 {I : sh_Mem} {b : Nat} {i : Int} (h : 0 ≤ i ∧ i < 6) : I (b + 5) i = vP I b 9 i := (if_pos (show 0 ≤ i ∧ i < szv 9 from h)).symm
theorem wP9 {I : sh_Mem} {b : Nat} {i x : Int} (h : 0 ≤ i ∧ i < 6) : vP (sh_u I (b + 5) i x) b = up (vP I b) 9 i x := vP_up (j := 9) h
theorem rP10 {I : sh_Mem} {b : Nat} {i : Int} (h : 0 ≤ i ∧ i < 6) : I (b + 6) i = vP I b 10 i := (if_pos (show 0 ≤ i ∧ i < szv 10 from h)).symm
theorem wP10 {I : sh_Mem} {b : Nat} {i x : Int} (h : 0 ≤ i ∧ i < 6) : vP (sh_u I (b + 6) i x) b = up (vP I b) 10 i x := vP_up (j := 10) h
theorem rP11 {I : sh_Mem} {b : Nat} {i : Int} (h : 0 ≤ i ∧ i < 6) : I (b + 7) i = vP I b 11 i := (if_pos (show 0 ≤ i ∧ i < szv 11 from h)).symm
theorem wP11 {I : sh_Mem} {b : Nat} {i x : Int} (h : 0 ≤ i ∧ i < 6) : vP (sh_u I (b + 7) i x) b = up (vP I b) 11 i x := vP_up (j := 11) h
theorem rP12 {I : sh_Mem} {b : Nat} {i : Int} (h : 0 ≤ i ∧ i < 6) : I (b + 8) i = vP I b 12 i := (if_pos (show 0 ≤ i ∧ i < szv 12 from h)).symm
theorem wP12 {I : sh_Mem} {b : Nat} {i x : Int} (h : 0 ≤ i ∧ i < 6) : vP (sh_u I (b + 8) i x) b = up (vP I b) 12 i x := vP_up (j := 12) h
theorem rP0_0 {I : sh_Mem} {b : Nat} : I b 3 = vP I b 0 0 := rfl
theorem wP0_0 {I : sh_Mem} {b : Nat} {x : Int} : vP (sh_u I b 3 x) b = up (vP I b) 0 0 x := vP_up (j := 0) (i := 0) (by decide)
theorem rP0_1 {I : sh_Mem} {b : Nat} : I (b + 1) 8 = vP I b 0 1 := rfl
theorem wP0_1 {I : sh_Mem} {b : Nat} {x : Int} : vP (sh_u I (b + 1) 8 x) b = up (vP I b) 0 1 x := vP_up (j := 0) (i := 1) (by decide)
theorem rP0_2 {I : sh_Mem} {b : Nat} : I (b + 1) 9 = vP I b 0 2 := rfl
theorem wP0_2 {I : sh_Mem} {b : Nat} {x : Int} : vP (sh_u I (b + 1) 9 x) b = up (vP I b) 0 2 x := vP_up (j := 0) (i := 2) (by decide)
theorem rP0_3 {I : sh_Mem} {b : Nat} : I (b + 1) 10 = vP I b 0 3 := rfl
theorem wP0_3 {I : sh_Mem} {b : Nat} {x : Int} : vP (sh_u I (b + 1) 10 x) b = up (vP I b) 0 3 x := vP_up (j := 0) (i := 3) (by decide)
theorem rP0_4 {I : sh_Mem} {b : Nat} : I (b + 1) 11 = vP I b 0 4 := rfl
theorem wP0_4 {I : sh_Mem} {b : Nat} {x : Int} : vP (sh_u I (b + 1) 11 x) b = up (vP I b) 0 4 x := vP_up (j := 0) (i := 4) (by decide)
theorem rP0_5 {I : sh_Mem} {b : Nat} : I b 4 = vP I b 0 5 := rfl
theorem wP0_5 {I : sh_Mem} {b : Nat} {x : Int} : vP (sh_u I b 4 x) b = up (vP I b) 0 5 x := vP_up (j := 0) (i := 5) (by decide)
theorem rP0_6 {I : sh_Mem} {b : Nat} : I (b + 1) 7 = vP I b 0 6 := rfl
theorem wP0_6 {I : sh_Mem} {b : Nat} {x : Int} : vP (sh_u I (b + 1) 7 x) b = up (vP I b) 0 6 x := vP_up (j := 0) (i := 6) (by decide)
theorem rM0_0 {R : Int → Int} : R 0 = vM R 0 0 := rfl
theorem wM0_0 {I : sh_Mem} {o : Nat} {x : Int} : vM (sh_u I o 0 x o) = up (vM (I o)) 0 0 x := vM_u (j := 0) (i := 0) (by decide) rfl
theorem rM0_1 {R : Int → Int} : R 1 = vM R 0 1 := rfl
theorem wM0_1 {I : sh_Mem} {o : Nat} {x : Int} : vM (sh_u I o 1 x o) = up (vM (I o)) 0 1 x := vM_u (j := 0) (i := 1) (by decide) rfl
theorem rM0_2 {R : Int → Int} : R 2 = vM R 0 2 := rfl
theorem wM0_2 {I : sh_Mem} {o : Nat} {x : Int} : vM (sh_u I o 2 x o) = up (vM (I o)) 0 2 x := vM_u (j := 0) (i := 2) (by decide) rfl
theorem rM0_3 {R : Int → Int} : R 3 = vM R 0 3 := rfl
theorem wM0_3 {I : sh_Mem} {o : Nat} {x : Int} : vM (sh_u I o 3 x o) = up (vM (I o)) 0 3 x := vM_u (j := 0) (i := 3) (by decide) rfl
theorem rM0_4 {R : Int → Int} : R 4 = vM R 0 4 := rfl
theorem wM0_4 {I : sh_Mem} {o : Nat} {x : Int} : vM (sh_u I o 4 x o) = up (vM (I o)) 0 4 x := vM_u (j := 0) (i := 4) (by decide) rfl
theorem rM0_5 {R : Int → Int} : R 5 = vM R 0 5 := rfl
theorem wM0_5 {I : sh_Mem} {o : Nat} {x : Int} : vM (sh_u I o 5 x o) = up (vM (I o)) 0 5 x := vM_u (j := 0) (i := 5) (by decide) rfl
theorem rM0_6 {R : Int → Int} : R 20 = vM R 0 6 := rfl
theorem wM0_6 {I : sh_Mem} {o : Nat} {x : Int} : vM (sh_u I o 20 x o) = up (vM (I o)) 0 6 x := vM_u (j := 0) (i := 6) (by decide) rfl
