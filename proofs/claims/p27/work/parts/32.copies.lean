/-! ===== 32: copies of states, the history on both sides ===== -/
def ofs (j : Nat) : Nat := if j = 1 then 14 else if j ≤ 5 then j + 8 else j - 4
theorem lo1_ofs {b j : Nat} {i : Int} (h : 1 ≤ j) : lo1 b j i = b + ofs j := by
  unfold lo1 ofs
  rw [if_neg (by omega)]
  split
  · rfl
  · split
    · rfl
    · rfl
theorem lo1_only {b j j' : Nat} {i : Int} (hj : 1 ≤ j ∧ j ≤ 12) (h : 0 ≤ i ∧ i < szv j') (e : lo1 b j' i = b + ofs j) : j' = j := by
  have hj' := szv_pos h
  unfold lo1 ofs at e
  split at e
  · split at e <;> split at e <;> (try split at e) <;> omega
  · split at e
    · split at e
      · omega
      · split at e <;> omega
    · split at e
      · split at e
        · omega
        · split at e <;> omega
      · split at e
        · omega
        · split at e <;> omega
def cpR (v w : Vw) (j : Nat) : Vw := fun a i => if a = j then w a i else v a i
theorem vP_out {I : sh_Mem} {b j : Nat} {i : Int} (h : ¬ (0 ≤ i ∧ i < szv j)) : vP I b j i = 0 := if_neg h
theorem vP_in {I : sh_Mem} {b j : Nat} {i : Int} (h : 0 ≤ i ∧ i < szv j) : vP I b j i = I (lo1 b j i) (lo2 j i) := if_pos h
theorem lo2_row {j : Nat} {i : Int} (h : 1 ≤ j) : lo2 j i = i := by
  unfold lo2
  rw [if_neg (by omega)]
theorem vP_cpy {I : sh_Mem} {b c j : Nat} {n : Int} (hj : 1 ≤ j ∧ j ≤ 12) (hn : n = szv j) : vP (sh_cpy I (c + ofs j) (b + ofs j) 0 0 n) b = cpR (vP I b) (vP I c) j := by
  subst hn
  funext a i
  simp only [cpR]
  by_cases hd : 0 ≤ i ∧ i < szv a
  · by_cases e : a = j
    · subst e
      rw [if_pos rfl, vP_in hd, vP_in hd, lo1_ofs hj.1, lo1_ofs hj.1, lo2_row hj.1]
      simp only [sh_cpy]
      rw [if_pos ⟨trivial, by omega, by omega⟩]
      congr 1
      omega
    · rw [if_neg e, vP_in hd, vP_in hd]
      simp only [sh_cpy]
      rw [if_neg]
      rintro ⟨z, -⟩
      exact e (lo1_only hj hd z)
  · rw [vP_out hd, vP_out hd, vP_out hd]
    split <;> rfl
theorem Off.cpy {b o1 o2 : Nat} {s d n : Int} {I J : sh_Mem} (h : Off b I J) (ho : b ≤ o2 ∧ o2 < b + 15) : Off b I (sh_cpy J o1 o2 s d n) := fun o q => by
  have e : sh_cpy J o1 o2 s d n o = J o := by
    funext k
    simp only [sh_cpy]
    rw [if_neg]
    rintro ⟨z, -⟩
    omega
  rw [e]
  exact h o q
/-- one row copied: a step of a copy -/
theorem s_cpRow {b c j : Nat} {I J : sh_Mem} {Q : sh_Mem → Prop} {v w : Vw} (N : Nat) (oc ob : Nat) (hb : sh_isP b) (hc : sh_isP c) (hne : b ≠ c) (hj : 1 ≤ j ∧ j ≤ 12) (hN : (N : Int) = szv j) (h1 : sh_is 119 oc 8 N) (h2 : sh_is 119 ob 8 N) (e1 : oc = c + ofs j) (e2 : ob = b + ofs j) (o : Off b I J) (ev : vP J b = v) (ew : vP I c = w) (h : ∀ K, Off b I K → vP K b = cpR v w j → Q K) : cc mX6_copyRow [.inr oc, .inr ob] J (qv Q) := by
  have hN2 : N < 1000 := by
    have : szv j ≤ 7 := by
      unfold szv
      split
      · omega
      · split
        · omega
        · split
          · omega
          · split <;> omega
    omega
  subst e1
  subst e2
  refine s_copyRow h1 h2 hN2 (h _ (o.cpy ?_) ?_)
  · unfold ofs
    split
    · omega
    · split <;> omega
  · rw [vP_cpy hj hN, ev, vP_off hb hc hne o, ew]
theorem cp_all {v w : Vw} (hv : ∀ j i, ¬ (0 ≤ i ∧ i < szv j) → v j i = 0) (hw : ∀ j i, ¬ (0 ≤ i ∧ i < szv j) → w j i = 0) :
    up (up (cpR (cpR (cpR (cpR (cpR (up (up (up (up (up (cpR (cpR (cpR (cpR (cpR (cpR (cpR v w 6) w 7) w 8) w 9) w 10) w 11) w 12) 0 6 (w 0 6)) 0 1 (w 0 1)) 0 2 (w 0 2)) 0 3 (w 0 3)) 0 4 (w 0 4)) w 2) w 3) w 4) w 5) w 1) 0 0 (w 0 0)) 0 5 (w 0 5) = w := by
  funext j i
  simp only [up, cpR]
  by_cases h0 : j = 0
  · subst h0
    by_cases hd : 0 ≤ i ∧ i < szv 0
    · have h9 := szv0 hd
      have hz : i = 0 ∨ i = 1 ∨ i = 2 ∨ i = 3 ∨ i = 4 ∨ i = 5 ∨ i = 6 := by omega
      rcases hz with rfl | rfl | rfl | rfl | rfl | rfl | rfl <;> simp
    · have hn : ¬ (0 ≤ i ∧ i < 7) := hd
      rw [hw 0 i hd]
      have := hv 0 i hd
      rw [if_neg (by omega), if_neg (by omega), if_neg (by omega), if_neg (by omega), if_neg (by omega), if_neg (by omega), if_neg (by omega), if_neg (by omega), if_neg (by omega), if_neg (by omega), if_neg (by omega), if_neg (by omega), if_neg (by omega), if_neg (by omega), if_neg (by omega), if_neg (by omega), if_neg (by omega), if_neg (by omega), if_neg (by omega)]
      exact this
  · by_cases hj : j ≤ 12
    · have hz : j = 1 ∨ j = 2 ∨ j = 3 ∨ j = 4 ∨ j = 5 ∨ j = 6 ∨ j = 7 ∨ j = 8 ∨ j = 9 ∨ j = 10 ∨ j = 11 ∨ j = 12 := by omega
      rcases hz with rfl | rfl | rfl | rfl | rfl | rfl | rfl | rfl | rfl | rfl | rfl | rfl <;> simp
    · have hd : ¬ (0 ≤ i ∧ i < szv j) := fun q => hj (szv_pos q)
      rw [hw j i hd]
      have := hv j i hd
      rw [if_neg (by omega), if_neg (by omega), if_neg (by omega), if_neg (by omega), if_neg (by omega), if_neg (by omega), if_neg (by omega), if_neg (by omega), if_neg (by omega), if_neg (by omega), if_neg (by omega), if_neg (by omega), if_neg (by omega), if_neg (by omega), if_neg (by omega), if_neg (by omega), if_neg (by omega), if_neg (by omega), if_neg (by omega)]
      exact this
theorem s_copyFrom {b c : Nat} {I : sh_Mem} {Q : sh_Mem → Prop} (hb : sh_isP b) (hc : sh_isP c) (hne : b ≠ c) (h : ∀ J, Off b I J → vP J b = vP I c → Q J) : cc mX4_copyFrom [.inr b, .inr c] I (qv Q) := by
  generalize ew : vP I c = w at h
  have hwout : ∀ j i, ¬ (0 ≤ i ∧ i < szv j) → w j i = 0 := fun j i q => by rw [← ew]; exact vP_out q
  have rd : ∀ J, Off b I J → ∀ j i, 0 ≤ i ∧ i < szv j → J (lo1 c j i) (lo2 j i) = w j i := fun J o j i q => by
    rw [← vP_in (I := J) (b := c) q, vP_off hb hc hne o, ew]
  refine eX4_copyFrom hb hc (eX5_copyFrom hb hc ?_)
  refine s_cpRow (j := 6) 6 _ _ hb hc hne (by decide) rfl (is_P2 hc) (is_P2 hb) rfl rfl Off.rf rfl ew (fun I1 o1 e1 => ?_)
  refine s_cpRow (j := 7) 6 _ _ hb hc hne (by decide) rfl (is_P3 hc) (is_P3 hb) rfl rfl o1 e1 ew (fun I2 o2 e2 => ?_)
  refine s_cpRow (j := 8) 6 _ _ hb hc hne (by decide) rfl (is_P4 hc) (is_P4 hb) rfl rfl o2 e2 ew (fun I3 o3 e3 => ?_)
  refine s_cpRow (j := 9) 6 _ _ hb hc hne (by decide) rfl (is_P5 hc) (is_P5 hb) rfl rfl o3 e3 ew (fun I4 o4 e4 => ?_)
  refine s_cpRow (j := 10) 6 _ _ hb hc hne (by decide) rfl (is_P6 hc) (is_P6 hb) rfl rfl o4 e4 ew (fun I5 o5 e5 => ?_)
  refine s_cpRow (j := 11) 6 _ _ hb hc hne (by decide) rfl (is_P7 hc) (is_P7 hb) rfl rfl o5 e5 ew (fun I6 o6 e6 => ?_)
  refine s_cpRow (j := 12) 6 _ _ hb hc hne (by decide) rfl (is_P8 hc) (is_P8 hb) rfl rfl o6 e6 ew (fun I7 o7 e7 => ?_)
  have r6 : I7 (c + 1) 7 = w 0 6 := rd I7 o7 0 6 (by decide)
  have r1 : I7 (c + 1) 8 = w 0 1 := rd I7 o7 0 1 (by decide)
  have r2 : I7 (c + 1) 9 = w 0 2 := rd I7 o7 0 2 (by decide)
  have r3 : I7 (c + 1) 10 = w 0 3 := rd I7 o7 0 3 (by decide)
  have r4 : I7 (c + 1) 11 = w 0 4 := rd I7 o7 0 4 (by decide)
  rw [r6, r1, r2, r3, r4]
  have o8 : Off b I (sh_u (sh_u (sh_u (sh_u (sh_u I7 (b + 1) 7 (w 0 6)) (b + 1) 8 (w 0 1)) (b + 1) 9 (w 0 2)) (b + 1) 10 (w 0 3)) (b + 1) 11 (w 0 4)) := (((((o7.put (by omega)).put (by omega)).put (by omega)).put (by omega)).put (by omega))
  refine eX3_copyFrom hb hc ?_
  refine s_cpRow (j := 2) 3 _ _ hb hc hne (by decide) rfl (is_P10 hc) (is_P10 hb) rfl rfl o8 (by rw [wP0_4, wP0_3, wP0_2, wP0_1, wP0_6, e7]) ew (fun J1 p1 f1 => ?_)
  refine s_cpRow (j := 3) 3 _ _ hb hc hne (by decide) rfl (is_P11 hc) (is_P11 hb) rfl rfl p1 f1 ew (fun J2 p2 f2 => ?_)
  refine s_cpRow (j := 4) 3 _ _ hb hc hne (by decide) rfl (is_P12 hc) (is_P12 hb) rfl rfl p2 f2 ew (fun J3 p3 f3 => ?_)
  refine s_cpRow (j := 5) 3 _ _ hb hc hne (by decide) rfl (is_P13 hc) (is_P13 hb) rfl rfl p3 f3 ew (fun J4 p4 f4 => ?_)
  refine s_cpRow (j := 1) 2 _ _ hb hc hne (by decide) rfl (is_P14 hc) (is_P14 hb) rfl rfl p4 f4 ew (fun J5 p5 f5 => ?_)
  have t0 : J5 c 3 = w 0 0 := rd J5 p5 0 0 (by decide)
  have t5 : J5 c 4 = w 0 5 := rd J5 p5 0 5 (by decide)
  rw [t0, t5]
  refine h _ ((p5.put (by omega)).put (by omega)) ?_
  rw [wP0_5, wP0_0, f5]
  exact cp_all (fun j i q => vP_out q) hwout
/-- a history with one more state -/
def nh (f : Int → Vw) (n : Int) (x : Vw) (s : Int) : Vw := if n < 4 then (if s = n then x else f s) else (if s = 3 then x else f (s + 1))
def nn4 (n : Int) : Int := if n < 4 then n + 1 else 4
/-- apart from the history of the reference nothing has changed -/
def HM (I J : sh_Mem) : Prop := (∀ o, o ≠ 119 → o ≠ 121 → J o = I o) ∧ ∀ f, f ≠ 2 → J 119 f = I 119 f
