/-! ===== 42: reading a text ===== -/
def cd (T : Int → Int) (n p : Int) : Int := if 0 ≤ p ∧ p < n then T p else -1
def CT (C : Int → Int) (n : Int) : Prop := (0 ≤ n ∧ n ≤ 60) ∧ ∀ p, ((p < 0 ∨ n ≤ p) → C p = -1) ∧ ((0 ≤ p ∧ p < n) → 0 ≤ C p ∧ C p < 65536)
theorem CT.bd {C : Int → Int} {n : Int} (h : CT C n) (p : Int) : -1 ≤ C p ∧ C p < 65536 := by
  have := h.2 p
  by_cases e : 0 ≤ p ∧ p < n
  · have := this.2 e
    omega
  · have := this.1 (by omega)
    omega
theorem CT.lt {C : Int → Int} {n p : Int} (h : CT C n) (hc : 0 ≤ C p) : 0 ≤ p ∧ p < n := Classical.byContradiction fun q => by
  have := (h.2 p).1 (by omega)
  omega
def nm (C : Int → Int) (p lo hi : Int) : Int × Int × Int := if ¬ (48 ≤ C p ∧ C p ≤ 57) ∨ ¬ (lo ≤ C p - 48 ∧ C p - 48 ≤ hi) then (0, p, 0) else if C p - 48 ≤ 0 ∨ ¬ (48 ≤ C (p + 1) ∧ C (p + 1) ≤ 57) ∨ hi < (C p - 48) * 10 + (C (p + 1) - 48) then (1, p + 1, C p - 48) else (1, p + 2, (C p - 48) * 10 + (C (p + 1) - 48))
theorem nm_in {C : Int → Int} {n p lo hi : Int} (h : CT C n) (hl : 0 ≤ lo) : ((nm C p lo hi).1 = 0 ∧ (nm C p lo hi).2.1 = p) ∨ ((nm C p lo hi).1 = 1 ∧ (p + 1 ≤ (nm C p lo hi).2.1 ∧ (nm C p lo hi).2.1 ≤ n) ∧ lo ≤ (nm C p lo hi).2.2 ∧ (nm C p lo hi).2.2 ≤ hi) := by
  by_cases h1 : ¬ (48 ≤ C p ∧ C p ≤ 57) ∨ ¬ (lo ≤ C p - 48 ∧ C p - 48 ≤ hi)
  · have e : nm C p lo hi = (0, p, 0) := by unfold nm; rw [if_pos h1]
    rw [e]
    exact Or.inl ⟨rfl, rfl⟩
  · have := h.lt (p := p) (by omega)
    by_cases h2 : C p - 48 ≤ 0 ∨ ¬ (48 ≤ C (p + 1) ∧ C (p + 1) ≤ 57) ∨ hi < (C p - 48) * 10 + (C (p + 1) - 48)
    · have e : nm C p lo hi = (1, p + 1, C p - 48) := by unfold nm; rw [if_neg h1, if_pos h2]
      rw [e]
      exact Or.inr ⟨rfl, by show p + 1 ≤ p + 1 ∧ p + 1 ≤ n; omega, by show lo ≤ C p - 48; omega, by show C p - 48 ≤ hi; omega⟩
    · have e : nm C p lo hi = (1, p + 2, (C p - 48) * 10 + (C (p + 1) - 48)) := by unfold nm; rw [if_neg h1, if_neg h2]
      have := h.lt (p := p + 1) (by omega)
      rw [e]
      exact Or.inr ⟨rfl, by show p + 1 ≤ p + 2 ∧ p + 2 ≤ n; omega, by show lo ≤ (C p - 48) * 10 + (C (p + 1) - 48); omega, by show (C p - 48) * 10 + (C (p + 1) - 48) ≤ hi; omega⟩
/-! the class's reading -/
def TX (I : sh_Mem) (C : Int → Int) (n : Int) : Prop := CT C n ∧ I 109 1 = n ∧ cd (I 110) n = C
theorem TX.of {I J : sh_Mem} {C : Int → Int} {n : Int} (h : TX I C n) (h1 : J 109 1 = I 109 1) (h2 : J 110 = I 110) : TX J C n := ⟨h.1, by rw [h1]; exact h.2.1, by rw [h2]; exact h.2.2⟩
theorem s_nextSign {I : sh_Mem} {Q : Int → sh_Mem → Prop} {C : Int → Int} {n : Int} (ht : TX I C n) (hp : 0 ≤ I 109 2 ∧ I 109 2 ≤ 1000) (h : Q (C (I 109 2)) I) : cc mX1_nextSign [.inr 109] I (qi Q) := by
  obtain ⟨h1, h2, h3⟩ := ht
  have hn := h1.1
  have hc := h1.2 (I 109 2)
  refine eX1_nextSign ⟨bdi (by omega), fun q => absurd q (by omega), fun _ => ⟨bdi (by omega), fun q => ?_, fun q => ⟨fun q2 => absurd q2 (by omega), fun q2 => ⟨by omega, ?_⟩⟩⟩⟩
  · rw [hc.1 (by omega)] at h
    exact h
  · rw [← h3] at h
    unfold cd at h
    rw [if_pos (by omega)] at h
    exact h
theorem s_nextDigit {I : sh_Mem} {Q : Int → sh_Mem → Prop} {C : Int → Int} {n : Int} (ht : TX I C n) (hp : 0 ≤ I 109 2 ∧ I 109 2 ≤ 1000) (h1 : (48 ≤ C (I 109 2) ∧ C (I 109 2) ≤ 57) → Q (C (I 109 2) - 48) I) (h0 : ¬ (48 ≤ C (I 109 2) ∧ C (I 109 2) ≤ 57) → Q (-1) I) : cc mX1_nextDigit [.inr 109] I (qi Q) := by
  have hb := ht.1.bd (I 109 2)
  exact eX1_nextDigit (s_nextSign ht hp ⟨bdi (by omega), fun q => h0 (by omega), fun q => ⟨fun q2 => h0 (by omega), fun q2 => h1 (by omega)⟩⟩)
theorem s_readAs {o : Nat} {x k : Int} {I : sh_Mem} {Q : Int → sh_Mem → Prop} (ho : sh_is 130 o 8 20) (h9 : o ≠ 109) (hk : 0 ≤ k ∧ k < 20) (h : Q 1 (sh_u (sh_u I o k x) 109 2 (I 109 2 + 1))) : cc mX1_readAs [.inr 109, .inl x, .inr o, .inl k] I (qi Q) := by
  refine eX1_readAs ho (by omega) ⟨bdi (by omega), fun q => absurd q (by omega), fun _ => ⟨bdi (by omega), fun _ => ⟨by omega, ?_⟩, fun q => absurd q (by omega)⟩⟩
  rw [sh_u_ne (I := I) (Ne.symm h9)]
  exact h
/-- read up to p, with the row k of the objects 111 to 113 alone changed -/
def TR (I J : sh_Mem) (k p : Int) : Prop := (∀ o, o ≠ 109 → o ≠ 111 → o ≠ 112 → o ≠ 113 → J o = I o) ∧ (∀ f, f ≠ 2 → J 109 f = I 109 f) ∧ J 109 2 = p ∧ ∀ o j, (o = 111 ∨ o = 112 ∨ o = 113) → j ≠ k → J o j = I o j
theorem TR.rf {I : sh_Mem} {k : Int} : TR I I k (I 109 2) := ⟨fun _ _ _ _ _ => rfl, fun _ _ => rfl, rfl, fun _ _ _ _ => rfl⟩
theorem TR.tr {I J K : sh_Mem} {k p p' : Int} (h : TR I J k p) (g : TR J K k p') : TR I K k p' := ⟨fun o a b c d => (g.1 o a b c d).trans (h.1 o a b c d), fun f a => (g.2.1 f a).trans (h.2.1 f a), g.2.2.1, fun o j a b => (g.2.2.2 o j a b).trans (h.2.2.2 o j a b)⟩
theorem TR.tx {I J : sh_Mem} {k p : Int} {C : Int → Int} {n : Int} (h : TR I J k p) (ht : TX I C n) : TX J C n := ht.of (h.2.1 1 (by decide)) (h.1 110 (by decide) (by decide) (by decide) (by decide))
theorem TR.as {I J : sh_Mem} {k p x : Int} {o : Nat} (h : TR I J k p) (ho : o = 111 ∨ o = 112 ∨ o = 113) : TR I (sh_u (sh_u J o k x) 109 2 (J 109 2 + 1)) k (p + 1) := by
  refine ⟨fun o' a b c d => ?_, fun f a => ?_, ?_, fun o' j a b => ?_⟩
  · rw [sh_u_ne a, sh_u_ne (by omega)]
    exact h.1 o' a b c d
  · rw [sh_u_nf a, sh_u_ne (by omega)]
    exact h.2.1 f a
  · rw [← h.2.2.1]
    simp [sh_u]
  · rw [sh_u_ne (by omega)]
    have e : sh_u J o k x o' j = J o' j := by simp [sh_u, b]
    rw [e]
    exact h.2.2.2 o' j a b
theorem as_val {J : sh_Mem} {k x y : Int} {o : Nat} (ho : o = 111 ∨ o = 112 ∨ o = 113) : sh_u (sh_u J o k x) 109 2 y o k = x := by
  rw [sh_u_ne (by omega)]
  simp [sh_u]
theorem as_oth {J : sh_Mem} {k x y : Int} {o o' : Nat} (h : o' ≠ o) (h9 : o' ≠ 109) : sh_u (sh_u J o k x) 109 2 y o' = J o' := by
  rw [sh_u_ne h9, sh_u_ne h]
theorem s_readNumber {o : Nat} {k lo hi : Int} {I : sh_Mem} {Q : Int → sh_Mem → Prop} {C : Int → Int} {n : Int} (ho : sh_is 130 o 8 20) (ho2 : o = 112 ∨ o = 113) (hk : 0 ≤ k ∧ k < 20) (hlo : 0 ≤ lo ∧ lo ≤ 9) (hhi : 0 ≤ hi ∧ hi ≤ 99) (ht : TX I C n) (hp : 0 ≤ I 109 2 ∧ I 109 2 ≤ 900) (h0 : (nm C (I 109 2) lo hi).1 = 0 → Q 0 I) (h1 : (nm C (I 109 2) lo hi).1 = 1 → ∀ J, TR I J k (nm C (I 109 2) lo hi).2.1 → J o k = (nm C (I 109 2) lo hi).2.2 → (∀ o', o' ≠ o → o' ≠ 109 → J o' = I o') → Q 1 J) : cc mX1_readNumber [.inr 109, .inr o, .inl k, .inl lo, .inl hi] I (qi Q) := by
  have ho9 : o ≠ 109 := by omega
  have ho3 : o = 111 ∨ o = 112 ∨ o = 113 := by omega
  generalize hpp : I 109 2 = p at *
  have no : (¬ (48 ≤ C p ∧ C p ≤ 57) ∨ ¬ (lo ≤ C p - 48 ∧ C p - 48 ≤ hi)) → Q 0 I := fun z => h0 (by unfold nm; rw [if_pos z])
  refine eX1_readNumber ho (by omega) (s_nextDigit ht (by omega) (fun d => ?_) (fun d => ?_))
  · rw [hpp] at d ⊢
    refine ⟨bdi (by omega), bdi (by omega), fun q => no (Or.inr (by omega)), fun q => ⟨bdi (by omega), fun q2 => no (Or.inr (by omega)), fun q2 => s_readAs ho ho9 hk (Or.inl ⟨rfl, ?_⟩)⟩⟩
    have hf : ¬ (¬ (48 ≤ C p ∧ C p ≤ 57) ∨ ¬ (lo ≤ C p - 48 ∧ C p - 48 ≤ hi)) := by omega
    have r1 := (TR.rf (I := I) (k := k)).as (x := C p - 48) ho3
    have e1 : sh_u (sh_u I o k (C p - 48)) 109 2 (I 109 2 + 1) 109 2 = p + 1 := by rw [r1.2.2.1, hpp]
    have one : (C p - 48 ≤ 0 ∨ ¬ (48 ≤ C (p + 1) ∧ C (p + 1) ≤ 57) ∨ hi < (C p - 48) * 10 + (C (p + 1) - 48)) → Q 1 (sh_u (sh_u I o k (C p - 48)) 109 2 (I 109 2 + 1)) := fun z => by
      have en : nm C p lo hi = (1, p + 1, C p - 48) := by unfold nm; rw [if_neg hf, if_pos z]
      rw [en] at h1
      rw [hpp] at r1
      exact h1 rfl _ (by rw [hpp]; exact r1) (as_val ho3) (fun o' a b => as_oth a b)
    refine s_nextDigit (r1.tx ht) (by omega) (fun d2 => ?_) (fun d2 => ?_)
    · rw [e1] at d2 ⊢
      refine ⟨fun q3 => one (Or.inl q3), fun q3 => ⟨bdi (by omega), fun q4 => absurd q4 (by omega), fun q4 => ⟨bdi (by omega), fun q5 => one (Or.inr (Or.inr q5)), fun q5 => s_readAs ho ho9 hk ⟨z01_1, ?_⟩⟩⟩⟩
      have en : nm C p lo hi = (1, p + 2, (C p - 48) * 10 + (C (p + 1) - 48)) := by unfold nm; rw [if_neg hf, if_neg (by omega)]
      rw [en] at h1
      have r2 := r1.as (x := (C p - 48) * 10 + (C (p + 1) - 48)) ho3
      rw [hpp, show p + 1 + 1 = p + 2 by omega] at r2
      refine h1 rfl _ (by rw [hpp]; exact r2) (as_val ho3) (fun o' a b => ?_)
      rw [as_oth a b, as_oth a b]
    · rw [e1] at d2
      exact ⟨fun q3 => one (Or.inl q3), fun q3 => ⟨bd_lit (by decide), fun _ => one (Or.inr (Or.inl d2)), fun q4 => absurd rfl q4⟩⟩
  · rw [hpp] at d
    exact ⟨bd_lit (by decide), bdi (by omega), fun _ => no (Or.inl d), fun q => absurd q (by omega)⟩
/-! a thing: whether it is one, where it ends, its kind and its two numbers -/
abbrev Th : Type := Int × Int × Int × Int × Int
def drv (c : Int) : Int := if c = 110 then 0 else if c = 101 then 1 else if c = 115 then 2 else if c = 119 then 3 else -1
def isd (c : Int) : Prop := c = 110 ∨ c = 101 ∨ c = 115 ∨ c = 119 ∨ c = 45
def th46 (C : Int → Int) (p : Int) : Th := if (nm C (p + 1) 1 99).1 = 0 then (0, (nm C (p + 1) 1 99).2.1, 0, 0, 0) else (1, (nm C (p + 1) 1 99).2.1, 46, (nm C (p + 1) 1 99).2.2, 0)
def th100 (C : Int → Int) (p : Int) : Th := if (nm C (p + 1) 0 5).1 = 0 then (0, (nm C (p + 1) 0 5).2.1, 0, 0, 0) else if C (nm C (p + 1) 0 5).2.1 = 110 ∨ C (nm C (p + 1) 0 5).2.1 = 101 ∨ C (nm C (p + 1) 0 5).2.1 = 115 ∨ C (nm C (p + 1) 0 5).2.1 = 119 ∨ C (nm C (p + 1) 0 5).2.1 = 45 then (1, (nm C (p + 1) 0 5).2.1 + 1, 100, (nm C (p + 1) 0 5).2.2, drv (C (nm C (p + 1) 0 5).2.1)) else (0, (nm C (p + 1) 0 5).2.1, 0, 0, 0)
def th108 (C : Int → Int) (p : Int) : Th := if (nm C (p + 1) 0 2).1 = 0 then (0, (nm C (p + 1) 0 2).2.1, 0, 0, 0) else if C (nm C (p + 1) 0 2).2.1 = 43 ∨ C (nm C (p + 1) 0 2).2.1 = 45 then (1, (nm C (p + 1) 0 2).2.1 + 1, 108, (nm C (p + 1) 0 2).2.2, if C (nm C (p + 1) 0 2).2.1 = 43 then 1 else 0) else (0, (nm C (p + 1) 0 2).2.1, 0, 0, 0)
def th114 (C : Int → Int) (p : Int) : Th := if (nm C (p + 1) 0 99).1 = 0 then (0, (nm C (p + 1) 0 99).2.1, 0, 0, 0) else if C (nm C (p + 1) 0 99).2.1 = 104 then (if (nm C ((nm C (p + 1) 0 99).2.1 + 1) 1 5).1 = 0 then (0, (nm C ((nm C (p + 1) 0 99).2.1 + 1) 1 5).2.1, 0, 0, 0) else (1, (nm C ((nm C (p + 1) 0 99).2.1 + 1) 1 5).2.1, 114, (nm C (p + 1) 0 99).2.2, (nm C ((nm C (p + 1) 0 99).2.1 + 1) 1 5).2.2)) else (0, (nm C (p + 1) 0 99).2.1, 0, 0, 0)
def thg (C : Int → Int) (p : Int) : Th := if C p = 46 then th46 C p else if C p = 100 then th100 C p else if C p = 108 then th108 C p else if C p = 114 then th114 C p else (0, p, 0, 0, 0)
/-- what a row holds after a thing was read -/
def Row (I : sh_Mem) (k : Int) (t : Th) : Prop := I 111 k = t.2.2.1 ∧ I 112 k = t.2.2.2.1 ∧ (t.2.2.1 = 46 ∨ I 113 k = t.2.2.2.2)
def KOk (t : Th) : Prop := (t.2.2.1 = 46 ∧ (1 ≤ t.2.2.2.1 ∧ t.2.2.2.1 ≤ 99)) ∨ (t.2.2.1 = 100 ∧ (0 ≤ t.2.2.2.1 ∧ t.2.2.2.1 ≤ 5) ∧ (-1 ≤ t.2.2.2.2 ∧ t.2.2.2.2 ≤ 3)) ∨ (t.2.2.1 = 108 ∧ (0 ≤ t.2.2.2.1 ∧ t.2.2.2.1 ≤ 2) ∧ (0 ≤ t.2.2.2.2 ∧ t.2.2.2.2 ≤ 1)) ∨ (t.2.2.1 = 114 ∧ (0 ≤ t.2.2.2.1 ∧ t.2.2.2.1 ≤ 99) ∧ (1 ≤ t.2.2.2.2 ∧ t.2.2.2.2 ≤ 5))
def ThOk (n p : Int) (t : Th) : Prop := (t.1 = 0 ∧ p ≤ t.2.1 ∧ t.2.1 ≤ p + 100) ∨ (t.1 = 1 ∧ (p + 2 ≤ t.2.1 ∧ t.2.1 ≤ n) ∧ KOk t)
theorem drv_in {c : Int} : -1 ≤ drv c ∧ drv c ≤ 3 := by
  unfold drv
  split
  · omega
  · split
    · omega
    · split
      · omega
      · split <;> omega
