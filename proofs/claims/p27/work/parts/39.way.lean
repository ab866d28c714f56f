/-! ===== 39: the catcher's way ===== -/
theorem cntN_add {P P' : Int → Prop} {c : Int} (h1 : ¬ P c) : ∀ n : Nat, (∀ k, 0 ≤ k → k < (n : Int) → (P' k ↔ (P k ∨ k = c))) → 0 ≤ c → c < (n : Int) → cntN P' n = cntN P n + 1 := by
  intro n
  induction n with
  | zero => exact fun _ a b => by simp at b; omega
  | succ n ih =>
    intro h a b
    have hn := h (n : Int) (by omega) (by omega)
    by_cases e : c = (n : Int)
    · have e1 : cntN P' n = cntN P n := cntN_congr n (fun k k0 k1 => by
        rw [h k k0 (by omega)]
        exact ⟨fun q => q.elim id (fun z => by omega), Or.inl⟩)
      rw [cntN_yes (hn.2 (Or.inr e.symm)), cntN_no (by rw [← e]; exact h1), e1]
    · have e1 := ih (fun k k0 k1 => h k k0 (by omega)) a (by omega)
      by_cases z : P (n : Int)
      · rw [cntN_yes z, cntN_yes (hn.2 (Or.inl z)), e1]
      · rw [cntN_no z, cntN_no (fun q => (hn.1 q).elim z (fun y => e y.symm)), e1]
theorem cntN_le {P P' : Int → Prop} : ∀ n : Nat, (∀ k, 0 ≤ k → k < (n : Int) → P' k → P k) → cntN P' n ≤ cntN P n := by
  intro n
  induction n with
  | zero => exact fun _ => Int.le_refl _
  | succ n ih =>
    intro h
    have h1 := ih (fun k a b => h k a (by omega))
    have h2 := h (n : Int) (by omega) (by omega)
    by_cases e : P' (n : Int)
    · rw [cntN_yes e, cntN_yes (h2 e)]
      omega
    · rw [cntN_no e]
      by_cases z : P (n : Int)
      · rw [cntN_yes z]
        omega
      · rw [cntN_no z]
        omega
theorem cntN_lt {P P' : Int → Prop} {c : Int} (hc : P c) (hn : ¬ P' c) (n : Nat) (h : ∀ k, 0 ≤ k → k < (n : Int) → P' k → P k) (a : 0 ≤ c) (b : c < (n : Int)) : cntN P' n < cntN P n := by
  have h1 := cntN_add (P := P') (P' := fun k => P' k ∨ k = c) hn n (fun k _ _ => Iff.rfl) a b
  have h2 := cntN_le (P := P) (P' := fun k => P' k ∨ k = c) n (fun k k0 k1 q => q.elim (h k k0 k1) (fun e => by rw [e]; exact hc))
  omega
/-- the cells that the catcher may reach in n steps -/
def Rc (v : Vw) : Nat → Int → Prop
  | 0 => fun c => c = v 6 (v 0 1)
  | n + 1 => fun c => Rc v n c ∨ (st v c = -5 ∧ ¬ c = -5 ∧ ∃ c' d, (0 ≤ c' ∧ c' < 100) ∧ (0 ≤ d ∧ d < 4) ∧ Rc v n c' ∧ nx c' d = c)
def ex (v : Vw) (k : Nat) (c : Int) : Prop := Rc v k c ∧ ∀ j, j < k → ¬ Rc v j c
theorem Rc_mono {v : Vw} {c : Int} {n m : Nat} (h : Rc v n c) (hm : n ≤ m) : Rc v m c := by
  induction m with
  | zero =>
    have : n = 0 := by omega
    rw [← this]
    exact h
  | succ m ih =>
    by_cases e : n = m + 1
    · rw [← e]
      exact h
    · exact Or.inl (ih (by omega))
theorem ex_eq {v : Vw} {c : Int} {k m : Nat} (h : ex v k c) (h' : ex v m c) : k = m := by
  rcases Nat.lt_trichotomy k m with z | z | z
  · exact absurd h.1 (h'.2 k z)
  · exact z
  · exact absurd h'.1 (h.2 m z)
theorem ex_le {v : Vw} {c : Int} {k m : Nat} (h : ex v k c) (h' : Rc v m c) : k ≤ m := by
  rcases Nat.lt_or_ge m k with z | z
  · exact absurd h' (h.2 m z)
  · exact z
theorem ex_of {v : Vw} {c : Int} : ∀ n : Nat, Rc v n c → ∃ k, k ≤ n ∧ ex v k c := by
  intro n
  induction n with
  | zero => exact fun h => ⟨0, Nat.le_refl _, h, fun j hj => absurd hj (Nat.not_lt_zero _)⟩
  | succ n ih =>
    intro h
    by_cases z : Rc v n c
    · obtain ⟨k, h1, h2⟩ := ih z
      exact ⟨k, by omega, h2⟩
    · exact ⟨n + 1, Nat.le_refl _, h, fun j hj q => z (Rc_mono q (by omega))⟩
theorem Rc_in {v : Vw} (hv : WF v) (hr : isr v (v 0 1)) {c : Int} : ∀ n : Nat, Rc v n c → 0 ≤ c ∧ c < 100 := by
  intro n
  induction n with
  | zero =>
    intro h
    have e : c = v 6 (v 0 1) := h
    rw [e]
    exact hv.cell hr.1 hr.2
  | succ n ih =>
    rintro (h | ⟨h1, h2, c', d, h3, h4, h5, h6⟩)
    · exact ih h
    · rw [← h6]
      exact nx_in h3 h4 (by rw [h6]; exact h2)
def WayIs (v : Vw) (x r : Int) : Prop := (r = -5 ∧ ∀ n c, Rc v n c → ¬ ish v x c) ∨ (∃ k : Nat, r = (k : Int) ∧ (∃ c, Rc v k c ∧ ish v x c) ∧ ∀ j, j < k → ∀ c, Rc v j c → ¬ ish v x c)
noncomputable def wy (v : Vw) (x : Int) : Int := Classical.epsilon (fun r => WayIs v x r)
theorem way_uniq {v : Vw} {x r s : Int} (h : WayIs v x r) (g : WayIs v x s) : r = s := by
  rcases h with ⟨h1, h2⟩ | ⟨k, h1, ⟨c, h2, h3⟩, h4⟩
  · rcases g with ⟨g1, -⟩ | ⟨m, g1, ⟨c, g2, g3⟩, g4⟩
    · rw [h1, g1]
    · exact absurd g3 (h2 m c g2)
  · rcases g with ⟨g1, g2⟩ | ⟨m, g1, ⟨c', g2, g3⟩, g4⟩
    · exact absurd h3 (g2 k c h2)
    · rcases Nat.lt_trichotomy k m with z | z | z
      · exact absurd h3 (g4 k z c h2)
      · rw [h1, g1, z]
      · exact absurd g3 (h4 m z c' g2)
theorem way_sgn {v : Vw} {x r : Int} (h : WayIs v x r) : r = -5 ∨ 0 ≤ r := by
  rcases h with ⟨h1, -⟩ | ⟨k, h1, -⟩
  · exact Or.inl h1
  · exact Or.inr (by omega)
theorem way_is {v : Vw} {x r : Int} (h : WayIs v x r) : wy v x = r := way_uniq (Classical.epsilon_spec (p := fun r => WayIs v x r) ⟨r, h⟩) h
/-! the reference -/
def MW (I J : sh_Mem) : Prop := (∀ o, o ≠ 119 → o ≠ 124 → o ≠ 129 → J o = I o) ∧ ∀ f, f ≠ 7 → f ≠ 8 → J 119 f = I 119 f
theorem MW.rf {I : sh_Mem} : MW I I := ⟨fun _ _ _ _ => rfl, fun _ _ _ => rfl⟩
theorem MW.tr {I J K : sh_Mem} (h : MW I J) (g : MW J K) : MW I K := ⟨fun o a b c => (g.1 o a b c).trans (h.1 o a b c), fun f a b => (g.2 f a b).trans (h.2 f a b)⟩
theorem MW.u {I J : sh_Mem} {f x : Int} (h : MW I J) : MW I (sh_u J 129 f x) := h.tr ⟨fun o a b c => sh_u_ne c, fun f a b => by rw [sh_u_ne (by decide)]⟩
theorem MW.v {I J : sh_Mem} {v : Vw} (h : MW I J) (ev : vM (I 120) = v) : vM (J 120) = v := by rw [h.1 120 (by decide) (by decide) (by decide)]; exact ev
def FarIs (F : Int → Int) (v : Vw) (s : Nat) : Prop := ∀ c, 0 ≤ c → c < 100 → (F c = -5 ∧ ¬ Rc v s c) ∨ (∃ k : Nat, F c = (k : Int) ∧ k ≤ s ∧ ex v k c)
def Mid (F : Int → Int) (v : Vw) (s : Nat) (a b : Int) : Prop := ∀ c, 0 ≤ c → c < 100 → (F c = -5 ∧ ¬ Rc v s c ∧ ∀ c' d, (0 ≤ c' ∧ c' < 100) → (0 ≤ d ∧ d < 4) → (c' < a ∨ (c' = a ∧ d < b)) → ex v s c' → nx c' d = c → ¬ st v c = -5) ∨ (∃ k : Nat, F c = (k : Int) ∧ k ≤ s ∧ ex v k c) ∨ (F c = (s : Int) + 1 ∧ ex v (s + 1) c)
def Flg (F : Int → Int) (s : Nat) (y : Int) : Prop := (y = 0 ∧ ∀ c, 0 ≤ c → c < 100 → ¬ F c = (s : Int) + 1) ∨ (y = 1 ∧ ∃ c, (0 ≤ c ∧ c < 100) ∧ F c = (s : Int) + 1)
theorem far_mid {F : Int → Int} {v : Vw} {s : Nat} (h : FarIs F v s) : Mid F v s 0 0 ∧ Flg F s 0 := by
  refine ⟨fun c c0 c1 => ?_, Or.inl ⟨rfl, fun c c0 c1 e => ?_⟩⟩
  · rcases h c c0 c1 with ⟨h1, h2⟩ | h1
    · exact Or.inl ⟨h1, h2, fun c' d q1 q2 q3 => by omega⟩
    · exact Or.inr (Or.inl h1)
  · rcases h c c0 c1 with ⟨h1, h2⟩ | ⟨k, h1, h2, h3⟩ <;> omega
theorem mid_next {F : Int → Int} {v : Vw} {s : Nat} {a : Int} (h : Mid F v s a 4) : Mid F v s (a + 1) 0 := fun c c0 c1 => by
  rcases h c c0 c1 with ⟨h1, h2, h3⟩ | h1
  · exact Or.inl ⟨h1, h2, fun c' d q1 q2 q3 => h3 c' d q1 q2 (by omega)⟩
  · exact Or.inr h1
theorem mid_skip {F : Int → Int} {v : Vw} {s : Nat} {a b : Int} (h : Mid F v s a b) (ha : 0 ≤ a ∧ a < 100) (hn : ¬ F a = (s : Int)) : Mid F v s (a + 1) 0 := fun c c0 c1 => by
  have hx : ¬ ex v s a := fun q => by
    rcases h a ha.1 ha.2 with ⟨h1, h2, -⟩ | ⟨k, h1, h2, h3⟩ | ⟨h1, h2⟩
    · exact h2 q.1
    · exact hn (by rw [h1, ex_eq h3 q])
    · have := ex_eq h2 q
      omega
  rcases h c c0 c1 with ⟨h1, h2, h3⟩ | h1
  · refine Or.inl ⟨h1, h2, fun c' d q1 q2 q3 q4 => ?_⟩
    by_cases e : c' = a
    · rw [e] at q4
      exact absurd q4 hx
    · exact h3 c' d q1 q2 (by omega) q4
  · exact Or.inr h1
theorem mid_ex {F : Int → Int} {v : Vw} {s : Nat} {a b : Int} (h : Mid F v s a b) (ha : 0 ≤ a ∧ a < 100) (hn : F a = (s : Int)) : ex v s a := by
  rcases h a ha.1 ha.2 with ⟨h1, h2, -⟩ | ⟨k, h1, h2, h3⟩ | ⟨h1, h2⟩
  · omega
  · have : k = s := by omega
    rw [← this]
    exact h3
  · omega
theorem mid_step {F : Int → Int} {v : Vw} {s : Nat} {a b : Int} (h : Mid F v s a b) (hn : nx a b = -5 ∨ (¬ F (nx a b) = -5) ∨ ¬ st v (nx a b) = -5) : Mid F v s a (b + 1) := fun c c0 c1 => by
  rcases h c c0 c1 with ⟨h1, h2, h3⟩ | h1
  · refine Or.inl ⟨h1, h2, fun c' d q1 q2 q3 q4 q5 => ?_⟩
    by_cases e : c' = a ∧ d = b
    · rw [e.1, e.2] at q5
      rw [q5] at hn
      rcases hn with hn | hn | hn
      · omega
      · exact absurd h1 hn
      · exact hn
    · exact h3 c' d q1 q2 (by omega) q4 q5
  · exact Or.inr h1
theorem far_end {F : Int → Int} {v : Vw} {s : Nat} (hv : WF v) (hr : isr v (v 0 1)) (h : Mid F v s 100 0) : FarIs F v (s + 1) := fun c c0 c1 => by
  rcases h c c0 c1 with ⟨h1, h2, h3⟩ | ⟨k, h1, h2, h3⟩ | ⟨h1, h2⟩
  · refine Or.inl ⟨h1, ?_⟩
    rintro (q | ⟨q1, q2, c', d, q3, q4, q5, q6⟩)
    · exact h2 q
    · obtain ⟨k, k1, k2⟩ := ex_of s q5
      by_cases e : k = s
      · rw [e] at k2
        exact h3 c' d q3 q4 (by omega) k2 q6 q1
      · exact h2 (Rc_mono (n := k + 1) (Or.inr ⟨q1, q2, c', d, q3, q4, k2.1, q6⟩) (by omega))
  · exact Or.inr ⟨k, h1, by omega, h3⟩
  · exact Or.inr ⟨s + 1, by omega, Nat.le_refl _, h2⟩
theorem Rc_stop {v : Vw} {s : Nat} (h : ∀ c, Rc v (s + 1) c → Rc v s c) : ∀ n c, Rc v n c → Rc v s c := by
  intro n
  induction n with
  | zero => exact fun c q => Rc_mono q (Nat.zero_le _)
  | succ n ih =>
    rintro c (q | ⟨q1, q2, c', d, q3, q4, q5, q6⟩)
    · exact ih c q
    · exact h c (Or.inr ⟨q1, q2, c', d, q3, q4, ih c' q5, q6⟩)
