/-! ===== 39: the catcher's way ===== -/
theorem cntN_add {P P' : Int → Prop} {c : Int} (h1 : ¬ P c) : ∀ n : Nat, (∀ k, 0 ≤ k → k < (n : Int) → (P' k ↔ (P k ∨ k = c))) → 0 ≤ c → c < (n : Int) → cntN P' n = cntN P n + 1 := by
  intro n
  induction n with
  | zero => exact fun _ a b => by simp at b; omega
  | succ n ih =>
    intro h a b
    have hn := h (n : Int) (by omega) (by omega)
    by_cases e : c = (n : Int)
    · have e1 : cntN P' n = cntN P n := cntN_congr n (fun k k0 k1 => by
        rw [h k k0 (by omega)]
        exact ⟨fun q => q.elim id (fun z => by omega), Or.inl⟩)
      rw [cntN_yes (hn.2 (Or.inr e.symm)), cntN_no (by rw [← e]; exact h1), e1]
    · have e1 := ih (fun k k0 k1 => h k k0 (by omega)) a (by omega)
      by_cases z : P (n : Int)
      · rw [cntN_yes z, cntN_yes (hn.2 (Or.inl z)), e1]
      · rw [cntN_no z, cntN_no (fun q => (hn.1 q).elim z (fun y => e y.symm)), e1]
theorem cntN_le {P P' : Int → Prop} : ∀ n : Nat, (∀ k, 0 ≤ k → k < (n : Int) → P' k → P k) → cntN P' n ≤ cntN P n := by
  intro n
  induction n with
  | zero => exact fun _ => Int.le_refl _
  | succ n ih =>
    intro h
    have h1 := ih (fun k a b => h k a (by omega))
    have h2 := h (n : Int) (by omega) (by omega)
    by_cases e : P' (n : Int)
    · rw [cntN_yes e, cntN_yes (h2 e)]
      omega
    · rw [cntN_no e]
      by_cases z : P (n : Int)
      · rw [cntN_yes z]
        omega
      · rw [cntN_no z]
        omega
theorem cntN_lt {P P' : Int → Prop} {c : Int} (hc : P c) (hn : ¬ P' c) (n : Nat) (h : ∀ k, 0 ≤ k → k < (n : Int) → P' k → P k) (a : 0 ≤ c) (b : c < (n : Int)) : cntN P' n < cntN P n := by
  have h1 := cntN_add (P := P') (P' := fun k => P' k ∨ k = c) hn n (fun k _ _ => Iff.rfl) a b
  have h2 := cntN_le (P := P) (P' := fun k => P' k ∨ k = c) n (fun k k0 k1 q => q.elim (h k k0 k1) (fun e => by rw [e]; exact hc))
  omega
/-- the cells that the catcher may reach in n steps -/
def Rc (v : Vw) : Nat → Int → Prop
  | 0 => fun c => c = v 6 (v 0 1)
  | n + 1 => fun c => Rc v n c ∨ (st v c = -5 ∧ ¬ c = -5 ∧ ∃ c' d, (0 ≤ c' ∧ c' < 100) ∧ (0 ≤ d ∧ d < 4) ∧ Rc v n c' ∧ nx c' d = c)
def ex (v : Vw) (k : Nat) (c : Int) : Prop := Rc v k c ∧ ∀ j, j < k → ¬ Rc v j c
theorem Rc_mono {v : Vw} {c : Int} {n m : Nat} (h : Rc v n c) (hm : n ≤ m) : Rc v m c := by
  induction m with
  | zero =>
    have : n = 0 := by omega
    rw [← this]
    exact h
  | succ m ih =>
    by_cases e : n = m + 1
    · rw [← e]
      exact h
    · exact Or.inl (ih (by omega))
theorem ex_eq {v : Vw} {c : Int} {k m : Nat} (h : ex v k c) (h' : ex v m c) : k = m := by
  rcases Nat.lt_trichotomy k m with z | z | z
  · exact absurd h.1 (h'.2 k z)
  · exact z
  · exact absurd h'.1 (h.2 m z)
theorem ex_le {v : Vw} {c : Int} {k m : Nat} (h : ex v k c) (h' : Rc v m c) : k ≤ m := by
  rcases Nat.lt_or_ge m k with z | z
  · exact absurd h' (h.2 m z)
  · exact z
theorem ex_of {v : Vw} {c : Int} : ∀ n : Nat, Rc v n c → ∃ k, k ≤ n ∧ ex v k c := by
  intro n
  induction n with
  | zero => exact fun h => ⟨0, Nat.le_refl _, h, fun j hj => absurd hj (Nat.not_lt_zero _)⟩
  | succ n ih =>
    intro h
    by_cases z : Rc v n c
    · obtain ⟨k, h1, h2⟩ := ih z
      exact ⟨k, by omega, h2⟩
    · exact ⟨n + 1, Nat.le_refl _, h, fun j hj q => z (Rc_mono q (by omega))⟩
theorem Rc_in {v : Vw} (hv : WF v) (hr : isr v (v 0 1)) {c : Int} : ∀ n : Nat, Rc v n c → 0 ≤ c ∧ c < 100 := by
  intro n
  induction n with
  | zero =>
    intro h
    have e : c = v 6 (v 0 1) := h
    rw [e]
    exact hv.cell hr.1 hr.2
  | succ n ih =>
    rintro (h | ⟨h1, h2, c', d, h3, h4, h5, h6⟩)
    · exact ih h
    · rw [← h6]
      exact nx_in h3 h4 (by rw [h6]; exact h2)
def WayIs (v : Vw) (x r : Int) : Prop := (r = -5 ∧ ∀ n c, Rc v n c → ¬ ish v x c) ∨ (∃ k : Nat, r = (k : Int) ∧ (∃ c, Rc v k c ∧ ish v x c) ∧ ∀ j, j < k → ∀ c, Rc v j c → ¬ ish v x c)
noncomputable def wy (v : Vw) (x : Int) : Int := Classical.epsilon (fun r => WayIs v x r)
theorem way_uniq {v : Vw} {x r s : Int} (h : WayIs v x r) (g : WayIs v x s) : r = s := by
  rcases h with ⟨h1, h2⟩ | ⟨k, h1, ⟨c, h2, h3⟩, h4⟩
  · rcases g with ⟨g1, -⟩ | ⟨m, g1, ⟨c, g2, g3⟩, g4⟩
    · rw [h1, g1]
    · exact absurd g3 (h2 m c g2)
  · rcases g with ⟨g1, g2⟩ | ⟨m, g1, ⟨c', g2, g3⟩, g4⟩
    · exact absurd h3 (g2 k c h2)
    · rcases Nat.lt_trichotomy k m with z | z | z
      · exact absurd h3 (g4 k z c h2)
      · rw [h1, g1, z]
      · exact absurd g3 (h4 m z c' g2)
theorem way_sgn {v : Vw} {x r : Int} (h : WayIs v x r) : r = -5 ∨ 0 ≤ r := by
  rcases h with ⟨h1, -⟩ | ⟨k, h1, -⟩
  · exact Or.inl h1
  · exact Or.inr (by omega)
theorem way_is {v : Vw} {x r : Int} (h : WayIs v x r) : wy v x = r := way_uniq (Classical.epsilon_spec (p := fun r => WayIs v x r) ⟨r, h⟩) h
/-! the reference -/
def MW (I J : sh_Mem) : Prop := (∀ o, o ≠ 119 → o ≠ 124 → o ≠ 129 → J o = I o) ∧ ∀ f, f ≠ 7 → f ≠ 8 → J 119 f = I 119 f
theorem MW.rf {I : sh_Mem} : MW I I := ⟨fun _ _ _ _ => rfl, fun _ _ _ => rfl⟩
theorem MW.tr {I J K : sh_Mem} (h : MW I J) (g : MW J K) : MW I K := ⟨fun o a b c => (g.1 o a b c).trans (h.1 o a b c), fun f a b => (g.2 f a b).trans (h.2 f a b)⟩
theorem MW.ms {I J K : sh_Mem} (h : MW I J) (g : MS J K) : MW I K := h.tr ⟨fun o a b c => by
  by_cases e : o = 120
  · rw [e]
    exact g.2
  · exact g.1.1 o a e b, g.1.2⟩
theorem MW.u {I J : sh_Mem} {f x : Int} (h : MW I J) : MW I (sh_u J 129 f x) := h.tr ⟨fun o a b c => sh_u_ne c, fun f a b => by rw [sh_u_ne (by decide)]⟩
theorem MW.v {I J : sh_Mem} {v : Vw} (h : MW I J) (ev : vM (I 120) = v) : vM (J 120) = v := by rw [h.1 120 (by decide) (by decide) (by decide)]; exact ev
theorem MW.same {I J : sh_Mem} (h : MW I J) : MSame I J := ⟨by rw [h.1 120 (by decide) (by decide) (by decide)], fun o f q => by
  by_cases e : o = 119
  · subst e
    exact h.2 f (by omega) (by omega)
  · rw [h.1 o e (by omega) (by omega)]⟩
theorem MS.o129 {I J : sh_Mem} (h : MS I J) : J 129 = I 129 := h.1.1 129 (by decide) (by decide) (by decide)
def FarIs (F : Int → Int) (v : Vw) (s : Nat) : Prop := ∀ c, 0 ≤ c → c < 100 → (F c = -5 ∧ ¬ Rc v s c) ∨ (∃ k : Nat, F c = (k : Int) ∧ k ≤ s ∧ ex v k c)
def Mid (F : Int → Int) (v : Vw) (s : Nat) (a b : Int) : Prop := ∀ c, 0 ≤ c → c < 100 → (F c = -5 ∧ ¬ Rc v s c ∧ ∀ c' d, (0 ≤ c' ∧ c' < 100) → (0 ≤ d ∧ d < 4) → (c' < a ∨ (c' = a ∧ d < b)) → ex v s c' → nx c' d = c → ¬ st v c = -5) ∨ (∃ k : Nat, F c = (k : Int) ∧ k ≤ s ∧ ex v k c) ∨ (F c = (s : Int) + 1 ∧ ex v (s + 1) c)
def Flg (F : Int → Int) (s : Nat) (y : Int) : Prop := (y = 0 ∧ ∀ c, 0 ≤ c → c < 100 → ¬ F c = (s : Int) + 1) ∨ (y = 1 ∧ ∃ c, (0 ≤ c ∧ c < 100) ∧ F c = (s : Int) + 1)
theorem far_mid {F : Int → Int} {v : Vw} {s : Nat} (h : FarIs F v s) : Mid F v s 0 0 ∧ Flg F s 0 := by
  refine ⟨fun c c0 c1 => ?_, Or.inl ⟨rfl, fun c c0 c1 e => ?_⟩⟩
  · rcases h c c0 c1 with ⟨h1, h2⟩ | h1
    · exact Or.inl ⟨h1, h2, fun c' d q1 q2 q3 => by omega⟩
    · exact Or.inr (Or.inl h1)
  · rcases h c c0 c1 with ⟨h1, h2⟩ | ⟨k, h1, h2, h3⟩ <;> omega
theorem mid_next {F : Int → Int} {v : Vw} {s : Nat} {a : Int} (h : Mid F v s a 4) : Mid F v s (a + 1) 0 := fun c c0 c1 => by
  rcases h c c0 c1 with ⟨h1, h2, h3⟩ | h1
  · exact Or.inl ⟨h1, h2, fun c' d q1 q2 q3 => h3 c' d q1 q2 (by omega)⟩
  · exact Or.inr h1
theorem mid_skip {F : Int → Int} {v : Vw} {s : Nat} {a b : Int} (h : Mid F v s a b) (ha : 0 ≤ a ∧ a < 100) (hn : ¬ F a = (s : Int)) : Mid F v s (a + 1) 0 := fun c c0 c1 => by
  have hx : ¬ ex v s a := fun q => by
    rcases h a ha.1 ha.2 with ⟨h1, h2, -⟩ | ⟨k, h1, h2, h3⟩ | ⟨h1, h2⟩
    · exact h2 q.1
    · exact hn (by rw [h1, ex_eq h3 q])
    · have := ex_eq h2 q
      omega
  rcases h c c0 c1 with ⟨h1, h2, h3⟩ | h1
  · refine Or.inl ⟨h1, h2, fun c' d q1 q2 q3 q4 => ?_⟩
    by_cases e : c' = a
    · rw [e] at q4
      exact absurd q4 hx
    · exact h3 c' d q1 q2 (by omega) q4
  · exact Or.inr h1
theorem mid_ex {F : Int → Int} {v : Vw} {s : Nat} {a b : Int} (h : Mid F v s a b) (ha : 0 ≤ a ∧ a < 100) (hn : F a = (s : Int)) : ex v s a := by
  rcases h a ha.1 ha.2 with ⟨h1, h2, -⟩ | ⟨k, h1, h2, h3⟩ | ⟨h1, h2⟩
  · omega
  · have : k = s := by omega
    rw [← this]
    exact h3
  · omega
theorem mid_step {F : Int → Int} {v : Vw} {s : Nat} {a b : Int} (h : Mid F v s a b) (hn : nx a b = -5 ∨ (¬ F (nx a b) = -5) ∨ ¬ st v (nx a b) = -5) : Mid F v s a (b + 1) := fun c c0 c1 => by
  rcases h c c0 c1 with ⟨h1, h2, h3⟩ | h1
  · refine Or.inl ⟨h1, h2, fun c' d q1 q2 q3 q4 q5 => ?_⟩
    by_cases e : c' = a ∧ d = b
    · rw [e.1, e.2] at q5
      rw [q5] at hn
      rcases hn with hn | hn | hn
      · omega
      · exact absurd h1 hn
      · exact hn
    · exact h3 c' d q1 q2 (by omega) q4 q5
  · exact Or.inr h1
theorem far_end {F : Int → Int} {v : Vw} {s : Nat} (hv : WF v) (hr : isr v (v 0 1)) (h : Mid F v s 100 0) : FarIs F v (s + 1) := fun c c0 c1 => by
  rcases h c c0 c1 with ⟨h1, h2, h3⟩ | ⟨k, h1, h2, h3⟩ | ⟨h1, h2⟩
  · refine Or.inl ⟨h1, ?_⟩
    rintro (q | ⟨q1, q2, c', d, q3, q4, q5, q6⟩)
    · exact h2 q
    · obtain ⟨k, k1, k2⟩ := ex_of s q5
      by_cases e : k = s
      · rw [e] at k2
        exact h3 c' d q3 q4 (by omega) k2 q6 q1
      · exact h2 (Rc_mono (n := k + 1) (Or.inr ⟨q1, q2, c', d, q3, q4, k2.1, q6⟩) (by omega))
  · exact Or.inr ⟨k, h1, by omega, h3⟩
  · exact Or.inr ⟨s + 1, by omega, Nat.le_refl _, h2⟩
theorem Rc_stop {v : Vw} {s : Nat} (h : ∀ c, Rc v (s + 1) c → Rc v s c) : ∀ n c, Rc v n c → Rc v s c := by
  intro n
  induction n with
  | zero => exact fun c q => Rc_mono q (Nat.zero_le _)
  | succ n ih =>
    rintro c (q | ⟨q1, q2, c', d, q3, q4, q5, q6⟩)
    · exact ih c q
    · exact h c (Or.inr ⟨q1, q2, c', d, q3, q4, ih c' q5, q6⟩)
theorem r_wayEnd {x : Int} {I : sh_Mem} {Q : Int → sh_Mem → Prop} {v : Vw} {s : Nat} (ev : vM (I 120) = v) (hv : WF v) (hx : isr v x) (hr : isr v (v 0 1)) (hs : s ≤ 99) (hf : FarIs (I 129) v s) (hst : ∀ n c, Rc v n c → Rc v s c) (h : ∀ J, MW I J → (wy v x = -5 ∨ 0 ≤ wy v x) ∧ wy v x ≤ 99 → Q (wy v x) J) : kk mX7_way 175 [some (.inr 119), some (.inl x), none, some (.inl (-5)), some (.inl 0), none, none, none] [] I (qi Q) := by
  have hb : ∀ c, 0 ≤ c → c < 100 → -5 ≤ I 129 c ∧ I 129 c ≤ 99 := fun c c0 c1 => by
    rcases hf c c0 c1 with ⟨h1, -⟩ | ⟨k, h1, h2, -⟩ <;> omega
  have key : ∀ (n : Nat) (y z : Int) (J : sh_Mem), 0 ≤ y → y + (n : Int) = 100 → MW I J → J 129 = I 129 → ((z = -5 ∧ ∀ c, 0 ≤ c → c < y → ¬ I 129 c = -5 → ¬ ish v x c) ∨ ((∃ c, (0 ≤ c ∧ c < y) ∧ I 129 c = z ∧ ¬ z = -5 ∧ ish v x c) ∧ ∀ c, 0 ≤ c → c < y → ¬ I 129 c = -5 → ish v x c → z ≤ I 129 c)) → kk mX7_way 175 [some (.inr 119), some (.inl x), none, some (.inl z), some (.inl y), none, none, none] [] J (qi Q) := by
    intro n
    induction n with
    | zero =>
      intro y z J g0 g1 g2 g3 g4
      refine lX7_way_175 ⟨bdi (by omega), fun _ => ?_, fun q => absurd q (by omega)⟩
      have hw : WayIs v x z ∧ -5 ≤ z ∧ z ≤ 99 := by
        rcases g4 with ⟨z1, z2⟩ | ⟨⟨c, z1, z2, z3, z4⟩, z5⟩
        · refine ⟨Or.inl ⟨z1, fun m c q => ?_⟩, by omega, by omega⟩
          have hc := Rc_in hv hr m q
          refine z2 c hc.1 (by omega) (fun e => ?_)
          rcases hf c hc.1 hc.2 with ⟨h1, h2⟩ | ⟨k, h1, -⟩
          · exact h2 (hst m c q)
          · omega
        · have hbc := hb c z1.1 (by omega)
          refine ⟨Or.inr ?_, by omega, by omega⟩
          rcases hf c z1.1 (by omega) with ⟨h1, h2⟩ | ⟨k, h1, h2, h3⟩
          · exact absurd (z2.symm.trans h1) z3
          · refine ⟨k, by omega, ⟨c, h3.1, z4⟩, fun j hj c' q q2 => ?_⟩
            have hc' := Rc_in hv hr j q
            rcases hf c' hc'.1 hc'.2 with ⟨f1, f2⟩ | ⟨k', f1, f2, f3⟩
            · exact f2 (hst j c' q)
            · have := ex_le f3 q
              have := z5 c' hc'.1 (by omega) (by omega) q2
              omega
      have e := way_is hw.1
      rw [← e]
      exact h J g2 (by rw [e]; exact ⟨way_sgn hw.1, hw.2.2⟩)
    | succ n ih =>
      intro y z J g0 g1 g2 g3 g4
      have hbc := hb y g0 (by omega)
      have hzb : -5 ≤ z ∧ z ≤ 99 := by
        rcases g4 with ⟨z1, -⟩ | ⟨⟨c, z1, z2, -⟩, -⟩
        · omega
        · have := hb c z1.1 (by omega)
          omega
      have no : (I 129 y = -5 ∨ ¬ ish v x y) → ∀ K, MW I K → K 129 = I 129 → kk mX7_way 209 [some (.inr 119), some (.inl x), none, some (.inl z), some (.inl y), none, none, none] [.inl 0] K (qi Q) := fun hn K hK eK => by
        refine lX7_way_209 ⟨bd_lit (by decide), fun _ => ih (y + 1) z K (by omega) (by omega) hK eK ?_, fun q => absurd rfl q⟩
        rcases g4 with ⟨z1, z2⟩ | ⟨⟨c, z1, z2, z3, z4⟩, z5⟩
        · refine Or.inl ⟨z1, fun c c0 c1 => ?_⟩
          by_cases e : c = y
          · subst e
            exact fun a b => hn.elim a (fun q => q b)
          · exact z2 c c0 (by omega)
        · refine Or.inr ⟨⟨c, by omega, z2, z3, z4⟩, fun c c0 c1 => ?_⟩
          by_cases e : c = y
          · subst e
            exact fun a b => absurd b (hn.elim (fun q => absurd q a) id)
          · exact z5 c c0 (by omega)
      refine lX7_way_175 ⟨bdi (by omega), fun q => absurd q (by omega), fun q => ⟨by omega, by rw [g3]; exact bdi (by omega), fun q2 => no (Or.inl (by rw [← g3]; exact q2)) J g2 g3, fun q2 => r_isInShadowOf (g2.v ev) hv hx ⟨g0, q⟩ (fun q3 K hK => Or.inl ⟨rfl, ?_⟩) (fun q3 K hK => Or.inr ⟨rfl, no (Or.inr q3) K (g2.ms hK) (hK.o129.trans g3)⟩)⟩⟩
      rw [g3] at q2
      have eK : K 129 = I 129 := hK.o129.trans g3
      refine lX7_way_209 ⟨bd_lit (by decide), fun q => absurd q (by decide), fun _ => ⟨bdi (by omega), fun q4 => ⟨by omega, ih (y + 1) _ K (by omega) (by omega) (g2.ms hK) eK ?_⟩, fun q4 => ⟨by omega, by rw [eK]; exact bdi (by omega), fun q5 => ih (y + 1) z K (by omega) (by omega) (g2.ms hK) eK ?_, fun q5 => ih (y + 1) _ K (by omega) (by omega) (g2.ms hK) eK ?_⟩⟩⟩
      · rw [eK]
        rcases g4 with ⟨z1, z2⟩ | ⟨⟨c, z1, z2, z3, z4⟩, z5⟩
        · refine Or.inr ⟨⟨y, by omega, rfl, q2, q3⟩, fun c c0 c1 a b => ?_⟩
          by_cases e : c = y
          · rw [e]
            exact Int.le_refl _
          · exact absurd b (z2 c c0 (by omega) a)
        · exact absurd q4 z3
      · rw [eK] at q5
        rcases g4 with ⟨z1, z2⟩ | ⟨⟨c, z1, z2, z3, z4⟩, z5⟩
        · exact absurd z1 q4
        · refine Or.inr ⟨⟨c, by omega, z2, z3, z4⟩, fun c' c0 c1 a b => ?_⟩
          by_cases e : c' = y
          · rw [e]
            exact q5
          · exact z5 c' c0 (by omega) a b
      · rw [eK] at q5 ⊢
        rcases g4 with ⟨z1, z2⟩ | ⟨⟨c, z1, z2, z3, z4⟩, z5⟩
        · exact absurd z1 q4
        · refine Or.inr ⟨⟨y, by omega, rfl, q2, q3⟩, fun c' c0 c1 a b => ?_⟩
          by_cases e : c' = y
          · rw [e]
            exact Int.le_refl _
          · have := z5 c' c0 (by omega) a b
            omega
  exact key 100 0 (-5) I (by omega) (by omega) MW.rf rfl (Or.inl ⟨rfl, fun c c0 c1 => by omega⟩)
theorem r_way {x : Int} {I : sh_Mem} {Q : Int → sh_Mem → Prop} {v : Vw} (ev : vM (I 120) = v) (hv : WF v) (hx : isr v x) (hr : isr v (v 0 1)) (h : ∀ J, MW I J → (wy v x = -5 ∨ 0 ≤ wy v x) ∧ wy v x ≤ 99 → Q (wy v x) J) : cc mX7_way [.inr 119, .inl x] I (qi Q) := by
  have hr6 := isr_bd hv hr
  have hcc := hv.cell hr.1 hr.2
  -- a layer
  have layer : ∀ (s : Nat), s ≤ 99 → (∀ (J : sh_Mem) (y2 : Int), MW I J → FarIs (J 129) v (s + 1) → Flg (J 129) s y2 → kk mX7_way 43 [some (.inr 119), some (.inl x), some (.inl y2), some (.inl ((s : Int) + 1)), none, none, none, none] [] J (qi Q)) → ∀ (n : Nat) (a y2 : Int) (J : sh_Mem), 0 ≤ a → a + (n : Int) = 100 → MW I J → Mid (J 129) v s a 0 → Flg (J 129) s y2 → kk mX7_way 52 [some (.inr 119), some (.inl x), some (.inl y2), some (.inl (s : Int)), some (.inl a), none, none, none] [] J (qi Q) := by
    intro s hs hk n
    induction n with
    | zero =>
      intro a y2 J g0 g1 g2 g3 g4
      have : a = 100 := by omega
      subst this
      exact lX7_way_52 ⟨bdi (by omega), fun _ => hk J y2 g2 (far_end hv hr g3) g4, fun q => absurd q (by omega)⟩
    | succ n ih =>
      intro a y2 J g0 g1 g2 g3 g4
      have dirs : ∀ (m : Nat) (b y2 : Int) (J : sh_Mem), 0 ≤ b → b + (m : Int) = 4 → MW I J → Mid (J 129) v s a b → Flg (J 129) s y2 → kk mX7_way 62 [some (.inr 119), some (.inl x), some (.inl y2), some (.inl (s : Int)), some (.inl a), some (.inl b), none, none] [] J (qi Q) := by
        intro m
        induction m with
        | zero =>
          intro b y2 J f0 f1 f2 f3 f4
          have : b = 4 := by omega
          subst this
          exact lX7_way_62 ⟨bdi (by omega), fun _ => ih (a + 1) y2 J (by omega) (by omega) f2 (mid_next f3) f4, fun q => absurd q (by omega)⟩
        | succ m ih2 =>
          intro b y2 J f0 f1 f2 f3 f4
          have ha : 0 ≤ a ∧ a < 100 := by omega
          have hFb : ∀ c, 0 ≤ c → c < 100 → -5 ≤ J 129 c ∧ J 129 c ≤ 100 := fun c c0 c1 => by
            rcases f3 c c0 c1 with ⟨h1, -⟩ | ⟨k, h1, h2, -⟩ | ⟨h1, -⟩ <;> omega
          have hFa := hFb a ha.1 ha.2
          have no : (nx a b = -5 ∨ (¬ J 129 (nx a b) = -5) ∨ ¬ st v (nx a b) = -5) → kk mX7_way 131 [some (.inr 119), some (.inl x), some (.inl y2), some (.inl (s : Int)), some (.inl a), some (.inl b), some (.inl (nx a b)), none] [] J (qi Q) := fun q =>
            lX7_way_131 (lX7_way_132 ⟨bd_lit (by decide), fun _ => ih2 (b + 1) y2 J (by omega) (by omega) f2 (mid_step f3 q) f4, fun q => absurd rfl q⟩)
          refine lX7_way_62 ⟨bdi (by omega), fun q => absurd q (by omega), fun _ => ⟨ha, bdi (by omega), bdi (by omega), fun q => ih (a + 1) y2 J (by omega) (by omega) f2 (mid_skip f3 ha q) f4, fun q => r_next ha ⟨f0, by omega⟩ ⟨?_, fun q2 => no (Or.inl q2), fun q2 => ?_⟩⟩⟩
          · by_cases e : nx a b = -5
            · rw [e]
              exact bd_lit (by decide)
            · have := nx_in ha ⟨f0, by omega⟩ e
              exact bdi (by omega)
          · have hn := nx_in ha ⟨f0, by omega⟩ q2
            have hFn := hFb _ hn.1 hn.2
            have hsb := st_bd hv (nx a b)
            refine ⟨fun _ => ⟨hn, bdi (by omega), fun q3 => no (Or.inr (Or.inl q3)), fun q3 => r_runnerAt (f2.v ev) hv (bdi (by omega)) ⟨bdi (by omega), fun q4 => no (Or.inr (Or.inr q4)), fun q4 => ?_⟩⟩, fun q3 => absurd q3 (by omega)⟩
            have hex : ex v s a := mid_ex f3 ha q
            have hnr : ¬ Rc v s (nx a b) := by
              rcases f3 _ hn.1 hn.2 with ⟨-, h2, -⟩ | ⟨k, h1, -⟩ | ⟨h1, -⟩
              · exact h2
              · omega
              · omega
            have hnew : ex v (s + 1) (nx a b) := ⟨Or.inr ⟨q4, q2, a, b, ha, ⟨f0, by omega⟩, hex.1, rfl⟩, fun j hj q => hnr (Rc_mono q (by omega))⟩
            refine lX7_way_132 ⟨bd_lit (by decide), fun q => absurd q (by decide), fun _ => ⟨hn, ih2 (b + 1) 1 _ (by omega) (by omega) f2.u (fun c c0 c1 => ?_) (Or.inr ⟨rfl, nx a b, hn, by simp [sh_u]⟩)⟩⟩
            by_cases e : c = nx a b
            · refine Or.inr (Or.inr ⟨by rw [e]; simp [sh_u], by rw [e]; exact hnew⟩)
            · have e9 : sh_u J 129 (nx a b) ((s : Int) + 1) 129 c = J 129 c := sh_u_nf e
              rw [e9]
              rcases f3 c c0 c1 with ⟨h1, h2, h3⟩ | h1
              · refine Or.inl ⟨h1, h2, fun c' d q1 q2' q3' q4' q5 => ?_⟩
                by_cases z : c' = a ∧ d = b
                · rw [z.1, z.2] at q5
                  exact absurd q5.symm e
                · exact h3 c' d q1 q2' (by omega) q4' q5
              · exact Or.inr h1
      exact lX7_way_52 ⟨bdi (by omega), fun q => absurd q (by omega), fun q => dirs 4 0 y2 J (by omega) (by omega) g2 g3 g4⟩
  -- all layers
  have all : ∀ (n : Nat) (s : Nat) (J : sh_Mem), cntN (fun c => ¬ Rc v s c) 100 ≤ (n : Int) → (s : Int) + cntN (fun c => ¬ Rc v s c) 100 ≤ 99 → MW I J → FarIs (J 129) v s → kk mX7_way 43 [some (.inr 119), some (.inl x), some (.inl 1), some (.inl (s : Int)), none, none, none, none] [] J (qi Q) := by
    intro n
    induction n with
    | zero =>
      intro s J g0 g1 g2 g3
      have hc0 := cntN_in (P := fun c => ¬ Rc v s c) 100
      obtain ⟨m1, m2⟩ := far_mid g3
      refine lX7_way_43 ⟨bd_lit (by decide), fun q => absurd q (by decide), fun _ => layer s (by omega) (fun K y2 k1 k2 k3 => ?_) 100 0 0 J (by omega) (by omega) g2 m1 m2⟩
      have hfull : ∀ c, 0 ≤ c → c < 100 → Rc v s c := fun c c0 c1 => Classical.byContradiction fun q => by
        have := (cntN_pos (P := fun c => ¬ Rc v s c) 100).2 ⟨c, ⟨c0, c1⟩, q⟩
        omega
      have hst : ∀ n c, Rc v n c → Rc v (s + 1) c := fun n c q => by
        have := Rc_in hv hr n q
        exact Or.inl (hfull c this.1 this.2)
      rcases k3 with ⟨e, -⟩ | ⟨e, c, hc, hF⟩
      · subst e
        have hs9 : s + 1 ≤ 99 ∨ s = 99 := by omega
        refine lX7_way_43 ⟨bd_lit (by decide), fun _ => r_wayEnd (s := s) (k1.v ev) hv hx hr (by omega) (fun c c0 c1 => ?_) (fun n c q => by have := Rc_in hv hr n q; exact hfull c this.1 this.2) (fun L hL hb => h L (k1.tr hL) hb), fun q => absurd rfl q⟩
        rcases k2 c c0 c1 with ⟨h1, h2⟩ | ⟨k, h1, h2, h3⟩
        · exact absurd (Or.inl (hfull c c0 c1)) h2
        · exact Or.inr ⟨k, h1, ex_le h3 (hfull c c0 c1), h3⟩
      · rcases k2 c hc.1 hc.2 with ⟨h1, h2⟩ | ⟨k, h1, h2, h3⟩
        · omega
        · have := ex_le h3 (hfull c hc.1 hc.2)
          omega
    | succ n ih =>
      intro s J g0 g1 g2 g3
      have hc0 := cntN_in (P := fun c => ¬ Rc v s c) 100
      obtain ⟨m1, m2⟩ := far_mid g3
      refine lX7_way_43 ⟨bd_lit (by decide), fun q => absurd q (by decide), fun _ => layer s (by omega) (fun K y2 k1 k2 k3 => ?_) 100 0 0 J (by omega) (by omega) g2 m1 m2⟩
      rcases k3 with ⟨e, hno⟩ | ⟨e, c, hc, hF⟩
      · subst e
        have hstep : ∀ c, Rc v (s + 1) c → Rc v s c := fun c q => by
          have hc := Rc_in hv hr _ q
          rcases k2 c hc.1 hc.2 with ⟨h1, h2⟩ | ⟨k, h1, h2, h3⟩
          · exact absurd q h2
          · by_cases z : k = s + 1
            · exact absurd (by rw [h1, z]; omega) (hno c hc.1 hc.2)
            · exact Rc_mono h3.1 (by omega)
        refine lX7_way_43 ⟨bd_lit (by decide), fun _ => r_wayEnd (s := s) (k1.v ev) hv hx hr (by omega) (fun c c0 c1 => ?_) (Rc_stop hstep) (fun L hL hb => h L (k1.tr hL) hb), fun q => absurd rfl q⟩
        rcases k2 c c0 c1 with ⟨h1, h2⟩ | ⟨k, h1, h2, h3⟩
        · exact Or.inl ⟨h1, fun q => h2 (Or.inl q)⟩
        · exact Or.inr ⟨k, h1, ex_le h3 (hstep c (Rc_mono h3.1 h2)), h3⟩
      · subst e
        have hnew : Rc v (s + 1) c ∧ ¬ Rc v s c := by
          rcases k2 c hc.1 hc.2 with ⟨h1, h2⟩ | ⟨k, h1, h2, h3⟩
          · omega
          · have : k = s + 1 := by omega
            subst this
            exact ⟨h3.1, h3.2 s (by omega)⟩
        have hlt := cntN_lt (P := fun c => ¬ Rc v s c) (P' := fun c => ¬ Rc v (s + 1) c) (c := c) hnew.2 (fun q => q hnew.1) 100 (fun k _ _ q q2 => q (Or.inl q2)) hc.1 hc.2
        exact ih (s + 1) K (by omega) (by omega) k1 k2
  -- the row is cleared
  have key : ∀ (n : Nat) (k : Int) (J : sh_Mem), 0 ≤ k → k + (n : Int) = 100 → MW I J → (∀ c, 0 ≤ c → c < k → J 129 c = -5) → kk mX7_way 2 [some (.inr 119), some (.inl x), some (.inl k), none, none, none, none, none] [] J (qi Q) := by
    intro n
    induction n with
    | zero =>
      intro k J g0 g1 g2 g3
      have e1 : J 120 1 = v 0 1 := by rw [← g2.v ev]; exact rM0_1
      have f0 : FarIs (sh_u J 129 (v 6 (v 0 1)) 0 129) v 0 := fun c c0 c1 => by
        by_cases e : c = v 6 (v 0 1)
        · exact Or.inr ⟨0, by rw [e]; simp [sh_u], Nat.le_refl _, e, fun j hj => absurd hj (Nat.not_lt_zero _)⟩
        · exact Or.inl ⟨by rw [sh_u_nf e]; exact g3 c c0 (by omega), e⟩
      have hcnt : cntN (fun c => ¬ Rc v 0 c) 100 + 1 = 100 := by
        have h1 := cntN_add (P := fun c => ¬ Rc v 0 c) (P' := fun _ => True) (c := v 6 (v 0 1)) (fun q => q rfl) 100 (fun k _ _ => ⟨fun _ => by
          by_cases e : k = v 6 (v 0 1)
          · exact Or.inr e
          · exact Or.inl e, fun _ => trivial⟩) hcc.1 hcc.2
        have h2 : ∀ n : Nat, cntN (fun _ => True) n = (n : Int) := by
          intro n
          induction n with
          | zero => rfl
          | succ n ih => rw [cntN_yes trivial, ih]; omega
        rw [h2] at h1
        exact h1.symm
      refine lX7_way_2 ⟨bdi (by omega), fun _ => ?_, fun q => absurd q (by omega)⟩
      rw [e1]
      exact r_of 6 (g2.v ev) hr6 (by decide) (by decide) ⟨hcc, all 99 0 _ (by omega) (by omega) g2.u f0⟩
    | succ n ih =>
      intro k J g0 g1 g2 g3
      refine lX7_way_2 ⟨bdi (by omega), fun q => absurd q (by omega), fun q => ⟨by omega, ih (k + 1) _ (by omega) (by omega) g2.u (fun c c0 c1 => ?_)⟩⟩
      by_cases e : c = k
      · rw [e]
        simp [sh_u]
      · rw [sh_u_nf e]
        exact g3 c c0 (by omega)
  exact eX7_way (key 100 0 I (by omega) (by omega) MW.rf (fun c c0 c1 => by omega))
