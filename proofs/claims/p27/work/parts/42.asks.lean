/-! ===== 42: what the class answers, by the state ===== -/
def Ask (y : sh_M) (as : List sh_V) (I : sh_Mem) (r : Int) : Prop := ∀ Q : Int → sh_Mem → Prop, (∀ J, CSame I J → Q r J) → cc y (.inr 1 :: as) I (qi Q)
def Act (y : sh_M) (as : List sh_V) (I : sh_Mem) (f : Int × Vw) : Prop := ∀ Q : Int → sh_Mem → Prop, PostC I f Q → cc y (.inr 1 :: as) I (qi Q)
theorem a_at {I : sh_Mem} {c : Int} {v : Vw} (ev : vP I oP = v) (hv : WF v) (hc : 0 ≤ c ∧ c < 100) : Ask mX6_at [.inl c] I (st v c) := fun Q h => by
  subst ev
  exact eX6_at (s_isCell (bdi (by omega)) (fun _ => Or.inl ⟨rfl, s_standingOn isP_oP hv (bdi (by omega)) (h I CSame.rf)⟩) (fun q => absurd hc q))
theorem a_runnerU {I : sh_Mem} {x w : Int} {v : Vw} (ev : vP I oP = v) (hv : WF v) (hx : sh_Bd x) (hr : ¬ isr v x) : Ask mX6_runner [.inl x, .inl w] I (-1) := fun Q h =>
  eX6_runner (s_hasV isP_oP ev hv hx (fun q => absurd q hr) (fun _ => Or.inr ⟨rfl, h I CSame.rf⟩))
theorem a_runner7 {I : sh_Mem} {x : Int} {v : Vw} (ev : vP I oP = v) (hv : WF v) (hr : isr v x) : Ask mX6_runner [.inl x, .inl 7] I (dkn v x (-5)) := fun Q h => by
  have hr6 := isr_bd hv hr
  refine eX6_runner (s_hasV isP_oP ev hv (bdi (by omega)) (fun _ => Or.inl ⟨rfl, bd_lit (by decide), fun q => ?_, fun q => ?_, fun q => ?_, fun q => ?_, fun q => ?_, fun q => ?_, fun q => ?_, fun _ => s_cellsOf ev hv hr (fun J hJ => h J hJ.same), fun q => ?_⟩) (fun q => absurd hr q))
  all_goals omega
theorem a_runner8 {I : sh_Mem} {x : Int} {v : Vw} (ev : vP I oP = v) (hv : WF v) (hr : isr v x) : Ask mX6_runner [.inl x, .inl 8] I (-2) := fun Q h => by
  have hr6 := isr_bd hv hr
  refine eX6_runner (s_hasV isP_oP ev hv (bdi (by omega)) (fun _ => Or.inl ⟨rfl, bd_lit (by decide), fun q => ?_, fun q => ?_, fun q => ?_, fun q => ?_, fun q => ?_, fun q => ?_, fun q => ?_, fun q => ?_, fun _ => h I CSame.rf⟩) (fun q => absurd hr q))
  all_goals omega
theorem a_runner {I : sh_Mem} {x w : Int} {v : Vw} (j : Nat) (ev : vP I oP = v) (hv : WF v) (hr : isr v x) (hj : 6 ≤ j ∧ j ≤ 12) (hw : (j : Int) - 6 = w) : Ask mX6_runner [.inl x, .inl w] I (v j x) := fun Q h => by
  have hr6 := isr_bd hv hr
  have hcls : ∀ j' : Nat, 6 ≤ j' → j' ≤ 12 → (j' : Int) - 6 = w → I (oP + (j' - 4)) x = v j x := fun j' a b e => by
    have e1 : j' = j := by omega
    rw [e1, ← ev]
    have h9 : szv j = 6 := by
      unfold szv
      rw [if_neg (by omega), if_neg (by omega), if_neg (by omega), if_pos (by omega)]
    have h8 := vP_in (I := I) (b := oP) (j := j) (i := x) (by rw [h9]; exact hr6)
    rw [h8]
    unfold lo1 lo2
    rw [if_neg (by omega), if_neg (by omega), if_neg (by omega), if_neg (by omega)]
  refine eX6_runner (s_hasV isP_oP ev hv (bdi (by omega)) (fun _ => Or.inl ⟨rfl, bdi (by omega), fun q => ⟨hr6, ?_⟩, fun q => ⟨hr6, ?_⟩, fun q => ⟨hr6, ?_⟩, fun q => ⟨hr6, ?_⟩, fun q => ⟨hr6, ?_⟩, fun q => ⟨hr6, ?_⟩, fun q => ⟨hr6, ?_⟩, fun q => absurd q (by omega), fun q => absurd q (by omega)⟩) (fun q => absurd hr q))
  · rw [hcls 6 (by decide) (by decide) (by omega)]; exact h I CSame.rf
  · rw [hcls 7 (by decide) (by decide) (by omega)]; exact h I CSame.rf
  · rw [hcls 8 (by decide) (by decide) (by omega)]; exact h I CSame.rf
  · rw [hcls 9 (by decide) (by decide) (by omega)]; exact h I CSame.rf
  · rw [hcls 10 (by decide) (by decide) (by omega)]; exact h I CSame.rf
  · rw [hcls 11 (by decide) (by decide) (by omega)]; exact h I CSame.rf
  · rw [hcls 12 (by decide) (by decide) (by omega)]; exact h I CSame.rf
theorem a_lamp4 {I : sh_Mem} {x : Int} {v : Vw} (ev : vP I oP = v) (hv : WF v) (hr : 0 ≤ x ∧ x < 3) : Ask mX6_lamp [.inl x, .inl 4] I (dkn v (-5) x) := fun Q h => by
  refine eX6_lamp (s_isLamp (bdi (by omega)) (fun _ => Or.inl ⟨rfl, bd_lit (by decide), fun q => ?_, fun q => ?_, fun q => ?_, fun q => ?_, fun _ => s_cellsBy ev hv hr (fun J hJ => h J hJ.same), fun q => ?_⟩) (fun q => absurd hr q))
  all_goals omega
theorem a_lamp5 {I : sh_Mem} {x : Int} (hr : 0 ≤ x ∧ x < 3) : Ask mX6_lamp [.inl x, .inl 5] I (-2) := fun Q h => by
  refine eX6_lamp (s_isLamp (bdi (by omega)) (fun _ => Or.inl ⟨rfl, bd_lit (by decide), fun q => ?_, fun q => ?_, fun q => ?_, fun q => ?_, fun q => ?_, fun _ => h I CSame.rf⟩) (fun q => absurd hr q))
  all_goals omega
theorem a_lamp {I : sh_Mem} {x w : Int} {v : Vw} (j : Nat) (ev : vP I oP = v) (hr : 0 ≤ x ∧ x < 3) (hj : 2 ≤ j ∧ j ≤ 5) (hw : (j : Int) - 2 = w) : Ask mX6_lamp [.inl x, .inl w] I (v j x) := fun Q h => by
  have hcls : ∀ j' : Nat, 2 ≤ j' → j' ≤ 5 → (j' : Int) - 2 = w → I (oP + (j' + 8)) x = v j x := fun j' a b e => by
    have e1 : j' = j := by omega
    rw [e1, ← ev]
    have h9 : szv j = 3 := by
      unfold szv
      rw [if_neg (by omega), if_neg (by omega), if_pos (by omega)]
    have h8 := vP_in (I := I) (b := oP) (j := j) (i := x) (by rw [h9]; exact hr)
    rw [h8]
    unfold lo1 lo2
    rw [if_neg (by omega), if_neg (by omega), if_pos (by omega), if_neg (by omega)]
  refine eX6_lamp (s_isLamp (bdi (by omega)) (fun _ => Or.inl ⟨rfl, bdi (by omega), fun q => ⟨hr, ?_⟩, fun q => ⟨hr, ?_⟩, fun q => ⟨hr, ?_⟩, fun q => ⟨hr, ?_⟩, fun q => absurd q (by omega), fun q => absurd q (by omega)⟩) (fun q => absurd hr q))
  · rw [hcls 2 (by decide) (by decide) (by omega)]; exact h I CSame.rf
  · rw [hcls 3 (by decide) (by decide) (by omega)]; exact h I CSame.rf
  · rw [hcls 4 (by decide) (by decide) (by omega)]; exact h I CSame.rf
  · rw [hcls 5 (by decide) (by decide) (by omega)]; exact h I CSame.rf
theorem a_shU {I : sh_Mem} {x l w : Int} {v : Vw} (ev : vP I oP = v) (hv : WF v) (hr : isr v x) (hlb : sh_Bd l) (hl : ¬ (0 ≤ l ∧ l < 3)) : Ask mX6_shadow [.inl x, .inl l, .inl w] I (-1) := fun Q h => by
  have hr6 := isr_bd hv hr
  exact eX6_shadow (s_hasV isP_oP ev hv (bdi (by omega)) (fun _ => Or.inl ⟨rfl, s_isLamp hlb (fun q => absurd q hl) (fun _ => Or.inr ⟨rfl, h I CSame.rf⟩)⟩) (fun q => absurd hr q))
/-- the last cell of a shadow -/
def la (v : Vw) (x l : Int) : Int := if ln v x l = 0 then -5 else al (v 6 x) (aw v l) (ln v x l)
theorem a_shadow {I : sh_Mem} {x l w r : Int} {v : Vw} (ev : vP I oP = v) (hv : WF v) (hr : isr v x) (hl : 0 ≤ l ∧ l < 3) (hw : 0 ≤ w ∧ w ≤ 3) (h0 : w = 0 → r = ln v x l) (h1 : w = 1 → r = la v x l) (h2 : w = 2 → r = if ln v x l = 0 then -5 else st v (la v x l)) (h3 : w = 3 → r = -2) : Ask mX6_shadow [.inl x, .inl l, .inl w] I r := fun Q h => by
  subst ev
  have hr6 := isr_bd hv hr
  have hln := ln_in hv hr hl
  have hq := h I CSame.rf
  refine eX6_shadow (s_has isP_oP hv (bdi (by omega)) (fun _ => Or.inl ⟨rfl, s_isLamp (bdi (by omega)) (fun _ => Or.inl ⟨rfl, bdi (by omega), fun q => ?_, fun q => ?_, fun q => ?_, fun q => ?_⟩) (fun q => absurd hl q)⟩) (fun q => absurd hr q))
  · exact s_shadowLength isP_oP hv (bdi (by omega)) (bdi (by omega)) (fun q => absurd ⟨hr, hl.1, hl.2⟩ q) (fun _ => by rw [← h0 q]; exact hq)
  · refine s_shadowEnd isP_oP hv hr hl (fun q2 => ?_) (fun q2 => ?_)
    · rw [h1 q, la, if_pos q2] at hq
      exact hq
    · rw [h1 q, la, if_neg (by omega)] at hq
      exact hq
  · refine s_shadowEnd isP_oP hv hr hl (fun q2 => s_standingOn isP_oP hv (bd_lit (by decide)) ?_) (fun q2 => s_standingOn isP_oP hv ?_ ?_)
    · rw [h2 q, if_pos q2] at hq
      rw [st_none hv (fun r hr e => ?_)]
      · exact hq
      · have := hv.cell hr.1 hr.2
        omega
    · have := al_in (k := ln (vP I oP) x l) (hv.cell hr.1 hr.2) (aw_in (v := vP I oP) (l := l)) (by omega)
      exact bdi (by omega)
    · rw [h2 q, if_neg (by omega), la, if_neg (by omega)] at hq
      exact hq
  · rw [h3 (by omega)] at hq
    exact hq
theorem a_darkness {I : sh_Mem} {c : Int} {v : Vw} (ev : vP I oP = v) (hv : WF v) (hc : 0 ≤ c ∧ c < 100) : Ask mX6_darkness [.inl c] I (pc v c (-5) (-5) (3 * v 0 6).toNat) := fun Q h => by
  subst ev
  have hm := hv.many
  refine eX6_darkness (s_isCell (bdi (by omega)) (fun _ => Or.inl ⟨rfl, ?_⟩) (fun q => absurd hc q))
  have e6 : I (oP + 1) 7 = vP I oP 0 6 := by rw [rP0_6 (I := I) (b := oP)]
  have key2 : ∀ (m : Nat) (n r : Nat), (∀ k, k = 3 * (r + 1) → kk mX6_darkness 13 [some (.inr 1), some (.inl c), some (.inl (pc (vP I oP) c (-5) (-5) k)), some (.inl ((r : Int) + 1)), none] [] I (qi Q)) → (r : Int) < vP I oP 0 6 → n + m = 3 → kk mX6_darkness 30 [some (.inr 1), some (.inl c), some (.inl (pc (vP I oP) c (-5) (-5) (3 * r + n))), some (.inl (r : Int)), some (.inl (n : Int))] [] I (qi Q) := by
    intro m
    induction m with
    | zero =>
      intro n r g g1 g2
      have : n = 3 := by omega
      subst this
      exact lX6_darkness_30 ⟨bdi (by omega), fun _ => g _ (by omega), fun q => absurd q (by omega)⟩
    | succ m ih =>
      intro n r g g1 g2
      have hr : isr (vP I oP) (r : Int) := ⟨by omega, g1⟩
      have e1 : ((3 * r + n : Nat) : Int) / 3 = (r : Int) := by omega
      have e2 : ((3 * r + n : Nat) : Int) % 3 = (n : Int) := by omega
      refine lX6_darkness_30 ⟨bdi (by omega), fun q => absurd q (by omega), fun q => s_isInShadow isP_oP hv hc hr (by omega) (fun q2 => Or.inl ⟨rfl, ?_⟩) (fun q2 => Or.inr ⟨rfl, ?_⟩)⟩
      · have := ih (n + 1) r g g1 (by omega)
        rw [show 3 * r + (n + 1) = (3 * r + n) + 1 by omega] at this
        unfold pc at this ⊢
        rw [cntN_yes ⟨⟨Or.inl rfl, Or.inl rfl⟩, by rw [e1, e2]; exact q2⟩] at this
        exact this
      · have := ih (n + 1) r g g1 (by omega)
        rw [show 3 * r + (n + 1) = (3 * r + n) + 1 by omega] at this
        unfold pc at this ⊢
        rw [cntN_no (fun z => q2 (by have z2 := z.2; rw [e1, e2] at z2; exact z2))] at this
        exact this
  have key : ∀ (m r : Nat), (r : Int) + (m : Int) = vP I oP 0 6 → kk mX6_darkness 13 [some (.inr 1), some (.inl c), some (.inl (pc (vP I oP) c (-5) (-5) (3 * r))), some (.inl (r : Int)), none] [] I (qi Q) := by
    intro m
    induction m with
    | zero =>
      intro r g
      refine lX6_darkness_13 ⟨bdi (by omega), bdi (by omega), fun _ => ?_, fun q => absurd q (by omega)⟩
      have e : 3 * r = (3 * vP I oP 0 6).toNat := by omega
      rw [e]
      exact h I CSame.rf
    | succ m ih =>
      intro r g
      refine lX6_darkness_13 ⟨bdi (by omega), bdi (by omega), fun q => absurd q (by omega), fun q => key2 3 0 r (fun k hk => ?_) (by omega) (by omega)⟩
      have := ih (r + 1) (by omega)
      rw [hk]
      exact this
  exact key (vP I oP 0 6).toNat 0 (by omega)
theorem a_looked {I : sh_Mem} {c : Int} {v : Vw} (ev : vP I oP = v) (hv : WF v) (hc : 0 ≤ c ∧ c < 100) : Ask mX6_looked [.inl c] I (cntN (lkd v c) 3) := fun Q h => by
  subst ev
  refine eX6_looked (s_isCell (bdi (by omega)) (fun _ => Or.inl ⟨rfl, ?_⟩) (fun q => absurd hc q))
  have key : ∀ (n k : Nat), k + n = 3 → kk mX6_looked 13 [some (.inr 1), some (.inl c), some (.inl (cntN (lkd (vP I oP) c) k)), some (.inl (k : Int))] [] I (qi Q) := by
    intro n
    induction n with
    | zero =>
      intro k g
      have : k = 3 := by omega
      subst this
      exact lX6_looked_13 ⟨bdi (by omega), fun _ => h I CSame.rf, fun q => absurd q (by omega)⟩
    | succ n ih =>
      intro k g
      refine lX6_looked_13 ⟨bdi (by omega), fun q => absurd q (by omega), fun q => s_shadowerOf isP_oP hv hc (by omega) (fun x hxs => ?_)⟩
      have hxb := ShIs.bd hv hxs
      refine ⟨bdi (by omega), fun q2 => ?_, fun q2 => ?_⟩
      · have hn : ¬ lkd (vP I oP) c k := by
          rintro ⟨r, hr, hs⟩
          rcases hxs with ⟨-, z⟩ | ⟨z, -⟩
          · exact z r hr hs
          · have := z.1
            omega
        have := ih (k + 1) (by omega)
        rw [cntN_no hn] at this
        exact this
      · have hn : lkd (vP I oP) c k := by
          rcases hxs with ⟨z, -⟩ | ⟨z, z2⟩
          · exact absurd z q2
          · exact ⟨x, z, z2⟩
        have := ih (k + 1) (by omega)
        rw [cntN_yes hn] at this
        exact this
  exact key 3 0 (by omega)
theorem a_reason {I : sh_Mem} {x r : Int} {v : Vw} (ev : vP I oP = v) (hv : WF v) (hr : isr v x) (h1 : x = v 0 1 → r = 1) (h2 : ¬ x = v 0 1 → ¬ hs v x → r = 2) (h3 : ¬ x = v 0 1 → hs v x → ¬ v 9 x = 0 → r = 3) (h4 : ¬ x = v 0 1 → hs v x → v 9 x = 0 → ¬ ish v x (v 6 (v 0 1)) → r = 4) (h5 : ¬ x = v 0 1 → hs v x → v 9 x = 0 → ish v x (v 6 (v 0 1)) → ¬ ca v = x → r = 5) (h6 : ¬ x = v 0 1 → hs v x → v 9 x = 0 → ish v x (v 6 (v 0 1)) → ca v = x → r = 0) : Ask mX6_reason [.inl x] I r := fun Q h => by
  have hq := h I CSame.rf
  have hr6 := isr_bd hv hr
  have hcb := hv.2.1
  have hru := hv.run hr.1 hr.2
  have hm := hv.many
  have e1 : I (oP + 1) 8 = v 0 1 := by rw [rP0_1 (I := I) (b := oP), ev]
  have e5 : I (oP + 5) x = v 9 x := by rw [rP9 (I := I) (b := oP) hr6, ev]
  have hcaB := CaIs.bd hv (ca_ok hv)
  have hcaBd : sh_Bd (ca v) := by
    rcases hcaB with z | ⟨z, -⟩
    · exact bdi (by omega)
    · have := isr_bd hv z
      exact bdi (by omega)
  have hv' : WF (vP I oP) := by rw [ev]; exact hv
  have hr' : isr (vP I oP) x := by rw [ev]; exact hr
  refine eX6_reason (s_hasV isP_oP ev hv (bdi (by omega)) (fun _ => Or.inl ⟨rfl, bdi (by omega), bdi (by omega), fun q => s_hasShadow isP_oP hv' hr' (fun q2 => Or.inl ⟨rfl, hr6, bdi (by omega), fun q3 => s_catcherStands isP_oP hv' hr' (fun q4 => Or.inl ⟨rfl, s_firstCaughtE isP_oP ev hv (fun _ => ⟨hcaBd, fun q5 => ?_, fun q5 => ?_⟩)⟩) (fun q4 => Or.inr ⟨rfl, ?_⟩), fun q3 => ?_⟩) (fun q2 => Or.inr ⟨rfl, ?_⟩), fun q => ?_⟩) (fun q => absurd hr q))
  all_goals rw [e1] at q
  all_goals first | rw [ev] at q2 | skip
  all_goals first | rw [e5] at q3 | skip
  all_goals first | rw [ev] at q4 | skip
  · rw [← h5 q q2 q3 q4 q5]; exact hq
  · rw [← h6 q q2 q3 q4 q5]; exact hq
  · rw [← h4 q q2 q3 q4]; exact hq
  · rw [← h3 q q2 q3]; exact hq
  · rw [← h2 q q2]; exact hq
  · rw [← h1 q]; exact hq
theorem cnt_x {x : Int} (hx : (0 ≤ x ∧ x ≤ 11) ∨ x = 14) : sh_Bd x ∧ ¬ x = 12 ∧ ¬ x = 13 ∧ ((x < 0 ∨ 13 < x) → x = 14) := ⟨bdi (by omega), by omega, by omega, by omega⟩
theorem a_count {I : sh_Mem} {x r : Int} {v : Vw} (ev : vP I oP = v) (hv : WF v) (hx : (0 ≤ x ∧ x ≤ 11) ∨ x = 14) (q0 : x = 0 → r = v 0 0) (q1 : x = 1 → r = v 0 6) (q2 : x = 2 → r = v 0 1) (q3 : x = 3 → r = brn v) (q4 : x = 4 → r = dkn v (-5) (-5)) (q5 : x = 5 → r = cntN (nsh v) (v 0 6).toNat) (q6 : x = 6 → r = v 0 2) (q7 : x = 7 → r = v 0 3) (q8 : x = 8 → r = v 0 4) (q9 : x = 9 → r = v 0 5) (q10 : x = 10 → r = v 1 0) (q11 : x = 11 → r = v 1 1) (qz : x = 14 → r = -2) : Ask mX6_count [.inl x] I r := fun Q h => by
  have s0 : I oP 3 = v 0 0 := by rw [rP0_0 (I := I) (b := oP), ev]
  have s1 : I (oP + 1) 8 = v 0 1 := by rw [rP0_1 (I := I) (b := oP), ev]
  have s2 : I (oP + 1) 9 = v 0 2 := by rw [rP0_2 (I := I) (b := oP), ev]
  have s3 : I (oP + 1) 10 = v 0 3 := by rw [rP0_3 (I := I) (b := oP), ev]
  have s4 : I (oP + 1) 11 = v 0 4 := by rw [rP0_4 (I := I) (b := oP), ev]
  have s5 : I oP 4 = v 0 5 := by rw [rP0_5 (I := I) (b := oP), ev]
  have s6 : I (oP + 1) 7 = v 0 6 := by rw [rP0_6 (I := I) (b := oP), ev]
  have t0 : I (oP + 14) 0 = v 1 0 := by rw [rP1 (I := I) (b := oP) (i := 0) (by decide), ev]
  have t1 : I (oP + 14) 1 = v 1 1 := by rw [rP1 (I := I) (b := oP) (i := 1) (by decide), ev]
  have hr := h I CSame.rf
  obtain ⟨hxb, n12, n13, n14⟩ := cnt_x hx
  refine eX6_count ⟨hxb, fun q => ?_, fun q => ?_, fun q => ?_, fun q => s_burning isP_oP ev ?_, fun q => s_cellsAny ev hv (fun J hJ => ?_), fun q => s_without ev hv ?_, fun q => ?_, fun q => ?_, fun q => ?_, fun q => ?_, fun q => ?_, fun q => ?_, fun q => ?_, fun q => ?_, fun q => ?_⟩
  · rw [s0, ← q0 q]; exact hr
  · rw [s6, ← q1 q]; exact hr
  · rw [s1, ← q2 q]; exact hr
  · rw [← q3 q]; exact hr
  · rw [← q4 q]; exact h J hJ.same
  · rw [← q5 q]; exact hr
  · rw [s2, ← q6 q]; exact hr
  · rw [s3, ← q7 q]; exact hr
  · rw [s4, ← q8 q]; exact hr
  · rw [s5, ← q9 q]; exact hr
  · rw [t0, ← q10 q]; exact hr
  · rw [t1, ← q11 q]; exact hr
  · exact absurd q n12
  · exact absurd q n13
  · rw [← qz (n14 q)]; exact hr
theorem a_stepsTo {I : sh_Mem} {x r : Int} {v : Vw} (ev : vP I oP = v) (hv : WF v) (hx : sh_Bd x) (h0 : ¬ isr v x → r = -1) (h1 : isr v x → ¬ sgh v x → r = -4) (h2 : isr v x → sgh v x → r = wy v x) : Ask mX6_stepsTo [.inl x] I r := fun Q h =>
  s_stepsTo ev hv hx (fun q => by rw [← h0 q]; exact h I CSame.rf) (fun q q2 => by rw [← h1 q q2]; exact h I CSame.rf) (fun q q2 J hJ _ => by rw [← h2 q q2]; exact h J hJ.same)
theorem a_safest {I : sh_Mem} {v : Vw} (ev : vP I oP = v) (hv : WF v) : Ask mX6_safest [] I (sfN v (v 0 6).toNat).1 := fun Q h => by
  have hm := hv.many
  have hcb := hv.2.1
  have e6 : ∀ J, BO I J → J (oP + 1) 7 = v 0 6 := fun J hJ => by rw [rP0_6 (I := J) (b := oP), hJ.vP isP_oP, ev]
  have e1 : ∀ J, BO I J → J (oP + 1) 8 = v 0 1 := fun J hJ => by rw [rP0_1 (I := J) (b := oP), hJ.vP isP_oP, ev]
  have key : ∀ (n k : Nat) (J : sh_Mem), (k : Int) + (n : Int) = v 0 6 → BO I J → sfI v k → kk mX6_safest 27 [some (.inr 1), some (.inr (oP + 1)), some (.inl (sfN v k).1), some (.inl (sfN v k).2), some (.inl (k : Int)), none] [] J (qi Q) := by
    intro n
    induction n with
    | zero =>
      intro k J g0 g1 g2
      have a6 := e6 J g1
      refine lX6_safest_27 ⟨bdi (by omega), bdi (by omega), fun _ => ?_, fun q => absurd q (by omega)⟩
      have : k = (v 0 6).toNat := by omega
      rw [this]
      exact h J g1.same
    | succ n ih =>
      intro k J g0 g1 g2
      have a6 := e6 J g1
      have a1 := e1 J g1
      have hb2 : -5 ≤ (sfN v k).2 ∧ (sfN v k).2 ≤ 100 := by
        rcases g2 with z | z <;> omega
      refine lX6_safest_27 ⟨bdi (by omega), bdi (by omega), fun q => absurd q (by omega), fun q => ⟨bdi (by omega), fun q2 => s_stepsFar ((g1.vP isP_oP).trans ev) hv ⟨by omega, by omega⟩ (fun K hK hb => ⟨bdi (by omega), bdi (by omega), fun q3 => ?_, fun q3 => ?_⟩), fun q2 => ⟨bdi (by omega), fun q3 => ?_, fun q3 => ?_⟩⟩⟩
      · obtain ⟨f1, f2⟩ := sf_keep (v := v) (n := k) (by omega) (by omega) g2
        have := ih (k + 1) K (by omega) (g1.tr hK) f2
        rw [f1] at this
        exact this
      · obtain ⟨f1, f2⟩ := sf_take (v := v) (n := k) (by omega) q3 hb
        have := ih (k + 1) K (by omega) (g1.tr hK) f2
        rw [f1] at this
        exact this
      · obtain ⟨f1, f2⟩ := sf_skip (v := v) (n := k) (by omega) g2
        have := ih (k + 1) J (by omega) g1 f2
        rw [f1] at this
        exact this
      · rcases g2 with z | z <;> omega
  refine eX6_safest ⟨by rw [e6 I BO.rf]; exact bdi (by omega), fun _ => ?_, fun q => ?_⟩
  · exact key (v 0 6).toNat 0 I (by omega) BO.rf (Or.inl ⟨rfl, rfl⟩)
  · rw [e6 I BO.rf] at q
    have hz : (sfN v (v 0 6).toNat).1 = -5 := by
      by_cases z : v 0 6 = 0
      · rw [z]
        rfl
      · have z1 : (v 0 6).toNat = 0 + 1 := by omega
        rw [z1, (sf_skip (v := v) (n := 0) (by show (0 : Int) = _; omega) (Or.inl ⟨rfl, rfl⟩)).1]
        rfl
    have := h I CSame.rf
    rw [hz] at this
    exact this
theorem a_ifTurns {I : sh_Mem} {w r : Int} {n : Nat} {v : Vw} (ev : vP I oP = v) (hB : WB v) (hn : 1 ≤ n ∧ n ≤ 99) (hw : 0 ≤ w ∧ w ≤ 2) (h0 : w = 0 → r = tuN v n 0 2 - v 0 2) (h1 : w = 1 → r = tuN v n 0 1) (h2 : w = 2 → r = frs v n) : Ask mX6_ifTurns [.inl (n : Int), .inl w] I r := fun Q h => by
  have hv := hB.1
  have h00 := hv.2.2.2.2.2.2.2.1
  refine eX6_ifTurns ⟨bdi (by omega), fun q => absurd q (by omega), fun _ => ⟨fun q => absurd q (by omega), fun _ => ⟨bdi (by omega), fun q => absurd q (by omega), fun _ => ⟨fun _ => s_copyFrom isP_oT isP_oP (by decide) (fun J j1 j2 => ?_), fun q => absurd q (by omega)⟩⟩⟩⟩
  rw [ev] at j2
  have key : ∀ (m k : Nat) (K : sh_Mem), k + m = n → Off oT I K → vP K oT = tuN v k → kk mX6_ifTurns 43 [some (.inr 1), some (.inl (n : Int)), some (.inl w), some (.inl (tuN v k 0 2 - v 0 2)), some (.inl (frs v k)), some (.inl ((k : Int) + 1))] [] K (qi Q) := by
    intro m
    induction m with
    | zero =>
      intro k K g0 g1 g2
      have : k = n := by omega
      subst this
      have hq := h K (CSame.off g1)
      refine lX6_ifTurns_43 ⟨bdi (by omega), bdi (by omega), fun _ => ⟨bdi (by omega), fun q => ?_, fun q => ?_, fun q => ?_⟩, fun q => absurd q (by omega)⟩
      · rw [h0 q] at hq
        exact hq
      · rw [h1 q] at hq
        rw [rP0_1 (I := K) (b := oT), g2]
        exact hq
      · rw [h2 (by omega)] at hq
        exact hq
    | succ m ih =>
      intro k K g0 g1 g2
      obtain ⟨a, b, c, d⟩ := tuN_ok hv hB.2.1 k (by have := hB.2.2; omega)
      have hfr := frs_in (v := v) k
      have e : tuN v (k + 1) 0 2 = tuN v k 0 2 + tgI (turnT (tuN v k)) := (turnF_ok2 a d (by have := hB.2.2; omega)).2.2.2.1
      refine lX6_ifTurns_43 ⟨bdi (by omega), bdi (by omega), fun q => absurd q (by omega), fun q => s_takeTurn isP_oT g2 a d (by have := hB.2.2; omega) (fun L l1 l2 l3 => ?_)⟩
      have := ih (k + 1) L (by omega) (g1.tr l1) l2
      rw [e] at this
      unfold frs at this
      by_cases y : turnT (tuN v k) = -5
      · have t0 : tgI (turnT (tuN v k)) = 0 := by unfold tgI; rw [if_pos y]
        rw [t0] at this ⊢
        rw [if_pos y, show tuN v k 0 2 + 0 - v 0 2 = tuN v k 0 2 - v 0 2 by omega] at this
        refine Or.inr ⟨rfl, ?_⟩
        by_cases z : frs v k = -5
        · rw [if_pos z] at this
          rw [z]
          exact this
        · rw [if_neg z] at this
          exact this
      · have t0 : tgI (turnT (tuN v k)) = 1 := by unfold tgI; rw [if_neg y]
        rw [t0] at this ⊢
        rw [if_neg y, show tuN v k 0 2 + 1 - v 0 2 = tuN v k 0 2 - v 0 2 + 1 by omega] at this
        refine Or.inl ⟨rfl, bdi (by omega), fun z => ?_, fun z => ?_⟩
        · rw [if_neg z] at this
          exact this
        · rw [if_pos z] at this
          exact this
  have := key n 0 J (by omega) j1 j2
  rw [show tuN v 0 0 2 - v 0 2 = 0 from Int.sub_self _] at this
  exact this
