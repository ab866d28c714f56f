/-! ===== 38: more questions, and the text ===== -/
theorem sh_first {v : Vw} {c l x y : Int} (hv : WF v) (hc : 0 ≤ c ∧ c < 100) (hl : 0 ≤ l ∧ l < 3) (g0 : 1 ≤ y) (hy : y ≤ te c (v 2 l)) (g2 : ∀ k, 1 ≤ k → k < y → st v (al c (v 2 l) k) = -5) (hr : isr v x) (hcx : v 6 x = al c (v 2 l) y) : (v 5 l = 1 ∧ y ≤ v 7 x * v 3 l → shd v x l c) ∧ (¬ (v 5 l = 1 ∧ y ≤ v 7 x * v 3 l) → ∀ s, isr v s → ¬ shd v s l c) := by
  have hw := hv.lampw hl
  refine ⟨fun q => shd_front hv hr hl hc g0 hy hcx g2 q, fun q s hs hsh => q ?_⟩
  obtain ⟨j, j1, j2, j3, j4⟩ := shd_back hv hs hl hc hsh
  have hmu := mul_bd (hv.run hr.1 hr.2).2.1 hw.2.1
  rcases Int.lt_trichotomy j y with h9 | h9 | h9
  · have h8 := g2 j j1 h9
    rw [← j3, st_is hv hs rfl] at h8
    have := hs.1
    omega
  · subst h9
    have e9 : s = x := hv.apart hs.1 hs.2 hr.1 hr.2 (j3.trans hcx.symm)
    subst e9
    have h8 := (ln_spec hv hs hl).1.2
    unfold mx at h8
    by_cases hon : v 5 l = 1
    · rw [if_pos hon] at h8
      exact ⟨hon, by omega⟩
    · rw [if_neg hon] at h8
      omega
  · have h8 := (ln_spec hv hs hl).2.1 (j - y) (by omega) (by omega)
    have e9 : al (v 6 s) (aw v l) (j - y) = v 6 x := by
      rw [j3, hcx]
      unfold aw
      rw [al_back hw.1]
      congr 1
      omega
    rw [e9, st_is hv hr rfl] at h8
    have := hr.1
    omega
theorem sh_none {v : Vw} {c l : Int} (hv : WF v) (hc : 0 ≤ c ∧ c < 100) (hl : 0 ≤ l ∧ l < 3) (g2 : ∀ k, 1 ≤ k → k ≤ te c (v 2 l) → st v (al c (v 2 l) k) = -5) : ∀ s, isr v s → ¬ shd v s l c := fun s hs hsh => by
  obtain ⟨j, j1, j2, j3, j4⟩ := shd_back hv hs hl hc hsh
  have h9 := g2 j j1 j4
  rw [← j3, st_is hv hs rfl] at h9
  have := hs.1
  omega
def lkd (v : Vw) (c l : Int) : Prop := ∃ r, isr v r ∧ shd v r l c
theorem b_looked {I : sh_Mem} {c : Int} (hI : Inv I) (hx : sh_Bd c) : Both mX6_looked mX7_looked [.inl c] I := by
  have hv := hI.wb.1
  have ec := hI.eq
  by_cases hc : 0 ≤ c ∧ c < 100
  · refine both_read (r := cntN (lkd (vM (I 120)) c) 3) hI (fun Q h => eX6_looked (s_isCell hx (fun _ => Or.inl ⟨rfl, ?_⟩) (fun q => absurd hc q))) (fun J Q ev _ h => eX7_looked (r_isCell hx (fun _ => Or.inl ⟨rfl, ?_⟩) (fun q => absurd hc q)))
    · have key : ∀ (n k : Nat), k + n = 3 → kk mX6_looked 13 [some (.inr 1), some (.inl c), some (.inl (cntN (lkd (vM (I 120)) c) k)), some (.inl (k : Int))] [] I (qi Q) := by
        intro n
        induction n with
        | zero =>
          intro k g
          have : k = 3 := by omega
          subst this
          exact lX6_looked_13 ⟨bdi (by omega), fun _ => h I CSame.rf, fun q => absurd q (by omega)⟩
        | succ n ih =>
          intro k g
          refine lX6_looked_13 ⟨bdi (by omega), fun q => absurd q (by omega), fun q => s_shadowerOf isP_oP hI.wf hc (by omega) (fun x hxs => ?_)⟩
          have hxb := ShIs.bd hI.wf hxs
          rw [ec] at hxs
          refine ⟨bdi (by omega), fun q2 => ?_, fun q2 => ?_⟩
          · have hn : ¬ lkd (vM (I 120)) c k := by
              rintro ⟨r, hr, hs⟩
              rcases hxs with ⟨-, z⟩ | ⟨z, -⟩
              · exact z r hr hs
              · have := z.1
                omega
            have := ih (k + 1) (by omega)
            rw [cntN_no hn] at this
            exact this
          · have hn : lkd (vM (I 120)) c k := by
              rcases hxs with ⟨z, -⟩ | ⟨z, z2⟩
              · exact absurd z q2
              · exact ⟨x, z, z2⟩
            have := ih (k + 1) (by omega)
            rw [cntN_yes hn] at this
            exact this
      exact key 3 0 (by omega)
    · generalize vM (I 120) = v at *
      have key : ∀ (n k : Nat), k + n = 3 → kk mX7_looked 13 [some (.inr 119), some (.inl c), some (.inl (cntN (lkd v c) k)), some (.inl (k : Int)), none, none, none] [] J (qi Q) := by
        intro n
        induction n with
        | zero =>
          intro k g
          have : k = 3 := by omega
          subst this
          exact lX7_looked_13 ⟨bdi (by omega), fun _ => h J MSame.rf, fun q => absurd q (by omega)⟩
        | succ n ih =>
          intro k g
          have hl : 0 ≤ (k : Int) ∧ (k : Int) < 3 := by omega
          have hw := hv.lampw hl
          have hte := te_in (d := v 2 k) hc
          have no : ¬ lkd v c k → kk mX7_looked 114 [some (.inr 119), some (.inl c), some (.inl (cntN (lkd v c) k)), some (.inl (k : Int)), none, none, none] [] J (qi Q) := fun q => by
            have := ih (k + 1) (by omega)
            rw [cntN_no q] at this
            exact lX7_looked_114 (lX7_looked_115 ⟨bd_lit (by decide), fun _ => by rw [Int.add_zero]; exact this, fun q => absurd rfl q⟩)
          have yes : lkd v c k → kk mX7_looked 115 [some (.inr 119), some (.inl c), some (.inl (cntN (lkd v c) k)), some (.inl (k : Int)), none, none, none] [.inl 1] J (qi Q) := fun q => by
            have := ih (k + 1) (by omega)
            rw [cntN_yes q] at this
            exact lX7_looked_115 ⟨bd_lit (by decide), fun q => absurd q (by decide), fun _ => this⟩
          have key2 : ∀ (m : Nat) (y : Int), 1 ≤ y → y + (m : Int) = te c (v 2 k) + 1 → (∀ j, 1 ≤ j → j < y → st v (al c (v 2 k) j) = -5) → kk mX7_looked 33 [some (.inr 119), some (.inl c), some (.inl (cntN (lkd v c) k)), some (.inl (k : Int)), some (.inl (if y ≤ te c (v 2 k) then al c (v 2 k) y else -5)), some (.inl y), none] [] J (qi Q) := by
            intro m
            induction m with
            | zero =>
              intro y g0 g1 g2
              rw [if_neg (by omega)]
              have hn : ¬ lkd v c k := fun ⟨s, hs, hsh⟩ => sh_none hv hc hl (fun j a b => g2 j a (by omega)) s hs hsh
              exact lX7_looked_33 ⟨bd_lit (by decide), fun _ => r_ofLamp 5 ev hl (by decide) (by decide) ⟨bdi (by omega), fun _ => no hn, fun _ => ⟨fun _ => no hn, fun q => absurd rfl q⟩⟩, fun q => absurd rfl q⟩
            | succ m ih2 =>
              intro y g0 g1 g2
              rw [if_pos (by omega)]
              have hal := al_in (k := y) hc hw.1 ⟨by omega, by omega⟩
              have hsb := st_bd hv (al c (v 2 k) y)
              refine lX7_looked_33 ⟨bdi (by omega), fun q => absurd q (by omega), fun q => r_runnerAt ev hv (bdi (by omega)) ⟨bdi (by omega), fun q2 => ?_, fun q2 => ?_⟩⟩
              · obtain ⟨hr, hcx⟩ := st_ne hv q2
                have hr6 := isr_bd hv hr
                have hmu := mul_bd (hv.run hr.1 hr.2).2.1 hw.2.1
                obtain ⟨f1, f2⟩ := sh_first hv hc hl g0 (by omega) g2 hr hcx
                refine r_ofLamp 5 ev hl (by decide) (by decide) ⟨bdi (by omega), fun q3 => no (fun ⟨s, hs, hsh⟩ => f2 (fun z => q3 z.1) s hs hsh), fun q3 => ⟨fun q4 => absurd q4 q, fun _ => r_runnerAt ev hv (bdi (by omega)) (r_of 7 ev hr6 (by decide) (by decide) (r_ofLamp 3 ev hl (by decide) (by decide) ⟨bdi (by omega), bdi (by omega), fun q4 => no (fun ⟨s, hs, hsh⟩ => f2 (fun z => by have := z.2; omega) s hs hsh), fun q4 => yes ⟨_, hr, f1 ⟨q3, q4⟩⟩⟩))⟩⟩
              · have := ih2 (y + 1) (by omega) (by omega) (fun j a b => by
                  by_cases e : j = y
                  · rw [e]
                    exact q2
                  · exact g2 j a (by omega))
                refine r_ofLamp 2 ev hl (by decide) (by decide) (r_next hal hw.1 ?_)
                rw [nx_al hc hw.1 ⟨by omega, by omega⟩]
                by_cases e : y < te c (v 2 k)
                · rw [if_pos e]
                  rw [if_pos (by omega)] at this
                  exact this
                · rw [if_neg e]
                  rw [if_neg (by omega)] at this
                  exact this
          refine lX7_looked_13 ⟨bdi (by omega), fun q => absurd q (by omega), fun q => r_ofLamp 2 ev hl (by decide) (by decide) (r_next hc hw.1 ?_)⟩
          have := key2 (te c (v 2 k)).toNat 1 (by omega) (by omega) (fun j a b => absurd b (by omega))
          rw [nx_te hc hw.1]
          by_cases e : 0 < te c (v 2 k)
          · rw [if_pos e]
            rw [if_pos (by omega)] at this
            exact this
          · rw [if_neg e]
            rw [if_neg (by omega)] at this
            exact this
      exact key 3 0 (by omega)
  · exact both_read (r := -1) hI (fun Q h => eX6_looked (s_isCell hx (fun q => absurd q hc) (fun _ => Or.inr ⟨rfl, h I CSame.rf⟩))) (fun J Q ev _ h => eX7_looked (r_isCell hx (fun q => absurd q hc) (fun _ => Or.inr ⟨rfl, h J MSame.rf⟩)))
def nsh (v : Vw) (r : Int) : Prop := ¬ hs v r
theorem s_without {I : sh_Mem} {Q : Int → sh_Mem → Prop} {v : Vw} (ev : vP I oP = v) (hv : WF v) (h : Q (cntN (nsh v) (v 0 6).toNat) I) : cc mX4_runnersWithoutShadow [.inr oP] I (qi Q) := by
  subst ev
  have hm := hv.many
  have e6 : I (oP + 1) 7 = vP I oP 0 6 := rP0_6
  have key : ∀ (n k : Nat), (k : Int) + (n : Int) = vP I oP 0 6 → kk mX4_runnersWithoutShadow 4 [some (.inr oP), some (.inl (cntN (nsh (vP I oP)) k)), some (.inl (k : Int))] [] I (qi Q) := by
    intro n
    induction n with
    | zero =>
      intro k g
      refine lX4_runnersWithoutShadow_4 isP_oP ⟨bdi (by omega), bdi (by omega), fun _ => ?_, fun q => absurd q (by omega)⟩
      rw [show k = (vP I oP 0 6).toNat by omega]
      exact h
    | succ n ih =>
      intro k g
      refine lX4_runnersWithoutShadow_4 isP_oP ⟨bdi (by omega), bdi (by omega), fun q => absurd q (by omega), fun q => s_hasShadow isP_oP hv ⟨by omega, by omega⟩ (fun z => Or.inl ⟨rfl, ?_⟩) (fun z => Or.inr ⟨rfl, ?_⟩)⟩
      · have := ih (k + 1) (by omega)
        rw [cntN_no (fun q => q z)] at this
        exact this
      · have := ih (k + 1) (by omega)
        rw [cntN_yes z] at this
        exact this
  exact eX4_runnersWithoutShadow isP_oP (key (vP I oP 0 6).toNat 0 (by omega))
theorem r_without {I : sh_Mem} {Q : Int → sh_Mem → Prop} {v : Vw} (ev : vM (I 120) = v) (hv : WF v) (h : ∀ J, MS I J → Q (cntN (nsh v) (v 0 6).toNat) J) : cc mX7_withoutShadow [.inr 119] I (qi Q) := by
  have hm := hv.many
  have key : ∀ (n k : Nat) (J : sh_Mem), (k : Int) + (n : Int) = v 0 6 → MS I J → kk mX7_withoutShadow 4 [some (.inr 119), some (.inl (cntN (nsh v) k)), some (.inl (k : Int))] [] J (qi Q) := by
    intro n
    induction n with
    | zero =>
      intro k J g hJ
      have e6 : J 120 20 = v 0 6 := by rw [← hJ.v ev]; exact rM0_6
      refine lX7_withoutShadow_4 ⟨bdi (by omega), bdi (by omega), fun _ => ?_, fun q => absurd q (by omega)⟩
      rw [show k = (v 0 6).toNat by omega]
      exact h J hJ
    | succ n ih =>
      intro k J g hJ
      have e6 : J 120 20 = v 0 6 := by rw [← hJ.v ev]; exact rM0_6
      refine lX7_withoutShadow_4 ⟨bdi (by omega), bdi (by omega), fun q => absurd q (by omega), fun q => r_hasShadow (hJ.v ev) hv ⟨by omega, by omega⟩ (fun z K hK => Or.inl ⟨rfl, ?_⟩) (fun z K hK => Or.inr ⟨rfl, ?_⟩)⟩
      · have := ih (k + 1) K (by omega) (hJ.tr hK)
        rw [cntN_no (fun q => q z)] at this
        rw [Int.add_zero]
        exact this
      · have := ih (k + 1) K (by omega) (hJ.tr hK)
        rw [cntN_yes z] at this
        exact this
  exact eX7_withoutShadow (key (v 0 6).toNat 0 I (by omega) MS.rf)
theorem b_count {I : sh_Mem} {x : Int} (hI : Inv I) (hx : sh_Bd x) : Both mX6_count mX7_count [.inl x] I := by
  have hv := hI.wb.1
  have ec := hI.eq
  have eh := hI.2.2.2.1.1
  have et := hI.2.2.2.2.1
  have s0 : I oP 3 = vM (I 120) 0 0 := by rw [rP0_0 (I := I) (b := oP), ec]
  have s1 : I (oP + 1) 8 = vM (I 120) 0 1 := by rw [rP0_1 (I := I) (b := oP), ec]
  have s2 : I (oP + 1) 9 = vM (I 120) 0 2 := by rw [rP0_2 (I := I) (b := oP), ec]
  have s3 : I (oP + 1) 10 = vM (I 120) 0 3 := by rw [rP0_3 (I := I) (b := oP), ec]
  have s4 : I (oP + 1) 11 = vM (I 120) 0 4 := by rw [rP0_4 (I := I) (b := oP), ec]
  have s5 : I oP 4 = vM (I 120) 0 5 := by rw [rP0_5 (I := I) (b := oP), ec]
  have s6 : I (oP + 1) 7 = vM (I 120) 0 6 := by rw [rP0_6 (I := I) (b := oP), ec]
  have t0 : I (oP + 14) 0 = vM (I 120) 1 0 := by rw [rP1 (I := I) (b := oP) (i := 0) (by decide), ec]
  have t1 : I (oP + 14) 1 = vM (I 120) 1 1 := by rw [rP1 (I := I) (b := oP) (i := 1) (by decide), ec]
  have cls : ∀ {r : Int} {Q : Int → sh_Mem → Prop}, (∀ J, CSame I J → Q r J) → (x = 0 → r = vM (I 120) 0 0) → (x = 1 → r = vM (I 120) 0 6) → (x = 2 → r = vM (I 120) 0 1) → (x = 3 → r = brn (vM (I 120))) → (x = 4 → r = dkn (vM (I 120)) (-5) (-5)) → (x = 5 → r = cntN (nsh (vM (I 120))) (vM (I 120) 0 6).toNat) → (x = 6 → r = vM (I 120) 0 2) → (x = 7 → r = vM (I 120) 0 3) → (x = 8 → r = vM (I 120) 0 4) → (x = 9 → r = vM (I 120) 0 5) → (x = 10 → r = vM (I 120) 1 0) → (x = 11 → r = vM (I 120) 1 1) → (x = 12 → r = I 119 2) → (x = 13 → r = I 119 10) → ((x < 0 ∨ 13 < x) → r = -2) → cc mX6_count [.inr 1, .inl x] I (qi Q) := by
    intro r Q h q0 q1 q2 q3 q4 q5 q6 q7 q8 q9 q10 q11 q12 q13 qz
    have hr := h I CSame.rf
    refine eX6_count ⟨hx, fun q => ?_, fun q => ?_, fun q => ?_, fun q => s_burning isP_oP ec ?_, fun q => s_cellsAny ec hv (fun J hJ => ?_), fun q => s_without ec hv ?_, fun q => ?_, fun q => ?_, fun q => ?_, fun q => ?_, fun q => ?_, fun q => ?_, fun q => ?_, fun q => ?_, fun q => ?_⟩
    · rw [s0, ← q0 q]; exact hr
    · rw [s6, ← q1 q]; exact hr
    · rw [s1, ← q2 q]; exact hr
    · rw [← q3 q]; exact hr
    · rw [← q4 q]; exact h J hJ.same
    · rw [← q5 q]; exact hr
    · rw [s2, ← q6 q]; exact hr
    · rw [s3, ← q7 q]; exact hr
    · rw [s4, ← q8 q]; exact hr
    · rw [s5, ← q9 q]; exact hr
    · rw [t0, ← q10 q]; exact hr
    · rw [t1, ← q11 q]; exact hr
    · rw [eh, ← q12 q]; exact hr
    · rw [et, ← q13 q]; exact hr
    · rw [← qz q]; exact hr
  have ref : ∀ {r : Int} {J : sh_Mem} {Q : Int → sh_Mem → Prop}, vM (J 120) = vM (I 120) → (∀ o, 119 ≤ o → J o = I o) → (∀ K, MSame J K → Q r K) → (x = 0 → r = vM (I 120) 0 0) → (x = 1 → r = vM (I 120) 0 6) → (x = 2 → r = vM (I 120) 0 1) → (x = 3 → r = brn (vM (I 120))) → (x = 4 → r = dkn (vM (I 120)) (-5) (-5)) → (x = 5 → r = cntN (nsh (vM (I 120))) (vM (I 120) 0 6).toNat) → (x = 6 → r = vM (I 120) 0 2) → (x = 7 → r = vM (I 120) 0 3) → (x = 8 → r = vM (I 120) 0 4) → (x = 9 → r = vM (I 120) 0 5) → (x = 10 → r = vM (I 120) 1 0) → (x = 11 → r = vM (I 120) 1 1) → (x = 12 → r = I 119 2) → (x = 13 → r = I 119 10) → ((x < 0 ∨ 13 < x) → r = -2) → cc mX7_count [.inr 119, .inl x] J (qi Q) := by
    intro r J Q ev hJ h q0 q1 q2 q3 q4 q5 q6 q7 q8 q9 q10 q11 q12 q13 qz
    have hr := h J MSame.rf
    refine eX7_count ⟨hx, fun q => ?_, fun q => ?_, fun q => ?_, fun q => r_lampsOn ev ?_, fun q => r_dark ev hv (bd_lit (by decide)) (bd_lit (by decide)) (fun K hK => ?_), fun q => r_without ev hv (fun K hK => ?_), fun q => ?_, fun q => ?_, fun q => ?_, fun q => ?_, fun q => ⟨by omega, ?_⟩, fun q => ⟨by omega, ?_⟩, fun q => ?_, fun q => ?_, fun q => ?_⟩
    · rw [rM0_0 (R := J 120), ev, ← q0 q]; exact hr
    · rw [rM0_6 (R := J 120), ev, ← q1 q]; exact hr
    · rw [rM0_1 (R := J 120), ev, ← q2 q]; exact hr
    · rw [← q3 q]; exact hr
    · rw [← q4 q]; exact h K hK.same
    · rw [← q5 q]; exact h K hK.same
    · rw [rM0_2 (R := J 120), ev, ← q6 q]; exact hr
    · rw [rM0_3 (R := J 120), ev, ← q7 q]; exact hr
    · rw [rM0_4 (R := J 120), ev, ← q8 q]; exact hr
    · rw [rM0_5 (R := J 120), ev, ← q9 q]; exact hr
    · rw [show 6 + x - 10 = 6 by omega, show J 120 6 = vM (J 120) 1 0 from rfl, ev, ← q10 q]; exact hr
    · rw [show 6 + x - 10 = 7 by omega, show J 120 7 = vM (J 120) 1 1 from rfl, ev, ← q11 q]; exact hr
    · rw [hJ 119 (by decide), ← q12 q]; exact hr
    · rw [hJ 119 (by decide), ← q13 q]; exact hr
    · rw [← qz q]; exact hr
  have main : ∀ r : Int, (x = 0 → r = vM (I 120) 0 0) → (x = 1 → r = vM (I 120) 0 6) → (x = 2 → r = vM (I 120) 0 1) → (x = 3 → r = brn (vM (I 120))) → (x = 4 → r = dkn (vM (I 120)) (-5) (-5)) → (x = 5 → r = cntN (nsh (vM (I 120))) (vM (I 120) 0 6).toNat) → (x = 6 → r = vM (I 120) 0 2) → (x = 7 → r = vM (I 120) 0 3) → (x = 8 → r = vM (I 120) 0 4) → (x = 9 → r = vM (I 120) 0 5) → (x = 10 → r = vM (I 120) 1 0) → (x = 11 → r = vM (I 120) 1 1) → (x = 12 → r = I 119 2) → (x = 13 → r = I 119 10) → ((x < 0 ∨ 13 < x) → r = -2) → Both mX6_count mX7_count [.inl x] I := fun r q0 q1 q2 q3 q4 q5 q6 q7 q8 q9 q10 q11 q12 q13 qz => both_read (r := r) hI (fun Q h => cls h q0 q1 q2 q3 q4 q5 q6 q7 q8 q9 q10 q11 q12 q13 qz) (fun J Q ev hJ h => ref ev hJ h q0 q1 q2 q3 q4 q5 q6 q7 q8 q9 q10 q11 q12 q13 qz)
  by_cases hz : x < 0 ∨ 13 < x
  · refine main (-2) ?_ ?_ ?_ ?_ ?_ ?_ ?_ ?_ ?_ ?_ ?_ ?_ ?_ ?_ (fun _ => rfl) <;> (intro q; omega)
  · have h14 : x = 0 ∨ x = 1 ∨ x = 2 ∨ x = 3 ∨ x = 4 ∨ x = 5 ∨ x = 6 ∨ x = 7 ∨ x = 8 ∨ x = 9 ∨ x = 10 ∨ x = 11 ∨ x = 12 ∨ x = 13 := by omega
    rcases h14 with e | e | e | e | e | e | e | e | e | e | e | e | e | e
    · refine main (vM (I 120) 0 0) ?_ ?_ ?_ ?_ ?_ ?_ ?_ ?_ ?_ ?_ ?_ ?_ ?_ ?_ ?_ <;> first | (intro q; exact absurd (e.symm.trans q) (by decide)) | (intro q; exact absurd q hz) | (intro _; rfl)
    · refine main (vM (I 120) 0 6) ?_ ?_ ?_ ?_ ?_ ?_ ?_ ?_ ?_ ?_ ?_ ?_ ?_ ?_ ?_ <;> first | (intro q; exact absurd (e.symm.trans q) (by decide)) | (intro q; exact absurd q hz) | (intro _; rfl)
    · refine main (vM (I 120) 0 1) ?_ ?_ ?_ ?_ ?_ ?_ ?_ ?_ ?_ ?_ ?_ ?_ ?_ ?_ ?_ <;> first | (intro q; exact absurd (e.symm.trans q) (by decide)) | (intro q; exact absurd q hz) | (intro _; rfl)
    · refine main (brn (vM (I 120))) ?_ ?_ ?_ ?_ ?_ ?_ ?_ ?_ ?_ ?_ ?_ ?_ ?_ ?_ ?_ <;> first | (intro q; exact absurd (e.symm.trans q) (by decide)) | (intro q; exact absurd q hz) | (intro _; rfl)
    · refine main (dkn (vM (I 120)) (-5) (-5)) ?_ ?_ ?_ ?_ ?_ ?_ ?_ ?_ ?_ ?_ ?_ ?_ ?_ ?_ ?_ <;> first | (intro q; exact absurd (e.symm.trans q) (by decide)) | (intro q; exact absurd q hz) | (intro _; rfl)
    · refine main (cntN (nsh (vM (I 120))) (vM (I 120) 0 6).toNat) ?_ ?_ ?_ ?_ ?_ ?_ ?_ ?_ ?_ ?_ ?_ ?_ ?_ ?_ ?_ <;> first | (intro q; exact absurd (e.symm.trans q) (by decide)) | (intro q; exact absurd q hz) | (intro _; rfl)
    · refine main (vM (I 120) 0 2) ?_ ?_ ?_ ?_ ?_ ?_ ?_ ?_ ?_ ?_ ?_ ?_ ?_ ?_ ?_ <;> first | (intro q; exact absurd (e.symm.trans q) (by decide)) | (intro q; exact absurd q hz) | (intro _; rfl)
    · refine main (vM (I 120) 0 3) ?_ ?_ ?_ ?_ ?_ ?_ ?_ ?_ ?_ ?_ ?_ ?_ ?_ ?_ ?_ <;> first | (intro q; exact absurd (e.symm.trans q) (by decide)) | (intro q; exact absurd q hz) | (intro _; rfl)
    · refine main (vM (I 120) 0 4) ?_ ?_ ?_ ?_ ?_ ?_ ?_ ?_ ?_ ?_ ?_ ?_ ?_ ?_ ?_ <;> first | (intro q; exact absurd (e.symm.trans q) (by decide)) | (intro q; exact absurd q hz) | (intro _; rfl)
    · refine main (vM (I 120) 0 5) ?_ ?_ ?_ ?_ ?_ ?_ ?_ ?_ ?_ ?_ ?_ ?_ ?_ ?_ ?_ <;> first | (intro q; exact absurd (e.symm.trans q) (by decide)) | (intro q; exact absurd q hz) | (intro _; rfl)
    · refine main (vM (I 120) 1 0) ?_ ?_ ?_ ?_ ?_ ?_ ?_ ?_ ?_ ?_ ?_ ?_ ?_ ?_ ?_ <;> first | (intro q; exact absurd (e.symm.trans q) (by decide)) | (intro q; exact absurd q hz) | (intro _; rfl)
    · refine main (vM (I 120) 1 1) ?_ ?_ ?_ ?_ ?_ ?_ ?_ ?_ ?_ ?_ ?_ ?_ ?_ ?_ ?_ <;> first | (intro q; exact absurd (e.symm.trans q) (by decide)) | (intro q; exact absurd q hz) | (intro _; rfl)
    · refine main (I 119 2) ?_ ?_ ?_ ?_ ?_ ?_ ?_ ?_ ?_ ?_ ?_ ?_ ?_ ?_ ?_ <;> first | (intro q; exact absurd (e.symm.trans q) (by decide)) | (intro q; exact absurd q hz) | (intro _; rfl)
    · refine main (I 119 10) ?_ ?_ ?_ ?_ ?_ ?_ ?_ ?_ ?_ ?_ ?_ ?_ ?_ ?_ ?_ <;> first | (intro q; exact absurd (e.symm.trans q) (by decide)) | (intro q; exact absurd q hz) | (intro _; rfl)
theorem inv_txt {I K : sh_Mem} (h : Inv I) (fr : ∀ o f, ¬ (o = 110 ∨ o = 125 ∨ (o = 109 ∧ f = 1) ∨ (o = 119 ∧ f = 10)) → K o f = I o f) (e1 : K 109 1 = K 119 10) (e2 : 0 ≤ K 119 10 ∧ K 119 10 ≤ 60) (e3 : ∀ j, 0 ≤ j → j < K 119 10 → K 110 j = K 125 j ∧ 0 ≤ K 125 j ∧ K 125 j < 65536) : Inv K := by
  obtain ⟨⟨a1, a2⟩, ⟨⟨b1, b2⟩, b3⟩, ⟨c1, c2⟩, ⟨d1, d2, d3, d4⟩, -⟩ := h
  have eP : vP K oP = vP I oP := vP_same fun o h1 h2 => by funext f; exact fr o f (by rw [oP_v] at h1 h2; omega)
  have eS : vP K oS = vP I oS := vP_same fun o h1 h2 => by funext f; exact fr o f (by rw [oS_v] at h1 h2; omega)
  have eM : vM (K 120) = vM (I 120) := vM_same fun k _ _ => fr 120 k (by omega)
  have e122 : vM (K 122) = vM (I 122) := vM_same fun k _ _ => fr 122 k (by omega)
  have esl : ∀ s, sl K s = sl I s := fun s => vM_same fun k _ _ => fr 121 _ (by omega)
  have ehv : ∀ s, hv K s = hv I s := fun s => by
    unfold hv
    rw [fr 47 1 (by omega)]
    refine vP_same fun o h1 h2 => ?_
    funext f
    refine fr o f ?_
    unfold rbN at h1 h2
    omega
  refine ⟨⟨by rw [eP, eM]; exact a1, by rw [eM]; exact a2⟩, ⟨⟨?_, ?_⟩, ?_⟩, ⟨?_, ?_⟩, ⟨?_, ?_, ?_, ?_⟩, e1, e2, e3⟩
  · rw [fr 1 6 (by omega), fr 119 4 (by omega)]
    exact b1
  · rw [fr 119 4 (by omega)]
    exact b2
  · rw [fr 119 4 (by omega), eS, e122]
    exact b3
  · rw [fr 1 7 (by omega), fr 119 17 (by omega)]
    exact c1
  · rw [fr 1 8 (by omega), fr 119 18 (by omega)]
    exact c2
  · rw [fr 47 2 (by omega), fr 119 2 (by omega)]
    exact d1
  · rw [fr 119 2 (by omega)]
    exact d2
  · rw [fr 47 1 (by omega)]
    exact d3
  · rw [fr 119 2 (by omega)]
    intro s s0 s1
    rw [ehv, esl]
    exact d4 s s0 s1
theorem b_type {I : sh_Mem} {x : Int} (hI : Inv I) (hx : 0 ≤ x ∧ x < 65536) : Both mX6_type mX7_type [.inl x] I := by
  intro Q h
  have hI2 := hI
  obtain ⟨-, -, -, -, e1, e2, e3⟩ := hI2
  by_cases hn : I 119 10 < 60
  · refine eX6_type (eX1_append ⟨bdi (by omega), fun q9 => absurd q9 (by omega), fun q9 => ⟨fun _ => ⟨by omega, hx, ?_⟩, fun q => absurd q (by omega)⟩⟩)
    have j10 : sh_u (sh_u I 110 (I 109 1) x) 109 1 (I 109 1 + 1) 119 10 = I 119 10 := by rw [sh_u_ne (by decide), sh_u_ne (by decide)]
    refine ⟨by rw [sh_u_ne (by decide), sh_u_ne (by decide)], eX7_type ⟨by rw [j10]; exact bdi (by omega), fun _ => ⟨by rw [j10]; omega, ?_⟩, fun q => absurd (j10.symm.trans q) (by omega)⟩⟩
    rw [j10, e1]
    refine h _ _ (inv_txt hI (fun o f q => ?_) ?_ ?_ ?_) ?_
    · by_cases a : o = 119
      · subst a
        rw [sh_u_nf (by omega), sh_u_ne (by decide), sh_u_ne (by decide), sh_u_ne (by decide)]
      · rw [sh_u_ne a, sh_u_ne (by omega)]
        by_cases b : o = 109
        · subst b
          rw [sh_u_nf (by omega), sh_u_ne (by decide)]
        · rw [sh_u_ne b, sh_u_ne (by omega)]
    · simp [sh_u, e1]
    · simp [sh_u]
      omega
    · intro j j0 j1
      have z : j < I 119 10 + 1 := by simpa [sh_u] using j1
      by_cases a : j = I 119 10
      · subst a
        simp [sh_u, hx]
      · have := e3 j j0 (by omega)
        simp [sh_u, a]
        exact this
    · rw [sh_u_ne (by decide), sh_u_ne (by decide), sh_u_ne (by decide), sh_u_ne (by decide)]
  · exact eX6_type (eX1_append ⟨bdi (by omega), fun q9 => absurd q9 (by omega), fun q9 => ⟨fun q => absurd q (by omega), fun _ => ⟨rfl, eX7_type ⟨bdi (by omega), fun q => absurd (by omega) q, fun _ => h _ _ hI rfl⟩⟩⟩⟩)
theorem b_clearText {I : sh_Mem} (hI : Inv I) : Both mX6_clearText mX7_clearText [] I := by
  intro Q h
  have hI2 := hI
  obtain ⟨-, -, -, -, e1, e2, e3⟩ := hI2
  refine eX6_clearText (eX1_clear ⟨sh_u_ne (by decide), eX7_clearText ?_⟩)
  have j10 : sh_u I 109 1 0 119 10 = I 119 10 := by rw [sh_u_ne (by decide)]
  rw [j10, e1]
  refine h _ _ (inv_txt hI (fun o f q => ?_) ?_ ?_ (fun j j0 j1 => ?_)) (by rw [sh_u_ne (by decide), sh_u_ne (by decide)])
  · by_cases a : o = 119
    · subst a
      rw [sh_u_nf (by omega), sh_u_ne (by decide)]
    · rw [sh_u_ne a]
      by_cases b : o = 109
      · subst b
        rw [sh_u_nf (by omega)]
      · rw [sh_u_ne b]
  · simp [sh_u]
  · simp [sh_u]
  · have z : j < 0 := by simpa [sh_u] using j1
    omega
/-! what turns would bring -/
noncomputable def frs (v : Vw) : Nat → Int
  | 0 => -5
  | n + 1 => if frs v n = -5 then (if turnT (tuN v n) = -5 then -5 else (n : Int) + 1) else frs v n
theorem frs_in {v : Vw} : ∀ n : Nat, -5 ≤ frs v n ∧ frs v n ≤ (n : Int) := by
  intro n
  induction n with
  | zero => simp [frs]
  | succ n ih =>
    unfold frs
    split
    · split <;> omega
    · omega
theorem frs_tags {v : Vw} (hv : WF v) (ht : v 0 2 ≤ v 0 0) : ∀ n : Nat, v 0 0 + (n : Int) < 150000 → frs v n = -5 → tuN v n 0 2 = v 0 2 := by
  intro n
  induction n with
  | zero => exact fun _ _ => rfl
  | succ n ih =>
    intro hn h
    obtain ⟨a, b, c, d⟩ := tuN_ok hv ht n (by omega)
    have e : tuN v (n + 1) 0 2 = tuN v n 0 2 + tgI (turnT (tuN v n)) := (turnF_ok2 a d (by omega)).2.2.2.1
    unfold frs at h
    by_cases z : frs v n = -5
    · rw [if_pos z] at h
      have h1 := ih (by omega) z
      by_cases y : turnT (tuN v n) = -5
      · rw [e, h1]
        unfold tgI
        rw [if_pos y]
        omega
      · rw [if_neg y] at h
        omega
    · rw [if_neg z] at h
      exact absurd h z
theorem b_ifTurns {I : sh_Mem} {x w : Int} (hI : Inv I) (hx : sh_Bd x) (hw : sh_Bd w) : Both mX6_ifTurns mX7_ifTurns [.inl x, .inl w] I := by
  have hB := hI.wb
  have hv := hB.1
  have ec := hI.eq
  have h00 := hv.2.2.2.2.2.2.2.1
  by_cases h1 : 1 ≤ x ∧ x ≤ 99
  · by_cases h2 : 0 ≤ w ∧ w ≤ 2
    · obtain ⟨n, hn⟩ : ∃ n : Nat, (n : Int) = x := ⟨x.toNat, by omega⟩
      refine both_read (r := if w = 0 then tuN (vM (I 120)) n 0 2 - vM (I 120) 0 2 else if w = 1 then tuN (vM (I 120)) n 0 1 else frs (vM (I 120)) n) hI (fun Q h => eX6_ifTurns ⟨hx, fun q => absurd q (by omega), fun _ => ⟨fun q => absurd q (by omega), fun _ => ⟨hw, fun q => absurd q (by omega), fun _ => ⟨fun _ => s_copyFrom isP_oT isP_oP (by decide) (fun J j1 j2 => ?_), fun q => absurd q (by omega)⟩⟩⟩⟩) (fun J Q ev _ h => eX7_ifTurns (s_in hx (bd_lit (by decide)) (bd_lit (by decide)) (fun _ => Or.inl ⟨rfl, s_in hw (bd_lit (by decide)) (bd_lit (by decide)) (fun _ => Or.inl ⟨rfl, r_putAside (fun K k1 k2 => ?_)⟩) (fun q => absurd h2 q)⟩) (fun q => absurd h1 q)))
      · rw [ec] at j2
        have key : ∀ (m k : Nat) (K : sh_Mem), k + m = n → Off oT I K → vP K oT = tuN (vM (I 120)) k → kk mX6_ifTurns 43 [some (.inr 1), some (.inl x), some (.inl w), some (.inl (tuN (vM (I 120)) k 0 2 - vM (I 120) 0 2)), some (.inl (frs (vM (I 120)) k)), some (.inl ((k : Int) + 1))] [] K (qi Q) := by
          intro m
          induction m with
          | zero =>
            intro k K g0 g1 g2
            have : k = n := by omega
            subst this
            have hq := h K (CSame.off g1)
            refine lX6_ifTurns_43 ⟨bdi (by omega), hx, fun _ => ⟨hw, fun q => ?_, fun q => ?_, fun q => ?_⟩, fun q => absurd q (by omega)⟩
            · rw [if_pos q] at hq
              exact hq
            · rw [if_neg (by omega), if_pos q] at hq
              rw [rP0_1 (I := K) (b := oT), g2]
              exact hq
            · rw [if_neg q.1, if_neg q.2] at hq
              exact hq
          | succ m ih =>
            intro k K g0 g1 g2
            obtain ⟨a, b, c, d⟩ := tuN_ok hv hB.2.1 k (by have := hB.2.2; omega)
            have hfr := frs_in (v := vM (I 120)) k
            have e : tuN (vM (I 120)) (k + 1) 0 2 = tuN (vM (I 120)) k 0 2 + tgI (turnT (tuN (vM (I 120)) k)) := (turnF_ok2 a d (by have := hB.2.2; omega)).2.2.2.1
            refine lX6_ifTurns_43 ⟨bdi (by omega), hx, fun q => absurd q (by omega), fun q => s_takeTurn isP_oT g2 a d (by have := hB.2.2; omega) (fun L l1 l2 l3 => ?_)⟩
            have := ih (k + 1) L (by omega) (g1.tr l1) l2
            rw [e] at this
            unfold frs at this
            by_cases y : turnT (tuN (vM (I 120)) k) = -5
            · have t0 : tgI (turnT (tuN (vM (I 120)) k)) = 0 := by unfold tgI; rw [if_pos y]
              rw [t0] at this ⊢
              rw [if_pos y, show tuN (vM (I 120)) k 0 2 + 0 - vM (I 120) 0 2 = tuN (vM (I 120)) k 0 2 - vM (I 120) 0 2 by omega] at this
              refine Or.inr ⟨rfl, ?_⟩
              by_cases z : frs (vM (I 120)) k = -5
              · rw [if_pos z] at this
                rw [z]
                exact this
              · rw [if_neg z] at this
                exact this
            · have t0 : tgI (turnT (tuN (vM (I 120)) k)) = 1 := by unfold tgI; rw [if_neg y]
              rw [t0] at this ⊢
              rw [if_neg y, show tuN (vM (I 120)) k 0 2 + 1 - vM (I 120) 0 2 = tuN (vM (I 120)) k 0 2 - vM (I 120) 0 2 + 1 by omega] at this
              refine Or.inl ⟨rfl, bdi (by omega), fun z => ?_, fun z => ?_⟩
              · rw [if_neg z] at this
                exact this
              · rw [if_pos z] at this
                exact this
        have := key n 0 J (by omega) j1 j2
        rw [show tuN (vM (I 120)) 0 0 2 - vM (I 120) 0 2 = 0 from Int.sub_self _] at this
        exact this
      · rw [ev] at k2
        have kv : vM (K 120) = vM (I 120) := by rw [k1 120 (by decide)]; exact ev
        have fin : ∀ (L : sh_Mem) (r : Int), MT K L → r = (if w = 0 then tuN (vM (I 120)) n 0 2 - vM (I 120) 0 2 else if w = 1 then tuN (vM (I 120)) n 0 1 else frs (vM (I 120)) n) → kk mX7_ifTurns 111 [some (.inr 119), none, none, none, none] [.inl r] L (qi Q) := fun L r hL er => by
          refine lX7_ifTurns_111 (r_putBack (fun M m1 m2 => ?_))
          rw [er]
          refine h M ⟨?_, fun o f q => ?_⟩
          · rw [m2, hL.1 123 (by decide) (by decide) (by decide), k2, ev]
          · by_cases z : o = 119
            · subst z
              rw [m1 119 (by decide), hL.2 f (by omega) (by omega), k1 119 (by decide)]
            · rw [m1 o (by omega), hL.1 o z (by omega) (by omega), k1 o (by omega)]
        have key : ∀ (m k : Nat) (L : sh_Mem), k + m = n → MT K L → vM (L 120) = tuN (vM (I 120)) k → kk mX7_ifTurns 32 [some (.inr 119), some (.inl x), some (.inl w), some (.inl (frs (vM (I 120)) k)), some (.inl ((k : Int) + 1))] [] L (qi Q) := by
          intro m
          induction m with
          | zero =>
            intro k L g0 g1 g2
            have : k = n := by omega
            subst this
            have e0 : L 123 2 = vM (I 120) 0 2 := by
              rw [g1.1 123 (by decide) (by decide) (by decide), ← k2]
              exact rM0_2
            refine lX7_ifTurns_32 ⟨bdi (by omega), hx, fun _ => ⟨hw, fun q => ⟨fun q2 => fin L _ g1 ?_, fun q2 => fin L _ g1 ?_⟩, fun q => fin L _ g1 ?_⟩, fun q => absurd q (by omega)⟩
            · rw [if_neg q, if_neg q2]
            · rw [if_neg q, if_pos q2, rM0_1 (R := L 120), g2]
            · rw [if_pos q, rM0_2 (R := L 120), g2, e0]
          | succ m ih =>
            intro k L g0 g1 g2
            obtain ⟨a, b, c, d⟩ := tuN_ok hv hB.2.1 k (by have := hB.2.2; omega)
            have hfr := frs_in (v := vM (I 120)) k
            have e : tuN (vM (I 120)) (k + 1) 0 2 = tuN (vM (I 120)) k 0 2 + tgI (turnT (tuN (vM (I 120)) k)) := (turnF_ok2 a d (by have := hB.2.2; omega)).2.2.2.1
            have htg := tuN_tags hv hB.2.1 (k + 1) (by have := hB.2.2; omega)
            refine lX7_ifTurns_32 ⟨bdi (by omega), hx, fun q => absurd q (by omega), fun q => r_turn g2 a d (by have := hB.2.2; omega) (fun M m1 m2 => ?_)⟩
            have := ih (k + 1) M (by omega) (g1.tr m1) m2
            have e0 : M 123 2 = vM (I 120) 0 2 := by
              rw [m1.1 123 (by decide) (by decide) (by decide), g1.1 123 (by decide) (by decide) (by decide), ← k2]
              exact rM0_2
            have e2 : M 120 2 = tuN (vM (I 120)) (k + 1) 0 2 := by rw [rM0_2 (R := M 120), m2]; rfl
            have hv2 := hv.2.2.2.2.2.2.2.2
            have hB2 := hB.2.2
            unfold frs at this
            refine ⟨bdi (by omega), fun z => ?_, fun z => ⟨by rw [e2]; exact bdi (by omega), by rw [e0]; exact bdi (by omega), fun y => ?_, fun y => ?_⟩⟩
            · rw [if_neg z] at this
              exact this
            · rw [e2, e0, e, frs_tags hv hB.2.1 k (by omega) z] at y
              have y5 : turnT (tuN (vM (I 120)) k) = -5 := by
                unfold tgI at y
                split at y
                · assumption
                · omega
              rw [if_pos z, if_pos y5] at this
              rw [z]
              exact this
            · rw [e2, e0, e, frs_tags hv hB.2.1 k (by omega) z] at y
              have y5 : ¬ turnT (tuN (vM (I 120)) k) = -5 := fun y5 => by
                unfold tgI at y
                rw [if_pos y5] at y
                omega
              rw [if_pos z, if_neg y5] at this
              exact this
        exact key n 0 K (by omega) MT.rf kv
    · refine both_read (r := -2) hI (fun Q h => eX6_ifTurns ⟨hx, fun q => absurd q (by omega), fun _ => ⟨fun q => absurd q (by omega), fun _ => ⟨hw, fun _ => h I CSame.rf, fun _ => ⟨fun q => absurd q (by omega), fun _ => h I CSame.rf⟩⟩⟩⟩) (fun J Q ev _ h => eX7_ifTurns (s_in hx (bd_lit (by decide)) (bd_lit (by decide)) (fun _ => Or.inl ⟨rfl, s_in hw (bd_lit (by decide)) (bd_lit (by decide)) (fun q => absurd q h2) (fun _ => Or.inr ⟨rfl, h J MSame.rf⟩)⟩) (fun q => absurd h1 q)))
  · exact both_read (r := -2) hI (fun Q h => eX6_ifTurns ⟨hx, fun _ => h I CSame.rf, fun _ => ⟨fun _ => h I CSame.rf, fun q => absurd q (by omega)⟩⟩) (fun J Q ev _ h => eX7_ifTurns (s_in hx (bd_lit (by decide)) (bd_lit (by decide)) (fun q => absurd q h1) (fun _ => Or.inr ⟨rfl, h J MSame.rf⟩)))
