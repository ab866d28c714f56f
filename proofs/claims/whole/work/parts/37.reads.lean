/-! ===== 37: the questions, asked of both ===== -/
theorem both_read {mc mm : sh_M} {args : List sh_V} {I : sh_Mem} {r : Int} (hI : Inv I) (hc : ∀ Q, (∀ J, CSame I J → Q r J) → cc mc (.inr 1 :: args) I (qi Q)) (hm : ∀ J Q, vM (J 120) = vM (I 120) → (∀ o, 119 ≤ o → J o = I o) → (∀ K, MSame J K → Q r K) → cc mm (.inr 119 :: args) J (qi Q)) : Both mc mm args I := by
  intro Q h
  refine hc _ (fun J hJ => ?_)
  have hJ1 : ∀ o, 119 ≤ o → J o = I o := fun o ho => by funext k; exact hJ o k (by omega)
  have hJ0 : J 0 = I 0 := by funext k; exact hJ 0 k (by omega)
  refine ⟨hJ0, hm J _ (vM_of hJ1) hJ1 (fun K hK => h r K (inv_same hI hJ hK) ?_)⟩
  rw [← hJ0]
  funext k
  exact hK.2 0 k (by omega)
theorem Inv.wf {I : sh_Mem} (h : Inv I) : WF (vP I oP) := by rw [h.eq]; exact h.wb.1
theorem isr_bd {v : Vw} {r : Int} (hv : WF v) (hr : isr v r) : 0 ≤ r ∧ r < 6 := by
  have := hv.many
  have := hr.1
  have := hr.2
  omega
theorem b_at {I : sh_Mem} {c : Int} (hI : Inv I) (hx : sh_Bd c) : Both mX6_at mX7_at [.inl c] I := by
  have hv := hI.wb.1
  by_cases hc : 0 ≤ c ∧ c < 100
  · refine both_read (r := st (vM (I 120)) c) hI (fun Q h => eX6_at (s_isCell hx (fun _ => Or.inl ⟨rfl, s_standingOn isP_oP hI.wf hx ?_⟩) (fun q => absurd hc q))) (fun J Q ev _ h => eX7_at (r_isCell hx (fun _ => Or.inl ⟨rfl, r_runnerAt ev hv hx (h J MSame.rf)⟩) (fun q => absurd hc q)))
    rw [hI.eq]
    exact h I CSame.rf
  · exact both_read (r := -1) hI (fun Q h => eX6_at (s_isCell hx (fun q => absurd q hc) (fun _ => Or.inr ⟨rfl, h I CSame.rf⟩))) (fun J Q ev _ h => eX7_at (r_isCell hx (fun q => absurd q hc) (fun _ => Or.inr ⟨rfl, h J MSame.rf⟩)))
theorem b_stopped {I : sh_Mem} {x : Int} (hI : Inv I) (hx : sh_Bd x) : Both mX6_stopped mX7_stopped [.inl x] I := by
  obtain ⟨c1, c2⟩ := hI.2.2.1
  by_cases h0 : x = 0
  · refine both_read (r := I 119 17) hI (fun Q h => eX6_stopped ⟨hx, fun _ => by rw [c1]; exact h I CSame.rf, fun q => absurd q (by omega), fun q => absurd h0 q.1⟩) (fun J Q ev hJ h => eX7_stopped ⟨hx, fun q => absurd h0 q, fun _ => by rw [hJ 119 (by decide)]; exact h J MSame.rf⟩)
  · by_cases h1 : x = 1
    · refine both_read (r := I 119 18) hI (fun Q h => eX6_stopped ⟨hx, fun q => absurd q h0, fun _ => by rw [c2]; exact h I CSame.rf, fun q => absurd h1 q.2⟩) (fun J Q ev hJ h => eX7_stopped ⟨hx, fun _ => ⟨fun q => absurd h1 q, fun _ => by rw [hJ 119 (by decide)]; exact h J MSame.rf⟩, fun q => absurd q h0⟩)
    · exact both_read (r := -2) hI (fun Q h => eX6_stopped ⟨hx, fun q => absurd q h0, fun q => absurd q h1, fun _ => h I CSame.rf⟩) (fun J Q ev hJ h => eX7_stopped ⟨hx, fun _ => ⟨fun _ => h J MSame.rf, fun q => absurd q h1⟩, fun q => absurd q h0⟩)
theorem s_hasV {b : Nat} {x : Int} {I : sh_Mem} {Q : Int → sh_Mem → Prop} {v : Vw} (hb : sh_isP b) (ev : vP I b = v) (hv : WF v) (hx : sh_Bd x) (h1 : isr v x → Q 1 I) (h0 : ¬ isr v x → Q 0 I) : cc mX5_has [.inr (b + 1), .inl x] I (qi Q) := by
  subst ev
  exact s_has hb hv hx h1 h0
theorem b_runner {I : sh_Mem} {x w : Int} (hI : Inv I) (hx : sh_Bd x) (hw : sh_Bd w) : Both mX6_runner mX7_runner [.inl x, .inl w] I := by
  have hv := hI.wb.1
  have ec := hI.eq
  by_cases hr : isr (vM (I 120)) x
  · have hr6 := isr_bd hv hr
    by_cases h7 : w = 7
    · refine both_read (r := dkn (vM (I 120)) x (-5)) hI (fun Q h => eX6_runner (s_hasV isP_oP ec hv hx (fun _ => Or.inl ⟨rfl, hw, fun q => ?_, fun q => ?_, fun q => ?_, fun q => ?_, fun q => ?_, fun q => ?_, fun q => ?_, fun _ => s_cellsOf ec hv hr (fun J hJ => h J hJ.same), fun q => ?_⟩) (fun q => absurd hr q))) (fun J Q ev _ h => eX7_runner (r_isRunner ev hv hx (fun _ => Or.inl ⟨rfl, hw, fun q => absurd h7 q, fun _ => r_dark ev hv hx (bd_lit (by decide)) (fun K hK => h K hK.same)⟩) (fun q => absurd hr q)))
      all_goals omega
    · by_cases hin : 0 ≤ w ∧ w ≤ 6
      · have hj : ∃ j : Nat, 6 ≤ j ∧ j ≤ 12 ∧ (j : Int) - 6 = w := ⟨w.toNat + 6, by omega, by omega, by omega⟩
        obtain ⟨j, j1, j2, j3⟩ := hj
        have hcls : ∀ j' : Nat, 6 ≤ j' → j' ≤ 12 → (j' : Int) - 6 = w → I (oP + (j' - 4)) x = vM (I 120) j x := fun j' a b e => by
          have e1 : j' = j := by omega
          rw [e1, ← ec]
          have h9 : szv j = 6 := by
            unfold szv
            rw [if_neg (by omega), if_neg (by omega), if_neg (by omega), if_pos (by omega)]
          have h8 := vP_in (I := I) (b := oP) (j := j) (i := x) (by rw [h9]; exact hr6)
          rw [h8]
          unfold lo1 lo2
          rw [if_neg (by omega), if_neg (by omega), if_neg (by omega), if_neg (by omega)]
        refine both_read (r := vM (I 120) j x) hI (fun Q h => eX6_runner (s_hasV isP_oP ec hv hx (fun _ => Or.inl ⟨rfl, hw, fun q => ⟨hr6, ?_⟩, fun q => ⟨hr6, ?_⟩, fun q => ⟨hr6, ?_⟩, fun q => ⟨hr6, ?_⟩, fun q => ⟨hr6, ?_⟩, fun q => ⟨hr6, ?_⟩, fun q => ⟨hr6, ?_⟩, fun q => absurd q h7, fun q => absurd q (by omega)⟩) (fun q => absurd hr q))) (fun J Q ev _ h => eX7_runner (r_isRunner ev hv hx (fun _ => Or.inl ⟨rfl, hw, fun _ => s_in hw (bd_lit (by decide)) (bd_lit (by decide)) (fun _ => Or.inl ⟨rfl, r_of j ev hr6 ⟨j1, j2⟩ j3 (h J MSame.rf)⟩) (fun q => absurd hin q), fun q => absurd q h7⟩) (fun q => absurd hr q)))
        · rw [hcls 6 (by decide) (by decide) (by omega)]; exact h I CSame.rf
        · rw [hcls 7 (by decide) (by decide) (by omega)]; exact h I CSame.rf
        · rw [hcls 8 (by decide) (by decide) (by omega)]; exact h I CSame.rf
        · rw [hcls 9 (by decide) (by decide) (by omega)]; exact h I CSame.rf
        · rw [hcls 10 (by decide) (by decide) (by omega)]; exact h I CSame.rf
        · rw [hcls 11 (by decide) (by decide) (by omega)]; exact h I CSame.rf
        · rw [hcls 12 (by decide) (by decide) (by omega)]; exact h I CSame.rf
      · refine both_read (r := -2) hI (fun Q h => eX6_runner (s_hasV isP_oP ec hv hx (fun _ => Or.inl ⟨rfl, hw, fun q => ?_, fun q => ?_, fun q => ?_, fun q => ?_, fun q => ?_, fun q => ?_, fun q => ?_, fun q => ?_, fun _ => h I CSame.rf⟩) (fun q => absurd hr q))) (fun J Q ev _ h => eX7_runner (r_isRunner ev hv hx (fun _ => Or.inl ⟨rfl, hw, fun _ => s_in hw (bd_lit (by decide)) (bd_lit (by decide)) (fun q => absurd q hin) (fun _ => Or.inr ⟨rfl, h J MSame.rf⟩), fun q => absurd q h7⟩) (fun q => absurd hr q)))
        all_goals omega
  · exact both_read (r := -1) hI (fun Q h => eX6_runner (s_hasV isP_oP ec hv hx (fun q => absurd q hr) (fun _ => Or.inr ⟨rfl, h I CSame.rf⟩))) (fun J Q ev _ h => eX7_runner (r_isRunner ev hv hx (fun q => absurd q hr) (fun _ => Or.inr ⟨rfl, h J MSame.rf⟩)))
theorem b_lamp {I : sh_Mem} {x w : Int} (hI : Inv I) (hx : sh_Bd x) (hw : sh_Bd w) : Both mX6_lamp mX7_lamp [.inl x, .inl w] I := by
  have hv := hI.wb.1
  have ec := hI.eq
  by_cases hr : 0 ≤ x ∧ x < 3
  · by_cases h7 : w = 4
    · refine both_read (r := dkn (vM (I 120)) (-5) x) hI (fun Q h => eX6_lamp (s_isLamp hx (fun _ => Or.inl ⟨rfl, hw, fun q => ?_, fun q => ?_, fun q => ?_, fun q => ?_, fun _ => s_cellsBy ec hv hr (fun J hJ => h J hJ.same), fun q => ?_⟩) (fun q => absurd hr q))) (fun J Q ev _ h => eX7_lamp (r_isLamp hx (fun _ => Or.inl ⟨rfl, hw, fun q => absurd h7 q, fun _ => r_dark ev hv (bd_lit (by decide)) hx (fun K hK => h K hK.same)⟩) (fun q => absurd hr q)))
      all_goals omega
    · by_cases hin : 0 ≤ w ∧ w ≤ 3
      · have hj : ∃ j : Nat, 2 ≤ j ∧ j ≤ 5 ∧ (j : Int) - 2 = w := ⟨w.toNat + 2, by omega, by omega, by omega⟩
        obtain ⟨j, j1, j2, j3⟩ := hj
        have hcls : ∀ j' : Nat, 2 ≤ j' → j' ≤ 5 → (j' : Int) - 2 = w → I (oP + (j' + 8)) x = vM (I 120) j x := fun j' a b e => by
          have e1 : j' = j := by omega
          rw [e1, ← ec]
          have h9 : szv j = 3 := by
            unfold szv
            rw [if_neg (by omega), if_neg (by omega), if_pos (by omega)]
          have h8 := vP_in (I := I) (b := oP) (j := j) (i := x) (by rw [h9]; exact hr)
          rw [h8]
          unfold lo1 lo2
          rw [if_neg (by omega), if_neg (by omega), if_pos (by omega), if_neg (by omega)]
        refine both_read (r := vM (I 120) j x) hI (fun Q h => eX6_lamp (s_isLamp hx (fun _ => Or.inl ⟨rfl, hw, fun q => ⟨hr, ?_⟩, fun q => ⟨hr, ?_⟩, fun q => ⟨hr, ?_⟩, fun q => ⟨hr, ?_⟩, fun q => absurd q h7, fun q => absurd q (by omega)⟩) (fun q => absurd hr q))) (fun J Q ev _ h => eX7_lamp (r_isLamp hx (fun _ => Or.inl ⟨rfl, hw, fun _ => s_in hw (bd_lit (by decide)) (bd_lit (by decide)) (fun _ => Or.inl ⟨rfl, r_ofLamp j ev hr ⟨j1, j2⟩ j3 (h J MSame.rf)⟩) (fun q => absurd hin q), fun q => absurd q h7⟩) (fun q => absurd hr q)))
        · rw [hcls 2 (by decide) (by decide) (by omega)]; exact h I CSame.rf
        · rw [hcls 3 (by decide) (by decide) (by omega)]; exact h I CSame.rf
        · rw [hcls 4 (by decide) (by decide) (by omega)]; exact h I CSame.rf
        · rw [hcls 5 (by decide) (by decide) (by omega)]; exact h I CSame.rf
      · refine both_read (r := -2) hI (fun Q h => eX6_lamp (s_isLamp hx (fun _ => Or.inl ⟨rfl, hw, fun q => ?_, fun q => ?_, fun q => ?_, fun q => ?_, fun q => ?_, fun _ => h I CSame.rf⟩) (fun q => absurd hr q))) (fun J Q ev _ h => eX7_lamp (r_isLamp hx (fun _ => Or.inl ⟨rfl, hw, fun _ => s_in hw (bd_lit (by decide)) (bd_lit (by decide)) (fun q => absurd q hin) (fun _ => Or.inr ⟨rfl, h J MSame.rf⟩), fun q => absurd q h7⟩) (fun q => absurd hr q)))
        all_goals omega
  · exact both_read (r := -1) hI (fun Q h => eX6_lamp (s_isLamp hx (fun q => absurd q hr) (fun _ => Or.inr ⟨rfl, h I CSame.rf⟩))) (fun J Q ev _ h => eX7_lamp (r_isLamp hx (fun q => absurd q hr) (fun _ => Or.inr ⟨rfl, h J MSame.rf⟩)))
theorem b_shadow {I : sh_Mem} {x l w : Int} (hI : Inv I) (hx : sh_Bd x) (hlb : sh_Bd l) (hw : sh_Bd w) : Both mX6_shadow mX7_shadow [.inl x, .inl l, .inl w] I := by
  have hv := hI.wb.1
  have ec := hI.eq
  by_cases hr : isr (vM (I 120)) x
  · by_cases hl : 0 ≤ l ∧ l < 3
    · have hln := ln_in hv hr hl
      have hr' : isr (vP I oP) x := by rw [ec]; exact hr
      have cls : ∀ {Q : Int → sh_Mem → Prop}, (sh_Bd w ∧ ((w = 0 → (cc mX4_shadowLength [.inr oP, .inl x, .inl l] I (qi fun v10 I8 => Q v10 I8))) ∧ ((w = 1 → (cc mX4_shadowEnd [.inr oP, .inl x, .inl l] I (qi fun v14 I12 => Q v14 I12))) ∧ ((w = 2 → (cc mX4_shadowEnd [.inr oP, .inl x, .inl l] I (qi fun v18 I16 => (cc mX5_standingOn [.inr (oP + 1), .inl v18] I16 (qi fun v21 I19 => Q v21 I19))))) ∧ ((w < 0 ∨ 2 < w) → Q (-2) I))))) → cc mX6_shadow [.inr 1, .inl x, .inl l, .inl w] I (qi Q) := fun h => eX6_shadow (s_hasV isP_oP ec hv hx (fun _ => Or.inl ⟨rfl, s_isLamp hlb (fun _ => Or.inl ⟨rfl, h⟩) (fun q => absurd hl q)⟩) (fun q => absurd hr q))
      have ref : ∀ {J : sh_Mem} {Q : Int → sh_Mem → Prop}, vM (J 120) = vM (I 120) → (∀ K, MS J K → K 119 7 = ln (vM (I 120)) x l → K 119 8 = en (vM (I 120)) x l → (∀ k, 0 ≤ k → k < ln (vM (I 120)) x l → K 124 k = al (vM (I 120) 6 x) (aw (vM (I 120)) l) (k + 1)) → (sh_Bd w ∧ ((¬ w = 0 → ((¬ w = 1 → ((¬ w = 2 → Q (-2) K) ∧ (w = 2 → Q (K 119 8) K))) ∧ (w = 1 → (sh_Bd (K 119 7) ∧ ((¬ (K 119 7) = 0 → ((0 ≤ ((K 119 7) - 1) ∧ ((K 119 7) - 1) < (24 : Int)) ∧ Q (K 124 ((K 119 7) - 1)) K)) ∧ ((K 119 7) = 0 → Q (-5) K)))))) ∧ (w = 0 → Q (K 119 7) K)))) → cc mX7_shadow [.inr 119, .inl x, .inl l, .inl w] J (qi Q) := fun ev h => eX7_shadow (r_isRunner ev hv hx (fun _ => Or.inl ⟨rfl, r_isLamp hlb (fun _ => Or.inl ⟨rfl, r_follow ev hv hr hl (fun K k1 k2 k3 k4 => h K k1 k2 k3 k4)⟩) (fun q => absurd hl q)⟩) (fun q => absurd hr q))
      by_cases w0 : w = 0
      · refine both_read (r := ln (vM (I 120)) x l) hI (fun Q h => cls ⟨hw, fun _ => s_shadowLength isP_oP hI.wf hx hlb (fun q => absurd ⟨hr', hl.1, hl.2⟩ q) (fun _ => by rw [ec]; exact h I CSame.rf), fun q => absurd q (by omega), fun q => absurd q (by omega), fun q => absurd q (by omega)⟩) (fun J Q ev _ h => ref ev (fun K k1 k2 k3 k4 => ⟨hw, fun q => absurd w0 q, fun _ => by rw [k2]; exact h K k1.same⟩))
      · by_cases w1 : w = 1
        · refine both_read (r := if ln (vM (I 120)) x l = 0 then -5 else al (vM (I 120) 6 x) (aw (vM (I 120)) l) (ln (vM (I 120)) x l)) hI (fun Q h => cls ⟨hw, fun q => absurd q w0, fun _ => s_shadowEnd isP_oP hI.wf hr' hl (fun q => ?_) (fun q => ?_), fun q => absurd q (by omega), fun q => absurd q (by omega)⟩) (fun J Q ev _ h => ref ev (fun K k1 k2 k3 k4 => ⟨hw, fun _ => ⟨fun q => absurd w1 q, fun _ => ⟨bdi (by omega), fun q => ⟨by omega, ?_⟩, fun q => ?_⟩⟩, fun q => absurd q w0⟩))
          · rw [ec] at q
            have := h I CSame.rf
            rw [if_pos q] at this
            exact this
          · rw [ec] at q ⊢
            have := h I CSame.rf
            rw [if_neg (by omega)] at this
            exact this
          · have := h K k1.same
            rw [k2] at q
            rw [if_neg q] at this
            rw [k2, k4 _ (by omega) (by omega), Int.sub_add_cancel]
            exact this
          · have := h K k1.same
            rw [k2] at q
            rw [if_pos q] at this
            exact this
        · by_cases w2 : w = 2
          · refine both_read (r := en (vM (I 120)) x l) hI (fun Q h => cls ⟨hw, fun q => absurd q w0, fun q => absurd q w1, fun _ => s_shadowEnd isP_oP hI.wf hr' hl (fun q => s_standingOn isP_oP hI.wf (bd_lit (by decide)) ?_) (fun q => s_standingOn isP_oP hI.wf ?_ ?_), fun q => absurd q (by omega)⟩) (fun J Q ev _ h => ref ev (fun K k1 k2 k3 k4 => ⟨hw, fun _ => ⟨fun _ => ⟨fun q => absurd w2 q, fun _ => by rw [k3]; exact h K k1.same⟩, fun q => absurd q w1⟩, fun q => absurd q w0⟩))
            · rw [ec] at q ⊢
              have := h I CSame.rf
              unfold en at this
              rw [if_neg (by omega)] at this
              rw [st_none hv (fun r hr e => ?_)]
              · exact this
              · have := hv.cell hr.1 hr.2
                omega
            · rw [ec] at q ⊢
              have := al_in (k := ln (vM (I 120)) x l) (hv.cell hr.1 hr.2) (aw_in (v := vM (I 120)) (l := l)) (by omega)
              exact bdi (by omega)
            · rw [ec] at q ⊢
              have := h I CSame.rf
              unfold en at this
              rw [if_pos q] at this
              exact this
          · exact both_read (r := -2) hI (fun Q h => cls ⟨hw, fun q => absurd q w0, fun q => absurd q w1, fun q => absurd q w2, fun _ => h I CSame.rf⟩) (fun J Q ev _ h => ref ev (fun K k1 k2 k3 k4 => ⟨hw, fun _ => ⟨fun _ => ⟨fun _ => h K k1.same, fun q => absurd q w2⟩, fun q => absurd q w1⟩, fun q => absurd q w0⟩))
    · exact both_read (r := -1) hI (fun Q h => eX6_shadow (s_hasV isP_oP ec hv hx (fun _ => Or.inl ⟨rfl, s_isLamp hlb (fun q => absurd q hl) (fun _ => Or.inr ⟨rfl, h I CSame.rf⟩)⟩) (fun q => absurd hr q))) (fun J Q ev _ h => eX7_shadow (r_isRunner ev hv hx (fun _ => Or.inl ⟨rfl, r_isLamp hlb (fun q => absurd q hl) (fun _ => Or.inr ⟨rfl, h J MSame.rf⟩)⟩) (fun q => absurd hr q)))
  · exact both_read (r := -1) hI (fun Q h => eX6_shadow (s_hasV isP_oP ec hv hx (fun q => absurd q hr) (fun _ => Or.inr ⟨rfl, h I CSame.rf⟩))) (fun J Q ev _ h => eX7_shadow (r_isRunner ev hv hx (fun q => absurd q hr) (fun _ => Or.inr ⟨rfl, h J MSame.rf⟩)))
theorem b_darkness {I : sh_Mem} {c : Int} (hI : Inv I) (hx : sh_Bd c) : Both mX6_darkness mX7_darkness [.inl c] I := by
  have hv := hI.wb.1
  have ec := hI.eq
  have hm := hv.many
  by_cases hc : 0 ≤ c ∧ c < 100
  · refine both_read (r := pc (vM (I 120)) c (-5) (-5) (3 * vM (I 120) 0 6).toNat) hI (fun Q h => eX6_darkness (s_isCell hx (fun _ => Or.inl ⟨rfl, ?_⟩) (fun q => absurd hc q))) (fun J Q ev _ h => eX7_darkness (r_isCell hx (fun _ => Or.inl ⟨rfl, r_shadowsOn ev hv hc (bd_lit (by decide)) (bd_lit (by decide)) (fun K hK => h K hK.same)⟩) (fun q => absurd hc q)))
    have e6 : I (oP + 1) 7 = vM (I 120) 0 6 := by rw [rP0_6 (I := I) (b := oP), ec]
    have key2 : ∀ (m : Nat) (n r : Nat), (∀ k, k = 3 * (r + 1) → kk mX6_darkness 13 [some (.inr 1), some (.inl c), some (.inl (pc (vM (I 120)) c (-5) (-5) k)), some (.inl ((r : Int) + 1)), none] [] I (qi Q)) → (r : Int) < vM (I 120) 0 6 → n + m = 3 → kk mX6_darkness 30 [some (.inr 1), some (.inl c), some (.inl (pc (vM (I 120)) c (-5) (-5) (3 * r + n))), some (.inl (r : Int)), some (.inl (n : Int))] [] I (qi Q) := by
      intro m
      induction m with
      | zero =>
        intro n r g g1 g2
        have : n = 3 := by omega
        subst this
        exact lX6_darkness_30 ⟨bdi (by omega), fun _ => g _ (by omega), fun q => absurd q (by omega)⟩
      | succ m ih =>
        intro n r g g1 g2
        have hr : isr (vP I oP) (r : Int) := by rw [ec]; exact ⟨by omega, g1⟩
        have e1 : ((3 * r + n : Nat) : Int) / 3 = (r : Int) := by omega
        have e2 : ((3 * r + n : Nat) : Int) % 3 = (n : Int) := by omega
        refine lX6_darkness_30 ⟨bdi (by omega), fun q => absurd q (by omega), fun q => s_isInShadow isP_oP hI.wf hc hr (by omega) (fun q2 => Or.inl ⟨rfl, ?_⟩) (fun q2 => Or.inr ⟨rfl, ?_⟩)⟩
        · rw [ec] at q2
          have := ih (n + 1) r g g1 (by omega)
          rw [show 3 * r + (n + 1) = (3 * r + n) + 1 by omega] at this
          unfold pc at this ⊢
          rw [cntN_yes ⟨⟨Or.inl rfl, Or.inl rfl⟩, by rw [e1, e2]; exact q2⟩] at this
          exact this
        · rw [ec] at q2
          have := ih (n + 1) r g g1 (by omega)
          rw [show 3 * r + (n + 1) = (3 * r + n) + 1 by omega] at this
          unfold pc at this ⊢
          rw [cntN_no (fun z => q2 (by have z2 := z.2; rw [e1, e2] at z2; exact z2))] at this
          exact this
    have key : ∀ (m r : Nat), (r : Int) + (m : Int) = vM (I 120) 0 6 → kk mX6_darkness 13 [some (.inr 1), some (.inl c), some (.inl (pc (vM (I 120)) c (-5) (-5) (3 * r))), some (.inl (r : Int)), none] [] I (qi Q) := by
      intro m
      induction m with
      | zero =>
        intro r g
        refine lX6_darkness_13 ⟨bdi (by omega), bdi (by omega), fun _ => ?_, fun q => absurd q (by omega)⟩
        have e : 3 * r = (3 * vM (I 120) 0 6).toNat := by omega
        rw [e]
        exact h I CSame.rf
      | succ m ih =>
        intro r g
        refine lX6_darkness_13 ⟨bdi (by omega), bdi (by omega), fun q => absurd q (by omega), fun q => key2 3 0 r (fun k hk => ?_) (by omega) (by omega)⟩
        have := ih (r + 1) (by omega)
        rw [hk]
        exact this
    exact key (vM (I 120) 0 6).toNat 0 (by omega)
  · exact both_read (r := -1) hI (fun Q h => eX6_darkness (s_isCell hx (fun q => absurd q hc) (fun _ => Or.inr ⟨rfl, h I CSame.rf⟩))) (fun J Q ev _ h => eX7_darkness (r_isCell hx (fun q => absurd q hc) (fun _ => Or.inr ⟨rfl, h J MSame.rf⟩)))
theorem b_reason {I : sh_Mem} {x : Int} (hI : Inv I) (hx : sh_Bd x) : Both mX6_reason mX7_reason [.inl x] I := by
  have hv := hI.wb.1
  have ec := hI.eq
  have hcb := hv.2.1
  have hm := hv.many
  by_cases hr : isr (vM (I 120)) x
  · have hr6 := isr_bd hv hr
    have hr' : isr (vP I oP) x := by rw [ec]; exact hr
    have hru := hv.run hr.1 hr.2
    have e1 : I (oP + 1) 8 = vM (I 120) 0 1 := by rw [rP0_1 (I := I) (b := oP), ec]
    have e5 : I (oP + 5) x = vM (I 120) 9 x := by rw [rP9 (I := I) (b := oP) hr6, ec]
    have m1 : ∀ J : sh_Mem, vM (J 120) = vM (I 120) → J 120 1 = vM (I 120) 0 1 := fun J ev => by rw [← ev]; exact rM0_1
    by_cases hca : x = vM (I 120) 0 1
    · exact both_read (r := 1) hI (fun Q h => eX6_reason (s_hasV isP_oP ec hv hx (fun _ => Or.inl ⟨rfl, hx, bdi (by omega), fun q => absurd (hca.trans e1.symm) q, fun _ => h I CSame.rf⟩) (fun q => absurd hr q))) (fun J Q ev _ h => eX7_reason (r_isRunner ev hv hx (fun _ => Or.inl ⟨rfl, hx, by rw [m1 J ev]; exact bdi (by omega), fun q => absurd (hca.trans (m1 J ev).symm) q, fun _ => h J MSame.rf⟩) (fun q => absurd hr q)))
    · have cls : ∀ {Q : Int → sh_Mem → Prop}, cc mX4_hasShadow [.inr oP, .inl x] I (qi fun v9 I7 => ((v9 = 1 ∧ ((0 ≤ x ∧ x < (6 : Int)) ∧ (sh_Bd (I7 (oP + 5) x) ∧ (((I7 (oP + 5) x) = 0 → (cc mX4_catcherStandsInShadowOf [.inr oP, .inl x] I7 (qi fun v15 I13 => ((v15 = 1 ∧ (cc mX4_firstCaught [.inr oP] I13 (qi fun v18 I16 => (sh_Bd v18 ∧ ((¬ v18 = x → Q 5 I16) ∧ (v18 = x → Q 0 I16)))))) ∨ (v15 = 0 ∧ Q 4 I13))))) ∧ (¬ (I7 (oP + 5) x) = 0 → Q 3 I7))))) ∨ (v9 = 0 ∧ Q 2 I7))) → cc mX6_reason [.inr 1, .inl x] I (qi Q) := fun h => eX6_reason (s_hasV isP_oP ec hv hx (fun _ => Or.inl ⟨rfl, hx, bdi (by omega), fun _ => h, fun q => absurd (q.trans e1) hca⟩) (fun q => absurd hr q))
      have ref : ∀ {J : sh_Mem} {Q : Int → sh_Mem → Prop}, vM (J 120) = vM (I 120) → cc mX7_hasShadow [.inr 119, .inl x] J (qi fun v9 I7 => ((v9 = 1 ∧ (cc mX7_of [.inr 119, .inl x, .inl 3] I7 (qi fun v12 I10 => (sh_Bd v12 ∧ ((v12 ≤ 0 → (cc mX7_of [.inr 119, .inl (I10 120 1), .inl 0] I10 (qi fun v17 I15 => (cc mX7_isInShadowOf [.inr 119, .inl x, .inl v17] I15 (qi fun v20 I18 => ((v20 = 1 ∧ (cc mX7_tagNow [.inr 119] I18 (qi fun v23 I21 => (sh_Bd v23 ∧ ((¬ v23 = x → Q 5 I21) ∧ (v23 = x → Q 0 I21)))))) ∨ (v20 = 0 ∧ Q 4 I18))))))) ∧ (0 < v12 → Q 3 I10)))))) ∨ (v9 = 0 ∧ Q 2 I7))) → cc mX7_reason [.inr 119, .inl x] J (qi Q) := fun {J Q} ev h => eX7_reason (r_isRunner ev hv hx (fun _ => Or.inl ⟨rfl, hx, by rw [m1 J ev]; exact bdi (by omega), fun _ => h, fun q => absurd (q.trans (m1 J ev)) hca⟩) (fun q => absurd hr q))
      by_cases hsh : hs (vM (I 120)) x
      · by_cases h9 : vM (I 120) 9 x = 0
        · have hcr : isr (vM (I 120)) (vM (I 120) 0 1) := by
            have := hr.2
            unfold isr
            omega
          have hcc := hv.cell hcr.1 hcr.2
          have hcr6 := isr_bd hv hcr
          have hcaB := CaIs.bd hv (ca_ok hv)
          have hcaBd : sh_Bd (ca (vM (I 120))) := by
            rcases hcaB with z | ⟨z, -⟩
            · exact bdi (by omega)
            · have := isr_bd hv z
              exact bdi (by omega)
          by_cases hin : ish (vM (I 120)) x (vM (I 120) 6 (vM (I 120) 0 1))
          · by_cases hfin : ca (vM (I 120)) = x
            · refine both_read (r := 0) hI (fun Q h => cls (s_hasShadow isP_oP hI.wf hr' (fun _ => Or.inl ⟨rfl, hr6, bdi (by omega), fun _ => s_catcherStands isP_oP hI.wf hr' (fun _ => Or.inl ⟨rfl, s_firstCaughtE isP_oP ec hv (fun _ => ⟨hcaBd, fun q => absurd hfin q, fun _ => h I CSame.rf⟩)⟩) (fun q => absurd (by rw [ec]; exact hin) q), fun q => absurd (e5.trans h9) q⟩) (fun q => absurd (by rw [ec]; exact hsh) q))) (fun J Q ev _ h => ref ev (r_hasShadow ev hv hr (fun _ K hK => Or.inl ⟨rfl, r_of 9 (hK.v ev) hr6 (by decide) (by decide) ⟨bdi (by omega), fun _ => ?_, fun q => absurd q (by omega)⟩⟩) (fun q => absurd hsh q)))
              rw [m1 K (hK.v ev)]
              exact r_of 6 (hK.v ev) hcr6 (by decide) (by decide) (r_isInShadowOf (hK.v ev) hv hr hcc (fun _ L hL => Or.inl ⟨rfl, r_tagNow ((hK.tr hL).v ev) hv (fun _ M hM => ⟨hcaBd, fun q => absurd hfin q, fun _ => h M ((hK.tr hL).tr hM).same⟩)⟩) (fun q => absurd hin q))
            · refine both_read (r := 5) hI (fun Q h => cls (s_hasShadow isP_oP hI.wf hr' (fun _ => Or.inl ⟨rfl, hr6, bdi (by omega), fun _ => s_catcherStands isP_oP hI.wf hr' (fun _ => Or.inl ⟨rfl, s_firstCaughtE isP_oP ec hv (fun _ => ⟨hcaBd, fun _ => h I CSame.rf, fun q => absurd q hfin⟩)⟩) (fun q => absurd (by rw [ec]; exact hin) q), fun q => absurd (e5.trans h9) q⟩) (fun q => absurd (by rw [ec]; exact hsh) q))) (fun J Q ev _ h => ref ev (r_hasShadow ev hv hr (fun _ K hK => Or.inl ⟨rfl, r_of 9 (hK.v ev) hr6 (by decide) (by decide) ⟨bdi (by omega), fun _ => ?_, fun q => absurd q (by omega)⟩⟩) (fun q => absurd hsh q)))
              rw [m1 K (hK.v ev)]
              exact r_of 6 (hK.v ev) hcr6 (by decide) (by decide) (r_isInShadowOf (hK.v ev) hv hr hcc (fun _ L hL => Or.inl ⟨rfl, r_tagNow ((hK.tr hL).v ev) hv (fun _ M hM => ⟨hcaBd, fun _ => h M ((hK.tr hL).tr hM).same, fun q => absurd q hfin⟩)⟩) (fun q => absurd hin q))
          · refine both_read (r := 4) hI (fun Q h => cls (s_hasShadow isP_oP hI.wf hr' (fun _ => Or.inl ⟨rfl, hr6, bdi (by omega), fun _ => s_catcherStands isP_oP hI.wf hr' (fun q => absurd (by rw [ec] at q; exact q) hin) (fun _ => Or.inr ⟨rfl, h I CSame.rf⟩), fun q => absurd (e5.trans h9) q⟩) (fun q => absurd (by rw [ec]; exact hsh) q))) (fun J Q ev _ h => ref ev (r_hasShadow ev hv hr (fun _ K hK => Or.inl ⟨rfl, r_of 9 (hK.v ev) hr6 (by decide) (by decide) ⟨bdi (by omega), fun _ => ?_, fun q => absurd q (by omega)⟩⟩) (fun q => absurd hsh q)))
            rw [m1 K (hK.v ev)]
            exact r_of 6 (hK.v ev) hcr6 (by decide) (by decide) (r_isInShadowOf (hK.v ev) hv hr hcc (fun q => absurd q hin) (fun _ L hL => Or.inr ⟨rfl, h L (hK.tr hL).same⟩))
        · exact both_read (r := 3) hI (fun Q h => cls (s_hasShadow isP_oP hI.wf hr' (fun _ => Or.inl ⟨rfl, hr6, bdi (by omega), fun q => absurd (e5.symm.trans q) h9, fun _ => h I CSame.rf⟩) (fun q => absurd (by rw [ec]; exact hsh) q))) (fun J Q ev _ h => ref ev (r_hasShadow ev hv hr (fun _ K hK => Or.inl ⟨rfl, r_of 9 (hK.v ev) hr6 (by decide) (by decide) ⟨bdi (by omega), fun q => absurd q (by omega), fun _ => h K hK.same⟩⟩) (fun q => absurd hsh q)))
      · exact both_read (r := 2) hI (fun Q h => cls (s_hasShadow isP_oP hI.wf hr' (fun q => absurd (by rw [ec] at q; exact q) hsh) (fun _ => Or.inr ⟨rfl, h I CSame.rf⟩))) (fun J Q ev _ h => ref ev (r_hasShadow ev hv hr (fun q => absurd q hsh) (fun _ K hK => Or.inr ⟨rfl, h K hK.same⟩)))
  · exact both_read (r := -1) hI (fun Q h => eX6_reason (s_hasV isP_oP ec hv hx (fun q => absurd q hr) (fun _ => Or.inr ⟨rfl, h I CSame.rf⟩))) (fun J Q ev _ h => eX7_reason (r_isRunner ev hv hx (fun q => absurd q hr) (fun _ => Or.inr ⟨rfl, h J MSame.rf⟩)))
