/-! ===== 49: one shadow, drawn ===== -/
theorem cnt_al {a d : Int} (ha : 0 ≤ a ∧ a < 100) (hd : 0 ≤ d ∧ d < 4) : ∀ n : Nat, (n : Int) ≤ te a d → cntN (fun q => ∃ k, 1 ≤ k ∧ k ≤ (n : Int) ∧ al a d k = q) 100 = (n : Int) := by
  intro n
  induction n with
  | zero =>
    intro _
    have h2 : ∀ m : Nat, cntN (fun q => ∃ k, 1 ≤ k ∧ k ≤ ((0 : Nat) : Int) ∧ al a d k = q) m = 0 := by
      intro m
      induction m with
      | zero => rfl
      | succ m ih =>
        rw [cntN_no (P := fun q => ∃ k, 1 ≤ k ∧ k ≤ ((0 : Nat) : Int) ∧ al a d k = q) (fun ⟨k, h1, h2, _⟩ => by omega), ih]
    exact h2 100
  | succ n ih =>
    intro hn
    have h1 := ih (by omega)
    have hc := al_in (k := (n : Int) + 1) ha hd ⟨by omega, by omega⟩
    have hq : ∀ q : Int, (∃ k, 1 ≤ k ∧ k ≤ ((n + 1 : Nat) : Int) ∧ al a d k = q) ↔ ((∃ k, 1 ≤ k ∧ k ≤ (n : Int) ∧ al a d k = q) ∨ q = al a d ((n : Int) + 1)) := by
      intro q
      constructor
      · rintro ⟨k, k1, k2, k3⟩
        by_cases e : k = (n : Int) + 1
        · rw [e] at k3
          exact Or.inr k3.symm
        · exact Or.inl ⟨k, k1, by omega, k3⟩
      · rintro (⟨k, k1, k2, k3⟩ | z)
        · exact ⟨k, k1, by omega, k3⟩
        · exact ⟨(n : Int) + 1, by omega, by omega, z.symm⟩
    have hno : ¬ (∃ k, 1 ≤ k ∧ k ≤ (n : Int) ∧ al a d k = al a d ((n : Int) + 1)) := by
      rintro ⟨k, k1, k2, k3⟩
      have := al_inj k3
      omega
    have h2 := cntN_add (P := fun q => ∃ k, 1 ≤ k ∧ k ≤ (n : Int) ∧ al a d k = q) (P' := fun q => ∃ k, 1 ≤ k ∧ k ≤ ((n + 1 : Nat) : Int) ∧ al a d k = q) hno 100 (fun q _ _ => hq q) hc.1 hc.2
    rw [h2, h1]
    omega
theorem cnt_ln {v : Vw} {i l : Int} (hv : WF v) (hi : isr v i) (hl : 0 ≤ l ∧ l < 3) : cntN (fun q => shd v i l q) 100 = ln v i l := by
  have hln := ln_in hv hi hl
  have hc := hv.cell hi.1 hi.2
  obtain ⟨n, hn⟩ : ∃ n : Nat, (n : Int) = ln v i l := ⟨(ln v i l).toNat, by omega⟩
  rw [← hn, ← cnt_al hc (aw_in (v := v) (l := l)) n (by omega)]
  refine cntN_congr 100 (fun q q0 q1 => ?_)
  rw [shd_iff hv hi hl ⟨q0, q1⟩, hn]
/-- the farthest cell of a shadow among the first p cells -/
def Far (v : Vw) (i l p x : Int) : Prop := (x = -5 ∧ ∀ q, 0 ≤ q → q < p → ¬ shd v i l q) ∨ ((0 ≤ x ∧ x < p) ∧ shd v i l x ∧ ∀ q, 0 ≤ q → q < p → shd v i l q → di (v 6 i) q (aw v l) ≤ di (v 6 i) x (aw v l))
theorem far_la {v : Vw} {i l x : Int} (hv : WF v) (hi : isr v i) (hl : 0 ≤ l ∧ l < 3) (h : Far v i l 100 x) : x = la v i l ∧ (x < 0 ↔ ln v i l = 0) := by
  have hln := ln_in hv hi hl
  have hc := hv.cell hi.1 hi.2
  rcases h with ⟨h1, h2⟩ | ⟨h1, h2, h3⟩
  · have h0 : ln v i l = 0 := Classical.byContradiction fun z => by
      obtain ⟨b1, b2⟩ := shd_one1 hv hi hl (by omega)
      exact h2 _ b1.1 b1.2 b2
    unfold la
    rw [if_pos h0]
    exact ⟨h1, fun _ => h0, fun _ => by omega⟩
  · have g1 := h2.1
    have g2 := h2.2
    have hal := al_in (k := ln v i l) hc (aw_in (v := v) (l := l)) ⟨by omega, by omega⟩
    have hs : shd v i l (al (v 6 i) (aw v l) (ln v i l)) := (shd_iff hv hi hl hal).mpr ⟨ln v i l, by omega, Int.le_refl _, rfl⟩
    have h4 := h3 _ hal.1 hal.2 hs
    rw [di_al hc aw_in ⟨by omega, by omega⟩] at h4
    have h5 := (al_di hc h1 aw_in g1).2
    have h6 : di (v 6 i) x (aw v l) = ln v i l := by omega
    rw [h6] at h5
    unfold la
    rw [if_neg (by omega)]
    exact ⟨h5.symm, fun z => by omega, fun z => by omega⟩
theorem t_isShadow {c : sh_Cx} (hx : cx c) {G L N : Nat} (hG : dy c G 42) (hL : dy c L 12) (hN : dy c N 9) {i l : Int} {m0 : Nat} {I0 I : sh_Mem} {Q : Int → sh_Mem → Prop} {v : Vw} (g : Gd m0 I0 G L N v I) (hi : isr v i) (hl : 0 ≤ l ∧ l < 3) (h : ∀ K, Gd m0 I0 G L N v K → Q 1 K) : cl c mL_isShadow [.inr 1, .inr G, .inr L, .inr N, .inl i, .inl l] I (li c Q) := by
  have fr : 119 ≤ G ∧ 119 ≤ L ∧ 119 ≤ N := ⟨hG.ge, hL.ge, hN.ge⟩
  have hv := g.wf
  have hi6 := isr_bd hv hi
  have hci := hv.cell hi.1 hi.2
  have hw := hv.lampw hl
  have hln := ln_in hv hi hl
  have e := g.2.2
  have ea : (I L (4 * l) + 2) % 4 = aw v l := by rw [e.l0 hl]; rfl
  refine eL_isShadow hx hG hL hN ?_
  have key : ∀ (n p : Nat) (x : Int), p + n = 100 → Far v i l (p : Int) x → kl c (0, 0) mL_isShadow 10 [some (.inr 1), some (.inr G), some (.inr L), some (.inr N), some (.inl i), some (.inl l), some (.inl (cntN (fun q => shd v i l q) p)), some (.inl x), some (.inl (p : Int)), none] [] I (qli c Q) := by
    intro n
    induction n with
    | zero =>
      intro p x g0 hf
      have ep : p = 100 := by omega
      subst ep
      obtain ⟨f1, f2⟩ := far_la hv hi hl hf
      have hxb : -5 ≤ x ∧ x < 100 := by
        rcases hf with ⟨z, -⟩ | ⟨z, -⟩ <;> omega
      rw [cnt_ln hv hi hl]
      refine lL_isShadow_10 hx hG hL hN ⟨bdi (by omega), fun _ => ?_, fun q => absurd q (by omega)⟩
      refine g.ask fr (a_shadow (r := ln v i l) g.ev hv hi hl (by decide) (fun _ => rfl) (fun q => absurd q (by decide)) (fun q => absurd q (by decide)) (fun q => absurd q (by decide))) (fun J1 g1 => okk rfl ?_)
      refine g1.ask fr (a_shadow (r := la v i l) g1.ev hv hi hl (by decide) (fun q => absurd q (by decide)) (fun _ => rfl) (fun q => absurd q (by decide)) (fun q => absurd q (by decide))) (fun J2 g2 => okk f1.symm ?_)
      refine g2.ask fr (a_shadow (r := if ln v i l = 0 then -5 else st v (la v i l)) g2.ev hv hi hl (by decide) (fun q => absurd q (by decide)) (fun q => absurd q (by decide)) (fun _ => rfl) (fun q => absurd q (by decide))) (fun J3 g3 => ⟨bdi (by omega), fun q => ?_, fun q => ?_⟩)
      · refine t_who hx hG hN g3.2.2 hv (bdi (by omega)) (okk (by rw [if_neg (fun z => absurd (f2.mpr z) (by omega)), f1]) ?_)
        refine g3.ask fr (a_shadow (r := -2) g3.ev hv hi hl (by decide) (fun q => absurd q (by decide)) (fun q => absurd q (by decide)) (fun q => absurd q (by decide)) (fun _ => rfl)) (fun J4 g4 => okk rfl ?_)
        exact g4.ask fr (a_shU g4.ev hv hi (bd_lit (by decide)) (by decide)) (fun J5 g5 => okk rfl (h _ g5))
      · refine okk (by rw [if_pos (f2.mp q)]) ?_
        refine g3.ask fr (a_shadow (r := -2) g3.ev hv hi hl (by decide) (fun q => absurd q (by decide)) (fun q => absurd q (by decide)) (fun q => absurd q (by decide)) (fun _ => rfl)) (fun J4 g4 => okk rfl ?_)
        exact g4.ask fr (a_shU g4.ev hv hi (bd_lit (by decide)) (by decide)) (fun J5 g5 => okk rfl (h _ g5))
    | succ n ih =>
      intro p x g0 hf
      have hp : 0 ≤ (p : Int) ∧ (p : Int) < 100 := by omega
      have hxb : -5 ≤ x ∧ x < 100 := by
        rcases hf with ⟨z, -⟩ | ⟨z, -⟩ <;> omega
      have nx : ∀ (y z : Int), Far v i l ((p : Int) + 1) y → cntN (fun q => shd v i l q) p + z = cntN (fun q => shd v i l q) (p + 1) → kl c (0, 0) mL_isShadow 10 [some (.inr 1), some (.inr G), some (.inr L), some (.inr N), some (.inl i), some (.inl l), some (.inl (cntN (fun q => shd v i l q) p + z)), some (.inl y), some (.inl ((p : Int) + 1)), none] [] I (qli c Q) := fun y z hy hz => by
        rw [hz]
        exact ih (p + 1) y (by omega) hy
      refine lL_isShadow_10 hx hG hL hN ⟨bdi (by omega), fun q => absurd q (by omega), fun _ => t_shades hx hG hL hN e hv hi hl hp (fun q => ⟨bd_lit (by decide), fun z => absurd z (by decide), fun _ => ⟨fun z => absurd z (by decide), fun _ => ⟨bdi (by omega), fun q2 => ?_, fun q2 => ?_⟩⟩⟩) (fun q => ⟨bd_lit (by decide), fun _ => ⟨fun _ => ?_, fun z => absurd rfl z⟩, fun z => absurd rfl z⟩)⟩
      · have hz : cntN (fun q => shd v i l q) p + 1 = cntN (fun q => shd v i l q) (p + 1) := (cntN_yes (P := fun q => shd v i l q) q).symm
        refine lL_isShadow_103 hx hG hL hN (nx _ 1 (Or.inr ⟨⟨by omega, by omega⟩, q, fun r r0 r1 hr => ?_⟩) hz)
        by_cases z : r = (p : Int)
        · rw [z]
          exact Int.le_refl _
        · rcases hf with ⟨-, y⟩ | ⟨y, -⟩
          · exact absurd hr (y r r0 (by omega))
          · omega
      · rcases hf with ⟨z, -⟩ | ⟨y1, y2, y3⟩
        · omega
        · have hz : cntN (fun q => shd v i l q) p + 1 = cntN (fun q => shd v i l q) (p + 1) := (cntN_yes (P := fun q => shd v i l q) q).symm
          have s1 : sg (v 6 i) (p : Int) (aw v l) = di (v 6 i) (p : Int) (aw v l) := if_pos q.1
          have s2 : sg (v 6 i) x (aw v l) = di (v 6 i) x (aw v l) := if_pos y2.1
          have d1 := di_bd (d := aw v l) hci hp
          have d2 := di_bd (c := x) (d := aw v l) hci (by omega)
          refine ⟨by omega, by omega, by rw [e.l0 hl]; omega, ?_⟩
          rw [ea, e.g0 hi6]
          refine t_straight hx hci hp aw_in ⟨by rw [e.l0 hl]; omega, ?_⟩
          rw [ea, e.g0 hi6]
          refine t_straight hx hci (by omega) aw_in ?_
          rw [s1, s2]
          refine ⟨bdi (by omega), bdi (by omega), fun q3 => nx _ 1 (Or.inr ⟨⟨y1.1, by omega⟩, y2, fun r r0 r1 hr => ?_⟩) hz, fun q3 => lL_isShadow_103 hx hG hL hN (nx _ 1 (Or.inr ⟨⟨by omega, by omega⟩, q, fun r r0 r1 hr => ?_⟩) hz)⟩
          · by_cases z : r = (p : Int)
            · rw [z]
              exact q3
            · exact y3 r r0 (by omega) hr
          · by_cases z : r = (p : Int)
            · rw [z]
              exact Int.le_refl _
            · have := y3 r r0 (by omega) hr
              omega
      · refine nx _ 0 ?_ (by rw [Int.add_zero, cntN_no (P := fun q => shd v i l q) q])
        rcases hf with ⟨y1, y2⟩ | ⟨y1, y2, y3⟩
        · refine Or.inl ⟨y1, fun r r0 r1 => ?_⟩
          by_cases z : r = (p : Int)
          · rw [z]
            exact q
          · exact y2 r r0 (by omega)
        · refine Or.inr ⟨⟨y1.1, by omega⟩, y2, fun r r0 r1 hr => ?_⟩
          by_cases z : r = (p : Int)
          · rw [z] at hr
            exact absurd hr q
          · exact y3 r r0 (by omega) hr
  exact key 100 0 (-5) rfl (Or.inl ⟨rfl, fun r r0 r1 => by omega⟩)
