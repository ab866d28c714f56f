/-! ===== 29: turns one after the other; a turn in the reference ===== -/
theorem ca_ok {v : Vw} (hv : WF v) : CaIs v (ca v) := by
  have hm := hv.many
  suffices h : ∃ x, CaIs v x from by
    obtain ⟨x, hx⟩ := h
    rw [ca_is hx]
    exact hx
  by_cases hz : v 0 6 = 0
  · exact ⟨-5, Or.inl ⟨hz, rfl⟩⟩
  · have key : ∀ n : Nat, (n : Int) ≤ v 0 6 → ∃ x, (x = -5 ∧ ∀ r, 0 ≤ r → r < (n : Int) → v 9 r = 0 → ∀ l, 0 ≤ l → l < 3 → ¬ shd v r l (v 6 (v 0 1))) ∨ (isr v x ∧ v 9 x = 0 ∧ (∃ l, (0 ≤ l ∧ l < 3) ∧ shd v x l (v 6 (v 0 1))) ∧ ∀ r, 0 ≤ r → r < (n : Int) → v 9 r = 0 → ∀ l, 0 ≤ l → l < 3 → shd v r l (v 6 (v 0 1)) → x ≤ r) := by
      intro n
      induction n with
      | zero => exact fun _ => ⟨-5, Or.inl ⟨rfl, fun r h1 h2 => absurd h2 (by omega)⟩⟩
      | succ n ih =>
        intro hn
        obtain ⟨x, hx⟩ := ih (by omega)
        rcases hx with ⟨h1, h2⟩ | ⟨h1, h2, h3, h4⟩
        · by_cases hc : v 9 (n : Int) = 0 ∧ ∃ l, (0 ≤ l ∧ l < 3) ∧ shd v (n : Int) l (v 6 (v 0 1))
          · refine ⟨(n : Int), Or.inr ⟨⟨by omega, by omega⟩, hc.1, hc.2, fun r r1 r2 r3 l l1 l2 l3 => ?_⟩⟩
            by_cases e : r = (n : Int)
            · omega
            · exact absurd l3 (h2 r r1 (by omega) r3 l l1 l2)
          · refine ⟨x, Or.inl ⟨h1, fun r r1 r2 r3 l l1 l2 l3 => ?_⟩⟩
            by_cases e : r = (n : Int)
            · subst e
              exact hc ⟨r3, l, ⟨l1, l2⟩, l3⟩
            · exact h2 r r1 (by omega) r3 l l1 l2 l3
        · by_cases hc : x ≤ (n : Int)
          · refine ⟨x, Or.inr ⟨h1, h2, h3, fun r r1 r2 r3 l l1 l2 l3 => ?_⟩⟩
            by_cases e : r = (n : Int)
            · omega
            · exact h4 r r1 (by omega) r3 l l1 l2 l3
          · by_cases hc2 : v 9 (n : Int) = 0 ∧ ∃ l, (0 ≤ l ∧ l < 3) ∧ shd v (n : Int) l (v 6 (v 0 1))
            · refine ⟨(n : Int), Or.inr ⟨⟨by omega, by omega⟩, hc2.1, hc2.2, fun r r1 r2 r3 l l1 l2 l3 => ?_⟩⟩
              by_cases e : r = (n : Int)
              · omega
              · have := h4 r r1 (by omega) r3 l l1 l2 l3
                omega
            · refine ⟨x, Or.inr ⟨h1, h2, h3, fun r r1 r2 r3 l l1 l2 l3 => ?_⟩⟩
              by_cases e : r = (n : Int)
              · subst e
                exact absurd ⟨r3, l, ⟨l1, l2⟩, l3⟩ hc2
              · exact h4 r r1 (by omega) r3 l l1 l2 l3
    obtain ⟨x, hx⟩ := key (v 0 6).toNat (by omega)
    refine ⟨x, Or.inr ⟨hz, ?_⟩⟩
    rcases hx with ⟨h1, h2⟩ | ⟨h1, h2, h3, h4⟩
    · exact Or.inl ⟨h1, fun r hr r3 l l1 l2 => h2 r hr.1 (by have := hr.2; omega) r3 l l1 l2⟩
    · exact Or.inr ⟨h1, h2, h3, fun r hr r3 l l1 l2 => h4 r hr.1 (by have := hr.2; omega) r3 l l1 l2⟩
theorem turnT_ok {v : Vw} (hv : WF v) : CaIs (goN v (v 0 6).toNat) (turnT v) := ca_ok (goN_ok hv _ (by have := hv.1; omega)).1
theorem tgI_in {x : Int} : 0 ≤ tgI x ∧ tgI x ≤ 1 := by
  unfold tgI
  split <;> omega
theorem turnF_ok2 {v : Vw} (hv : WF v) (ht : v 0 2 ≤ v 0 0) (h : v 0 0 < 149999) : WF (turnF v) ∧ turnF v 0 6 = v 0 6 ∧ turnF v 0 0 = v 0 0 + 1 ∧ turnF v 0 2 = v 0 2 + tgI (turnT v) ∧ turnF v 0 2 ≤ turnF v 0 0 := turnF_ok hv ht h (turnT_ok hv)
theorem tuN_ok {v : Vw} (hv : WF v) (ht : v 0 2 ≤ v 0 0) : ∀ n : Nat, v 0 0 + (n : Int) < 150000 → WF (tuN v n) ∧ tuN v n 0 6 = v 0 6 ∧ tuN v n 0 0 = v 0 0 + (n : Int) ∧ tuN v n 0 2 ≤ tuN v n 0 0 := by
  intro n
  induction n with
  | zero => exact fun _ => ⟨hv, rfl, by simp [tuN], ht⟩
  | succ n ih =>
    intro hn
    obtain ⟨a, b, c, d⟩ := ih (by omega)
    obtain ⟨a2, b2, c2, d2, e2⟩ := turnF_ok2 a d (by omega)
    refine ⟨a2, b2.trans b, ?_, e2⟩
    rw [show tuN v (n + 1) = turnF (tuN v n) from rfl, c2, c]
    omega
theorem s_takeTurns {b : Nat} {t : Int} {I : sh_Mem} {Q : Int → sh_Mem → Prop} {v : Vw} (hb : sh_isP b) (ev : vP I b = v) (hv : WF v) (ht : v 0 2 ≤ v 0 0) (hz : v 0 0 ≤ 99999) (hx : sh_Bd t) (h1 : ¬ (1 ≤ t ∧ t ≤ 99) → Q (-2) I) (h2 : (1 ≤ t ∧ t ≤ 99) → 99999 < v 0 0 + t → Q (-3) I)
    (h3 : (1 ≤ t ∧ t ≤ 99) → v 0 0 + t ≤ 99999 → ∀ J, Off b I J → vP J b = tuN v t.toNat → Q (tuN v t.toNat 0 2 - v 0 2) J) : cc mX4_takeTurns [.inr b, .inl t] I (qi Q) := by
  have h00 := hv.2.2.2.2.2.2.2.1
  have e0 : I b 3 = v 0 0 := by rw [rP0_0 (I := I), ev]
  have e2 : I (b + 1) 9 = v 0 2 := by rw [rP0_2 (I := I), ev]
  refine eX4_takeTurns hb ⟨hx, fun q => h1 (by omega), fun q => ⟨fun q2 => ?_, fun q2 => h1 (by omega)⟩⟩
  rw [e0, e2]
  refine ⟨bdi (by omega), fun q3 => ?_, fun q3 => h2 ⟨q, q2⟩ (by omega)⟩
  have key : ∀ (n k : Nat) (J : sh_Mem), (k : Int) + (n : Int) = t → Off b I J → vP J b = tuN v k → kk mX4_takeTurns 38 [some (.inr b), some (.inl t), some (.inl (v 0 2)), some (.inl (k : Int))] [] J (qi Q) := by
    intro n
    induction n with
    | zero =>
      intro k J g0 g1 g2
      refine lX4_takeTurns_38 hb ⟨bdi (by omega), bdi (by omega), fun q4 => ?_, fun q4 => absurd q4 (by omega)⟩
      have ek : t.toNat = k := by omega
      have h9 := h3 ⟨q, q2⟩ q3 J g1 (by rw [ek]; exact g2)
      rw [ek] at h9
      rwa [rP0_2 (I := J), g2]
    | succ n ih =>
      intro k J g0 g1 g2
      obtain ⟨a, b1, c, d⟩ := tuN_ok hv ht k (by omega)
      refine lX4_takeTurns_38 hb ⟨bdi (by omega), bdi (by omega), fun q4 => absurd q4 (by omega), fun q4 => s_takeTurn hb g2 a d (by omega) (fun K k1 k2 _ => ?_)⟩
      exact ih (k + 1) K (by omega) (g1.tr k1) k2
  exact key t.toNat 0 I (by omega) Off.rf ev
/-! the reference -/
theorem r_go {r : Int} {I : sh_Mem} {Q : sh_Mem → Prop} {v : Vw} (ev : vM (I 120) = v) (hv : WF v) (hr : isr v r) (h : ∀ J, MT I J → vM (J 120) = goF v r → Q J) : cc mX7_go [.inr 119, .inl r] I (qv Q) := by
  have hm := hv.many
  have hr0 := hr
  unfold isr at hr0
  have hru := hv.run hr.1 hr.2
  refine eX7_go (r_of 8 ev (by omega) (by decide) rfl ⟨bdi (by omega), fun q => ?_, fun q => h I MT.rf ?_⟩)
  · have hd : 0 ≤ v 8 r ∧ v 8 r < 4 := by omega
    have hnb : -5 ≤ nx (v 6 r) (v 8 r) ∧ nx (v 6 r) (v 8 r) < 100 := by
      by_cases z : nx (v 6 r) (v 8 r) = -5
      · omega
      · have := nx_in hru.1 hd z
        omega
    have e4 : I 120 4 = v 0 4 := by rw [← ev]; rfl
    have halt : nx (v 6 r) (v 8 r) = -5 ∨ ¬ st v (nx (v 6 r) (v 8 r)) = -5 → Q (sh_u I 120 4 (I 120 4 + 1)) := by
      intro z
      refine h _ MT.rf.u120 ?_
      rw [wM0_4, ev, e4]
      unfold goF
      rw [if_neg q, if_pos z]
    have hsb := st_bd hv (nx (v 6 r) (v 8 r))
    refine r_of 6 ev (by omega) (by decide) rfl (r_of 8 ev (by omega) (by decide) rfl (r_next hru.1 hd ⟨bdi (by omega), fun q2 => halt (Or.inl q2), fun q2 => r_runnerAt ev hv (bdi (by omega)) ⟨bdi (by omega), fun q3 => r_put 6 ev (by omega) (by decide) rfl (fun J j1 j2 => h _ ((MT.rf.o120 j2).u120) ?_), fun q3 => halt (Or.inr q3)⟩⟩))
    rw [wM0_3, rM0_3 (R := J 120), j1]
    unfold goF
    rw [if_neg q, if_neg]
    · rfl
    · rintro (z | z)
      · exact q2 z
      · exact z q3
  · unfold goF
    rw [if_pos q, ev]
theorem r_tag {r : Int} {I : sh_Mem} {Q : sh_Mem → Prop} {v : Vw} (ev : vM (I 120) = v) (hv : WF v) (hr : isr v r) (hc : isr v (v 0 1)) (h : ∀ J, MT I J → vM (J 120) = tagF v r → Q J) : cc mX7_tag [.inr 119, .inl r] I (qv Q) := by
  have hm := hv.many
  have hr0 := hr
  unfold isr at hr0
  have hc0 := hc
  unfold isr at hc0
  have e1 : I 120 1 = v 0 1 := by rw [← ev]; rfl
  refine eX7_tag ?_
  rw [e1]
  refine r_of 10 ev (by omega) (by decide) rfl (r_put 10 ev (by omega) (by decide) rfl (fun J j1 j2 => r_of 11 j1 (by omega) (by decide) rfl (r_put 11 j1 (by omega) (by decide) rfl (fun K k1 k2 => ?_))))
  have e6 : K 120 6 = v 1 0 := by
    have : K 120 6 = vM (K 120) 1 0 := rfl
    rw [this, k1]
    rfl
  rw [e6]
  refine r_put 9 k1 (by omega) (by decide) rfl (fun L l1 l2 => h _ ((((MT.rf.o120 j2).o120 k2).o120 l2).u120.u120) ?_)
  rw [wM0_2, wM0_1, l1, rM0_2 (R := L 120), l1]
  rfl
theorem r_turnPlatform {I : sh_Mem} {Q : sh_Mem → Prop} {v : Vw} (ev : vM (I 120) = v) (hv : WF v) (h : ∀ J, MT I J → vM (J 120) = spinF v → Q J) : cc mX7_turnPlatform [.inr 119] I (qv Q) := by
  have hm := hv.many
  refine eX7_turnPlatform ?_
  have key : ∀ (n : Nat) (k : Int) (J : sh_Mem), 0 ≤ k → k + (n : Int) = v 0 6 → MT I J → vM (J 120) = spinK v k → kk mX7_turnPlatform 2 [some (.inr 119), some (.inl k), none] [] J (qv Q) := by
    intro n
    induction n with
    | zero =>
      intro k J k0 g0 g1 g2
      have e6 : J 120 20 = v 0 6 := by rw [rM0_6 (R := J 120), g2]; rfl
      have ek : k = v 0 6 := by omega
      refine lX7_turnPlatform_2 ⟨bdi (by omega), bdi (by omega), fun q => h _ g1.u120 ?_, fun q => absurd q (by omega)⟩
      rw [wM0_5, rM0_5 (R := J 120), g2, ek]
      rfl
    | succ n ih =>
      intro k J k0 g0 g1 g2
      have e6 : J 120 20 = v 0 6 := by rw [rM0_6 (R := J 120), g2]; rfl
      have hru := hv.run (r := k) k0 (by omega)
      have ec : spinK v k 6 k = v 6 k := by
        simp only [spinK]
        rw [if_neg (by omega), if_neg (by omega)]
      have ed : spinK v k 8 k = v 8 k := by
        simp only [spinK]
        rw [if_neg (by omega), if_neg (by omega)]
      refine lX7_turnPlatform_2 ⟨bdi (by omega), bdi (by omega), fun q => absurd q (by omega), fun q => r_of 6 g2 (by omega) (by decide) rfl ⟨by omega, r_put 6 g2 (by omega) (by decide) rfl (fun K k1 k2 => r_of 8 k1 (by omega) (by decide) rfl ?_)⟩⟩
      have ed2 : up (spinK v k) 6 k (spinK v k 6 k % 10 * 10 + 9 - spinK v k 6 k / 10) 8 k = v 8 k := ed
      rw [ed2]
      refine ⟨bdi (by omega), fun q2 => ih (k + 1) K (by omega) (by omega) (g1.o120 k2) ?_, fun q2 => r_of 8 k1 (by omega) (by decide) rfl ?_⟩
      · rw [k1, ec, spinK_succ k0, if_pos q2]
        have : v 8 k = up (spinK v k) 6 k (v 6 k % 10 * 10 + 9 - v 6 k / 10) 8 k := ed.symm
        conv => rhs; arg 4; rw [this]
        rw [up_self]
      · rw [ed2]
        refine ⟨by omega, r_put 8 k1 (by omega) (by decide) rfl (fun L l1 l2 => ih (k + 1) L (by omega) (by omega) ((g1.o120 k2).o120 l2) ?_)⟩
        rw [l1, ec, spinK_succ k0, if_neg q2]
  exact key (v 0 6).toNat 0 I (by omega) (by omega) MT.rf (by rw [spinK_0]; exact ev)
