/-! ===== 29: turns one after the other; a turn in the reference ===== -/
theorem ca_ok {v : Vw} (hv : WF v) : CaIs v (ca v) := by
  have hm := hv.many
  suffices h : ∃ x, CaIs v x from by
    obtain ⟨x, hx⟩ := h
    rw [ca_is hx]
    exact hx
  by_cases hz : v 0 6 = 0
  · exact ⟨-5, Or.inl ⟨hz, rfl⟩⟩
  · have key : ∀ n : Nat, (n : Int) ≤ v 0 6 → ∃ x, (x = -5 ∧ ∀ r, 0 ≤ r → r < (n : Int) → v 9 r = 0 → ∀ l, 0 ≤ l → l < 3 → ¬ shd v r l (v 6 (v 0 1))) ∨ (isr v x ∧ v 9 x = 0 ∧ (∃ l, (0 ≤ l ∧ l < 3) ∧ shd v x l (v 6 (v 0 1))) ∧ ∀ r, 0 ≤ r → r < (n : Int) → v 9 r = 0 → ∀ l, 0 ≤ l → l < 3 → shd v r l (v 6 (v 0 1)) → x ≤ r) := by
      intro n
      induction n with
      | zero => exact fun _ => ⟨-5, Or.inl ⟨rfl, fun r h1 h2 => absurd h2 (by omega)⟩⟩
      | succ n ih =>
        intro hn
        obtain ⟨x, hx⟩ := ih (by omega)
        rcases hx with ⟨h1, h2⟩ | ⟨h1, h2, h3, h4⟩
        · by_cases hc : v 9 (n : Int) = 0 ∧ ∃ l, (0 ≤ l ∧ l < 3) ∧ shd v (n : Int) l (v 6 (v 0 1))
          · refine ⟨(n : Int), Or.inr ⟨⟨by omega, by omega⟩, hc.1, hc.2, fun r r1 r2 r3 l l1 l2 l3 => ?_⟩⟩
            by_cases e : r = (n : Int)
            · omega
            · exact absurd l3 (h2 r r1 (by omega) r3 l l1 l2)
          · refine ⟨x, Or.inl ⟨h1, fun r r1 r2 r3 l l1 l2 l3 => ?_⟩⟩
            by_cases e : r = (n : Int)
            · subst e
              exact hc ⟨r3, l, ⟨l1, l2⟩, l3⟩
            · exact h2 r r1 (by omega) r3 l l1 l2 l3
        · by_cases hc : x ≤ (n : Int)
          · refine ⟨x, Or.inr ⟨h1, h2, h3, fun r r1 r2 r3 l l1 l2 l3 => ?_⟩⟩
            by_cases e : r = (n : Int)
            · omega
            · exact h4 r r1 (by omega) r3 l l1 l2 l3
          · by_cases hc2 : v 9 (n : Int) = 0 ∧ ∃ l, (0 ≤ l ∧ l < 3) ∧ shd v (n : Int) l (v 6 (v 0 1))
            · refine ⟨(n : Int), Or.inr ⟨⟨by omega, by omega⟩, hc2.1, hc2.2, fun r r1 r2 r3 l l1 l2 l3 => ?_⟩⟩
              by_cases e : r = (n : Int)
              · omega
              · have := h4 r r1 (by omega) r3 l l1 l2 l3
                omega
            · refine ⟨x, Or.inr ⟨h1, h2, h3, fun r r1 r2 r3 l l1 l2 l3 => ?_⟩⟩
              by_cases e : r = (n : Int)
              · subst e
                exact absurd ⟨r3, l, ⟨l1, l2⟩, l3⟩ hc2
              · exact h4 r r1 (by omega) r3 l l1 l2 l3
    obtain ⟨x, hx⟩ := key (v 0 6).toNat (by omega)
    refine ⟨x, Or.inr ⟨hz, ?_⟩⟩
    rcases hx with ⟨h1, h2⟩ | ⟨h1, h2, h3, h4⟩
    · exact Or.inl ⟨h1, fun r hr r3 l l1 l2 => h2 r hr.1 (by have := hr.2; omega) r3 l l1 l2⟩
    · exact Or.inr ⟨h1, h2, h3, fun r hr r3 l l1 l2 => h4 r hr.1 (by have := hr.2; omega) r3 l l1 l2⟩
theorem turnT_ok {v : Vw} (hv : WF v) : CaIs (goN v (v 0 6).toNat) (turnT v) := ca_ok (goN_ok hv _ (by have := hv.1; omega)).1
theorem tgI_in {x : Int} : 0 ≤ tgI x ∧ tgI x ≤ 1 := by
  unfold tgI
  split <;> omega
theorem turnF_ok2 {v : Vw} (hv : WF v) (ht : v 0 2 ≤ v 0 0) (h : v 0 0 < 149999) : WF (turnF v) ∧ turnF v 0 6 = v 0 6 ∧ turnF v 0 0 = v 0 0 + 1 ∧ turnF v 0 2 = v 0 2 + tgI (turnT v) ∧ turnF v 0 2 ≤ turnF v 0 0 := turnF_ok hv ht h (turnT_ok hv)
theorem tuN_ok {v : Vw} (hv : WF v) (ht : v 0 2 ≤ v 0 0) : ∀ n : Nat, v 0 0 + (n : Int) < 150000 → WF (tuN v n) ∧ tuN v n 0 6 = v 0 6 ∧ tuN v n 0 0 = v 0 0 + (n : Int) ∧ tuN v n 0 2 ≤ tuN v n 0 0 := by
  intro n
  induction n with
  | zero => exact fun _ => ⟨hv, rfl, by simp [tuN], ht⟩
  | succ n ih =>
    intro hn
    obtain ⟨a, b, c, d⟩ := ih (by omega)
    obtain ⟨a2, b2, c2, d2, e2⟩ := turnF_ok2 a d (by omega)
    refine ⟨a2, b2.trans b, ?_, e2⟩
    rw [show tuN v (n + 1) = turnF (tuN v n) from rfl, c2, c]
    omega
theorem s_takeTurns {b : Nat} {t : Int} {I : sh_Mem} {Q : Int → sh_Mem → Prop} {v : Vw} (hb : sh_isP b) (ev : vP I b = v) (hv : WF v) (ht : v 0 2 ≤ v 0 0) (hz : v 0 0 ≤ 99999) (hx : sh_Bd t) (h1 : ¬ (1 ≤ t ∧ t ≤ 99) → Q (-2) I) (h2 : (1 ≤ t ∧ t ≤ 99) → 99999 < v 0 0 + t → Q (-3) I)
    (h3 : (1 ≤ t ∧ t ≤ 99) → v 0 0 + t ≤ 99999 → ∀ J, Off b I J → vP J b = tuN v t.toNat → Q (tuN v t.toNat 0 2 - v 0 2) J) : cc mX4_takeTurns [.inr b, .inl t] I (qi Q) := by
  have h00 := hv.2.2.2.2.2.2.2.1
  have e0 : I b 3 = v 0 0 := by rw [rP0_0 (I := I), ev]
  have e2 : I (b + 1) 9 = v 0 2 := by rw [rP0_2 (I := I), ev]
  refine eX4_takeTurns hb ⟨hx, fun q => h1 (by omega), fun q => ⟨fun q2 => ?_, fun q2 => h1 (by omega)⟩⟩
  rw [e0, e2]
  refine ⟨bdi (by omega), fun q3 => ?_, fun q3 => h2 ⟨q, q2⟩ (by omega)⟩
  have key : ∀ (n k : Nat) (J : sh_Mem), (k : Int) + (n : Int) = t → Off b I J → vP J b = tuN v k → kk mX4_takeTurns 38 [some (.inr b), some (.inl t), some (.inl (v 0 2)), some (.inl (k : Int))] [] J (qi Q) := by
    intro n
    induction n with
    | zero =>
      intro k J g0 g1 g2
      refine lX4_takeTurns_38 hb ⟨bdi (by omega), bdi (by omega), fun q4 => ?_, fun q4 => absurd q4 (by omega)⟩
      have ek : t.toNat = k := by omega
      have h9 := h3 ⟨q, q2⟩ q3 J g1 (by rw [ek]; exact g2)
      rw [ek] at h9
      rwa [rP0_2 (I := J), g2]
    | succ n ih =>
      intro k J g0 g1 g2
      obtain ⟨a, b1, c, d⟩ := tuN_ok hv ht k (by omega)
      refine lX4_takeTurns_38 hb ⟨bdi (by omega), bdi (by omega), fun q4 => absurd q4 (by omega), fun q4 => s_takeTurn hb g2 a d (by omega) (fun K k1 k2 _ => ?_)⟩
      exact ih (k + 1) K (by omega) (g1.tr k1) k2
  exact key t.toNat 0 I (by omega) Off.rf ev
