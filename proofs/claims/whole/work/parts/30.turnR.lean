/-! ===== 30: the reference's turn, whole ===== -/
theorem raK_succ {v : Vw} {k : Int} (hk : 0 ≤ k) : acctK (restK v (k + 1)) (k + 1) = up (up (acctK (restK v k) k) 9 k (if 0 < v 9 k then v 9 k - 1 else 0)) 12 k (v 12 k + (if k = v 0 1 then 0 else 1)) := by
  rw [acctK_succ hk, restK_succ hk]
  funext j i
  simp only [up, acctK, restK]
  by_cases h : j = 12 ∧ i = k
  · rw [if_pos h, if_pos h]
    rfl
  · rw [if_neg h, if_neg h]
    by_cases h2 : j = 9 ∧ i = k
    · rw [if_neg (show ¬ (j = 12 ∧ 0 ≤ i ∧ i < k) by omega), if_pos h2, if_pos h2]
    · rw [if_neg h2]
      by_cases h3 : j = 12 ∧ 0 ≤ i ∧ i < k
      · rw [if_pos h3, if_pos h3, if_neg h2]
        rfl
      · rw [if_neg h3, if_neg h3, if_neg h2]
theorem r_turn {I : sh_Mem} {Q : sh_Mem → Prop} {v : Vw} (ev : vM (I 120) = v) (hv : WF v) (ht : v 0 2 ≤ v 0 0) (hz : v 0 0 < 149999) (h : ∀ J, MT I J → vM (J 120) = turnF v → Q J) : cc mX7_turn [.inr 119] I (qv Q) := by
  have hm := hv.many
  obtain ⟨a1, a2, a3, a4⟩ := goN_ok hv (v 0 6).toNat (by omega)
  have hc := turnT_ok hv
  obtain ⟨b1, b2, b3, b4⟩ := turnA_ok a1 (by omega) hc
  obtain ⟨c1, c2, c3, c4⟩ := turnB_ok b1 (by omega)
  have hF : turnF v = turnC (turnB (turnA (goN v (v 0 6).toNat))) := rfl
  have hcb : -5 ≤ turnT v ∧ turnT v < 6 := by
    rcases hc.bd a1 with z | z
    · omega
    · have z1 := z.1
      unfold isr at z1
      omega
  -- the lamps, and the platform
  have key3 : ∀ (n : Nat) (k : Int) (J : sh_Mem), 0 ≤ k → k + (n : Int) = 3 → MT I J → vM (J 120) = swingK (up (restF (turnA (goN v (v 0 6).toNat))) 0 0 (turnA (goN v (v 0 6).toNat) 0 0 + 1)) k → kk mX7_turn 128 [some (.inr 119), none, some (.inl k)] [] J (qv Q) := by
    generalize turnA (goN v (v 0 6).toNat) = w at *
    have hwf1 : WF (up (restF w) 0 0 (w 0 0 + 1)) := turn1_ok (restF_ok b1).1 (by show w 0 0 < 149999; omega)
    have ew0 : up (restF w) 0 0 (w 0 0 + 1) 0 0 = w 0 0 + 1 := by rw [up_same]
    have h00 := hwf1.2.2.2.2.2.2.2.1
    generalize hw2 : up (restF w) 0 0 (w 0 0 + 1) = u at *
    have hB : turnB w = swingK u 3 := by rw [← hw2]; rfl
    intro n
    induction n with
    | zero =>
      intro k J k0 g0 g1 g2
      have ek : k = 3 := by omega
      subst ek
      rw [← hB] at g2
      have e7 : J 120 7 = turnB w 1 1 := by
        have : J 120 7 = vM (J 120) 1 1 := rfl
        rw [this, g2]
      have e0 : J 120 0 = turnB w 0 0 := by rw [rM0_0 (R := J 120), g2]
      have h11 := c1.2.2.2.2.2.2.1
      have h00' := c1.2.2.2.2.2.2.2.1
      have hmod : ¬ turnB w 1 1 = 0 → 0 ≤ turnB w 0 0 % turnB w 1 1 ∧ turnB w 0 0 % turnB w 1 1 < 10 := fun q => ⟨Int.emod_nonneg _ q, by have := Int.emod_lt_of_pos (turnB w 0 0) (show 0 < turnB w 1 1 by omega); omega⟩
      refine lX7_turn_128 ⟨bdi (by omega), fun _ => ?_, fun q => absurd q (by omega)⟩
      rw [e7, e0]
      refine ⟨bdi (by omega), fun q => h J g1 ?_, fun q => ?_⟩
      · rw [hF, g2, turnC, if_neg (fun z => z.1 (by omega))]
      · have hm2 := hmod (by omega)
        refine ⟨by omega, by omega, bdi (by omega), fun q2 => h J g1 ?_, fun q2 => r_turnPlatform g2 c1 (fun K k1 k2 => h K (g1.tr k1) ?_)⟩
        · rw [hF, g2, turnC, if_neg (fun z => q2 z.2)]
        · rw [hF, k2, turnC, if_pos ⟨by omega, q2⟩]
    | succ n ih =>
      intro k J k0 g0 g1 g2
      have hw := hwf1.lampw (l := k) (by omega)
      have e4 : swingK u k 4 k = u 4 k := rfl
      have e2 : swingK u k 2 k = u 2 k := by
        simp only [swingK]
        rw [if_neg]
        rintro ⟨-, z, -⟩
        omega
      have e0 : J 120 0 = u 0 0 := by rw [rM0_0 (R := J 120), g2]; rfl
      have hmod : ¬ u 4 k = 0 → 0 ≤ u 0 0 % u 4 k ∧ u 0 0 % u 4 k < 10 := fun q => ⟨Int.emod_nonneg _ q, by have := Int.emod_lt_of_pos (u 0 0) (show 0 < u 4 k by omega); omega⟩
      refine lX7_turn_128 ⟨bdi (by omega), fun q => absurd q (by omega), fun q => r_ofLamp 4 g2 (by omega) (by decide) rfl ⟨bdi (by omega), fun q2 => ih (k + 1) J (by omega) (by omega) g1 ?_, fun q2 => r_ofLamp 4 g2 (by omega) (by decide) rfl ?_⟩⟩
      · rw [swingK_no (fun z => z.1 (by omega)), g2]
      · rw [e4] at q2 ⊢
        rw [e0]
        have hm2 := hmod (by omega)
        refine ⟨by omega, by omega, bdi (by omega), fun q3 => ih (k + 1) J (by omega) (by omega) g1 ?_, fun q3 => r_ofLamp 2 g2 (by omega) (by decide) rfl ⟨by omega, r_putLamp 2 g2 (by omega) (by decide) rfl (fun K k1 k2 => ih (k + 1) K (by omega) (by omega) (g1.o120 k2) ?_)⟩⟩
        · rw [swingK_no (fun z => q3 z.2), g2]
        · rw [k1, swingK_yes k0 ⟨by omega, q3⟩, e2]
  -- respites and accounts
  have key2 : ∀ (n : Nat) (k : Int) (J : sh_Mem), 0 ≤ k → k + (n : Int) = v 0 6 → MT I J → vM (J 120) = acctK (restK (turnA (goN v (v 0 6).toNat)) k) k → kk mX7_turn 42 [some (.inr 119), none, some (.inl k)] [] J (qv Q) := by
    generalize turnA (goN v (v 0 6).toNat) = w at *
    have hcw := b1.2.1
    intro n
    induction n with
    | zero =>
      intro k J k0 g0 g1 g2
      have e6 : J 120 20 = v 0 6 := by rw [rM0_6 (R := J 120), g2]; exact b2.trans a2
      have e0 : J 120 0 = w 0 0 := by rw [rM0_0 (R := J 120), g2]; rfl
      have ek : k = w 0 6 := by omega
      refine lX7_turn_42 ⟨bdi (by omega), bdi (by omega), fun q => key3 3 0 _ (by omega) (by omega) g1.u120 ?_, fun q => absurd q (by omega)⟩
      rw [wM0_0, swingK_0, e0, g2, ek]
      rfl
    | succ n ih =>
      intro k J k0 g0 g1 g2
      have e6 : J 120 20 = v 0 6 := by rw [rM0_6 (R := J 120), g2]; exact b2.trans a2
      have hru := b1.run (r := k) k0 (by omega)
      have e9 : acctK (restK w k) k 9 k = w 9 k := by
        show restK w k 9 k = w 9 k
        simp only [restK]
        rw [if_neg (by omega)]
      have e12 : ∀ x, up (acctK (restK w k) k) 9 k x 12 k = w 12 k := fun x => by
        show acctK (restK w k) k 12 k = w 12 k
        simp only [acctK]
        rw [if_neg (by omega)]
        rfl
      refine lX7_turn_42 ⟨bdi (by omega), bdi (by omega), fun q => absurd q (by omega), fun q => r_of 9 g2 (by omega) (by decide) rfl ?_⟩
      rw [e9]
      refine ⟨bdi (by omega), fun q2 => r_put 9 g2 (by omega) (by decide) rfl (fun K k1 k2 => r_of 12 k1 (by omega) (by decide) rfl ?_), fun q2 => r_of 9 g2 (by omega) (by decide) rfl (r_put 9 g2 (by omega) (by decide) rfl (fun K k1 k2 => r_of 12 k1 (by omega) (by decide) rfl ?_))⟩
      · have e1 : K 120 1 = w 0 1 := by rw [rM0_1 (R := K 120), k1]; rfl
        rw [e12, e1]
        refine ⟨bdi (by omega), fun q3 => r_put 12 k1 (by omega) (by decide) rfl (fun L l1 l2 => ih (k + 1) L (by omega) (by omega) ((g1.o120 k2).o120 l2) ?_), fun q3 => r_put 12 k1 (by omega) (by decide) rfl (fun L l1 l2 => ih (k + 1) L (by omega) (by omega) ((g1.o120 k2).o120 l2) ?_)⟩
        · rw [l1, raK_succ k0, if_neg (show ¬ 0 < w 9 k by omega), if_neg q3]
        · rw [l1, raK_succ k0, if_neg (show ¬ 0 < w 9 k by omega), if_pos q3]
      · have e1 : K 120 1 = w 0 1 := by rw [rM0_1 (R := K 120), k1]; rfl
        rw [e12, e1]
        refine ⟨bdi (by omega), fun q3 => r_put 12 k1 (by omega) (by decide) rfl (fun L l1 l2 => ih (k + 1) L (by omega) (by omega) ((g1.o120 k2).o120 l2) ?_), fun q3 => r_put 12 k1 (by omega) (by decide) rfl (fun L l1 l2 => ih (k + 1) L (by omega) (by omega) ((g1.o120 k2).o120 l2) ?_)⟩
        · rw [l1, raK_succ k0, if_pos q2, if_neg q3, e9]
        · rw [l1, raK_succ k0, if_pos q2, if_pos q3, e9]
  -- the runners go
  have key1 : ∀ (n k : Nat) (J : sh_Mem), (k : Int) + (n : Int) = v 0 6 → MT I J → vM (J 120) = goN v k → kk mX7_turn 2 [some (.inr 119), some (.inl (k : Int)), none] [] J (qv Q) := by
    intro n
    induction n with
    | zero =>
      intro k J g0 g1 g2
      have gk := goN_ok hv k (by omega)
      have e6 : J 120 20 = v 0 6 := by rw [rM0_6 (R := J 120), g2, gk.2.1]
      have ek : (v 0 6).toNat = k := by omega
      rw [← ek] at g2
      refine lX7_turn_2 ⟨bdi (by omega), bdi (by omega), fun q => r_tagNow g2 a1 (fun _ K hK => ?_), fun q => absurd q (by omega)⟩
      show sh_Bd (turnT v) ∧ (turnT v = -5 → _) ∧ (¬ turnT v = -5 → cc mX7_tag [.inr 119, .inl (turnT v)] K _)
      have kv := hK.v g2
      refine ⟨bdi (by omega), fun q2 => key2 (v 0 6).toNat 0 K (by omega) (by omega) (g1.tr hK.1) ?_, fun q2 => ?_⟩
      · rw [acctK_0, restK_0, kv, turnA, if_pos (show ca (goN v (v 0 6).toNat) = -5 from q2)]
      · rcases hc.bd a1 with z | z
        · exact absurd z q2
        · have hca := a1.2.1
          have hcc : isr (goN v (v 0 6).toNat) (goN v (v 0 6).toNat 0 1) := by
            have z1 := z.1
            unfold isr at z1 ⊢
            omega
          refine r_tag kv a1 z.1 hcc (fun L l1 l2 => key2 (v 0 6).toNat 0 L (by omega) (by omega) ((g1.tr hK.1).tr l1) ?_)
          rw [acctK_0, restK_0, l2, turnA, if_neg (show ¬ ca (goN v (v 0 6).toNat) = -5 from q2)]
          rfl
    | succ n ih =>
      intro k J g0 g1 g2
      have gk := goN_ok hv k (by omega)
      have e6 : J 120 20 = v 0 6 := by rw [rM0_6 (R := J 120), g2, gk.2.1]
      refine lX7_turn_2 ⟨bdi (by omega), bdi (by omega), fun q => absurd q (by omega), fun q => r_go g2 gk.1 ⟨by omega, by omega⟩ (fun K hK eK => ?_)⟩
      exact ih (k + 1) K (by omega) (g1.tr hK) eK
  exact eX7_turn (key1 (v 0 6).toNat 0 I (by omega) MT.rf ev)
theorem r_passNow {t : Int} {I : sh_Mem} {Q : Int → sh_Mem → Prop} {v : Vw} (ev : vM (I 120) = v) (hv : WF v) (ht : v 0 2 ≤ v 0 0) (hz : v 0 0 ≤ 99999) (hx : sh_Bd t) (h1 : ¬ (1 ≤ t ∧ t ≤ 99) → Q (-2) I) (h2 : (1 ≤ t ∧ t ≤ 99) → 99999 < v 0 0 + t → Q (-3) I)
    (h3 : (1 ≤ t ∧ t ≤ 99) → v 0 0 + t ≤ 99999 → ∀ J, MT I J → vM (J 120) = tuN v t.toNat → Q (tuN v t.toNat 0 2 - v 0 2) J) : cc mX7_passNow [.inr 119, .inl t] I (qi Q) := by
  have h00 := hv.2.2.2.2.2.2.2.1
  have e0 : I 120 0 = v 0 0 := by rw [rM0_0 (R := I 120), ev]
  have e2 : I 120 2 = v 0 2 := by rw [rM0_2 (R := I 120), ev]
  refine eX7_passNow (s_in hx (bd_lit (by decide)) (bd_lit (by decide)) (fun q => Or.inl ⟨rfl, ?_⟩) (fun q => Or.inr ⟨rfl, h1 q⟩))
  rw [e0, e2]
  refine ⟨bdi (by omega), fun q3 => ?_, fun q3 => h2 q q3⟩
  have key : ∀ (n k : Nat) (J : sh_Mem), (k : Int) + (n : Int) = t → MT I J → vM (J 120) = tuN v k → kk mX7_passNow 38 [some (.inr 119), some (.inl t), some (.inl (v 0 2)), some (.inl (k : Int))] [] J (qi Q) := by
    intro n
    induction n with
    | zero =>
      intro k J g0 g1 g2
      refine lX7_passNow_38 ⟨bdi (by omega), bdi (by omega), fun q4 => ?_, fun q4 => absurd q4 (by omega)⟩
      have ek : t.toNat = k := by omega
      have h9 := h3 q q3 J g1 (by rw [ek]; exact g2)
      rw [ek] at h9
      rwa [rM0_2 (R := J 120), g2]
    | succ n ih =>
      intro k J g0 g1 g2
      obtain ⟨a, b1, c, d⟩ := tuN_ok hv ht k (by omega)
      refine lX7_passNow_38 ⟨bdi (by omega), bdi (by omega), fun q4 => absurd q4 (by omega), fun q4 => r_turn g2 a d (by omega) (fun K k1 k2 => ?_)⟩
      exact ih (k + 1) K (by omega) (g1.tr k1) k2
  exact key t.toNat 0 I (by omega) MT.rf ev
