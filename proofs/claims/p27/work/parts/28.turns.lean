/-! ===== 28: turns, in the class and in the reference ===== -/
noncomputable def tuN (v : Vw) : Nat → Vw
  | 0 => v
  | n + 1 => turnF (tuN v n)
def tgI (x : Int) : Int := if x = -5 then 0 else 1
theorem s_firstCaughtE {b : Nat} {I : sh_Mem} {Q : Int → sh_Mem → Prop} {v : Vw} (hb : sh_isP b) (ev : vP I b = v) (hv : WF v) (h : CaIs v (ca v) → Q (ca v) I) : cc mX4_firstCaught [.inr b] I (qi Q) := by
  subst ev
  exact s_firstCaught hb hv h
theorem s_takeTurn {b : Nat} {I : sh_Mem} {Q : Int → sh_Mem → Prop} {v : Vw} (hb : sh_isP b) (ev : vP I b = v) (hv : WF v) (ht : v 0 2 ≤ v 0 0) (hz : v 0 0 < 149999) (h : ∀ J, Off b I J → vP J b = turnF v → CaIs (goN v (v 0 6).toNat) (turnT v) → Q (tgI (turnT v)) J) : cc mX4_takeTurn [.inr b] I (qi Q) := by
  have hm := hv.many
  obtain ⟨a1, a2, a3, a4⟩ := goN_ok hv (v 0 6).toNat (by omega)
  refine eX4_takeTurn hb (s_stepAll hb ev hv (fun I1 o1 e1 => s_firstCaughtE hb e1 a1 (fun hc => ?_)))
  have hcb : -5 ≤ turnT v ∧ turnT v < 6 := by
    rcases hc.bd a1 with z | z
    · have : turnT v = -5 := z
      omega
    · have z1 := z.1
      unfold isr at z1
      have z2 : 0 ≤ turnT v ∧ turnT v < goN v (v 0 6).toNat 0 6 := z1
      omega
  obtain ⟨b1, b2, b3, b4⟩ := turnA_ok a1 (by omega) hc
  obtain ⟨c1, c2, c3, c4⟩ := turnB_ok b1 (by omega)
  have fin : ∀ K, Off b I K → vP K b = turnF v → kk mX4_takeTurn 109 [none, some (.inl (turnT v))] [] K (qi Q) := fun K k1 k2 => by
    refine lX4_takeTurn_109 hb ⟨bdi (by omega), fun q => ?_, fun q => ?_⟩
    · have h9 := h K k1 k2 hc
      rwa [tgI, if_pos q] at h9
    · have h9 := h K k1 k2 hc
      rwa [tgI, if_neg q] at h9
  have tail : ∀ K, Off b I K → vP K b = turnA (goN v (v 0 6).toNat) → cc mX5_shortenRespites [.inr (b + 1)] K (qv fun I8 => (cc mX5_addToAccounts [.inr (b + 1)] I8 (qv fun I10 => (cc mX3_swingAtTurn [.inr (b + 9), .inl ((I10 b 3) + 1)] (sh_u I10 b 3 ((I10 b 3) + 1)) (qv fun I12 =>
      (sh_Bd (I12 (b + 14) 1) ∧ (((I12 (b + 14) 1) = 0 → kk mX4_takeTurn 109 [none, some (.inl (turnT v))] [] I12 (qi Q)) ∧ (¬ (I12 (b + 14) 1) = 0 → ((0 ≤ (I12 b 3) ∧ (I12 b 3) < 2147483648) ∧ ((0 < (I12 (b + 14) 1) ∧ (I12 (b + 14) 1) < 2147483648) ∧ (sh_Bd ((I12 b 3) % (I12 (b + 14) 1)) ∧
        ((¬ ((I12 b 3) % (I12 (b + 14) 1)) = 0 → kk mX4_takeTurn 109 [none, some (.inl (turnT v))] [] I12 (qi Q)) ∧ (((I12 b 3) % (I12 (b + 14) 1)) = 0 → (cc mX5_spin [.inr (b + 1)] I12 (qv fun I20 => kk mX4_takeTurn 109 [none, some (.inl (turnT v))] [] (sh_u I20 b 4 ((I20 b 4) + 1)) (qi Q)))))))))))))))) := by
    intro K k1 k2
    generalize hw : turnA (goN v (v 0 6).toNat) = w at *
    have hF : turnF v = turnC (turnB w) := by rw [← hw]; rfl
    refine s_shortenRespites hb k2 b1 (fun L l1 l2 => s_addToAccounts hb l2 (restK_ok b1) (fun M m1 m2 => ?_))
    have m2' : vP M b = restF w := m2
    have e3 : M b 3 = w 0 0 := by rw [rP0_0 (I := M), m2']; rfl
    have e3' : vP (sh_u M b 3 (M b 3 + 1)) b = up (restF w) 0 0 (w 0 0 + 1) := by rw [wP0_0, m2', e3]
    have offM : Off b I (sh_u M b 3 (M b 3 + 1)) := (((k1.tr l1).tr m1).put (by omega))
    have hwf1 : WF (up (restF w) 0 0 (w 0 0 + 1)) := turn1_ok (restF_ok b1).1 (by show w 0 0 < 149999; omega)
    refine s_swing hb e3' hwf1 (by rw [e3, up_same]) (fun N n1 n2 => ?_)
    have n2' : vP N b = turnB w := n2
    have e14 : N (b + 14) 1 = turnB w 1 1 := by rw [rP1 (I := N) (b := b) (i := 1) (by omega), n2']
    have e03 : N b 3 = turnB w 0 0 := by rw [rP0_0 (I := N), n2']
    have h11 := c1.2.2.2.2.2.2.1
    have offN := offM.tr n1
    rw [e14, e03]
    have hmod : ¬ turnB w 1 1 = 0 → 0 ≤ turnB w 0 0 % turnB w 1 1 ∧ turnB w 0 0 % turnB w 1 1 < 10 := fun q => ⟨Int.emod_nonneg _ q, by have := Int.emod_lt_of_pos (turnB w 0 0) (show 0 < turnB w 1 1 by omega); omega⟩
    have h00 := c1.2.2.2.2.2.2.2.1
    refine ⟨bdi (by omega), fun q => fin N offN ?_, fun q => ?_⟩
    · rw [hF, n2', turnC, if_neg (fun z => z.1 q)]
    · have hm2 := hmod q
      refine ⟨by omega, by omega, bdi (by omega), fun q2 => fin N offN ?_, fun q2 => s_spin hb n2' c1 (fun O p1 p2 => fin _ ((offN.tr p1).put (by omega)) ?_)⟩
      · rw [hF, n2', turnC, if_neg (fun z => q2 z.2)]
      · rw [hF, wP0_5, rP0_5 (I := O), p2, turnC, if_pos ⟨q, q2⟩]
        rfl
  refine ⟨bdi (by have h1 := hcb.1; have h2 := hcb.2; unfold turnT at h1 h2; omega), fun q => tail I1 o1 ?_, fun q => ?_⟩
  · rw [e1, turnA, if_pos q]
  · have e14 : I1 (b + 14) 0 = goN v (v 0 6).toNat 1 0 := by rw [rP1 (I := I1) (b := b) (i := 0) (by omega), e1]
    rw [e14]
    rcases hc.bd a1 with z | z
    · exact absurd z q
    · refine s_handOver hb e1 a1 z.1 (fun K k1 k2 => tail K (o1.tr k1) ?_)
      rw [k2, turnA, if_neg q]
