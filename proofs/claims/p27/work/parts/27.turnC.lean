/-! ===== 27: a turn in the class ===== -/
theorem up_self {v : Vw} {j : Nat} {i : Int} : up v j i (v j i) = v := by
  funext a b
  simp only [up]
  split
  · rename_i h
    rw [h.1, h.2]
  · rfl
theorem restK_0 {v : Vw} : restK v 0 = v := by
  funext j i
  simp only [restK]
  rw [if_neg (by omega)]
theorem acctK_0 {v : Vw} : acctK v 0 = v := by
  funext j i
  simp only [acctK]
  rw [if_neg (by omega)]
theorem swingK_0 {v : Vw} : swingK v 0 = v := by
  funext j i
  simp only [swingK]
  rw [if_neg (by omega)]
theorem spinK_0 {v : Vw} : spinK v 0 = v := by
  funext j i
  simp only [spinK]
  rw [if_neg (by omega), if_neg (by omega)]
theorem restK_succ {v : Vw} {k : Int} (hk : 0 ≤ k) : restK v (k + 1) = up (restK v k) 9 k (if 0 < v 9 k then v 9 k - 1 else 0) := by
  funext j i
  simp only [restK, up]
  by_cases h : j = 9 ∧ i = k
  · obtain ⟨rfl, rfl⟩ := h
    rw [if_pos (show (9 : Nat) = 9 ∧ 0 ≤ i ∧ i < i + 1 from ⟨rfl, hk, by omega⟩), if_pos (show (9 : Nat) = 9 ∧ i = i from ⟨rfl, rfl⟩)]
  · rw [if_neg h]
    by_cases h2 : j = 9 ∧ (0 ≤ i ∧ i < k)
    · rw [if_pos h2, if_pos (by omega)]
    · rw [if_neg h2, if_neg (by omega)]
theorem acctK_succ {v : Vw} {k : Int} (hk : 0 ≤ k) : acctK v (k + 1) = up (acctK v k) 12 k (v 12 k + (if k = v 0 1 then 0 else 1)) := by
  funext j i
  simp only [acctK, up]
  by_cases h : j = 12 ∧ i = k
  · obtain ⟨rfl, rfl⟩ := h
    rw [if_pos (show (12 : Nat) = 12 ∧ 0 ≤ i ∧ i < i + 1 from ⟨rfl, hk, by omega⟩), if_pos (show (12 : Nat) = 12 ∧ i = i from ⟨rfl, rfl⟩)]
  · rw [if_neg h]
    by_cases h2 : j = 12 ∧ (0 ≤ i ∧ i < k)
    · rw [if_pos h2, if_pos (by omega)]
    · rw [if_neg h2, if_neg (by omega)]
theorem swingK_yes {v : Vw} {k : Int} (hk : 0 ≤ k) (hc : ¬ v 4 k = 0 ∧ v 0 0 % v 4 k = 0) : swingK v (k + 1) = up (swingK v k) 2 k ((v 2 k + 1) % 4) := by
  funext j i
  simp only [swingK, up]
  by_cases h : j = 2 ∧ i = k
  · obtain ⟨rfl, rfl⟩ := h
    rw [if_pos ⟨rfl, by omega, hc⟩, if_pos (by omega)]
  · rw [if_neg h]
    by_cases h2 : j = 2 ∧ (0 ≤ i ∧ i < k) ∧ ¬ v 4 i = 0 ∧ v 0 0 % v 4 i = 0
    · rw [if_pos h2, if_pos ⟨h2.1, by omega, h2.2.2⟩]
    · rw [if_neg h2, if_neg]
      rintro ⟨a, b, c⟩
      exact h2 ⟨a, by omega, c⟩
theorem swingK_no {v : Vw} {k : Int} (hc : ¬ (¬ v 4 k = 0 ∧ v 0 0 % v 4 k = 0)) : swingK v (k + 1) = swingK v k := by
  funext j i
  simp only [swingK]
  by_cases h2 : j = 2 ∧ (0 ≤ i ∧ i < k) ∧ ¬ v 4 i = 0 ∧ v 0 0 % v 4 i = 0
  · rw [if_pos h2, if_pos ⟨h2.1, by omega, h2.2.2⟩]
  · rw [if_neg h2, if_neg]
    rintro ⟨a, b, c⟩
    by_cases e : i = k
    · rw [e] at c
      exact hc c
    · exact h2 ⟨a, by omega, c⟩
theorem spinK_succ {v : Vw} {k : Int} (hk : 0 ≤ k) : spinK v (k + 1) = up (up (spinK v k) 6 k (v 6 k % 10 * 10 + 9 - v 6 k / 10)) 8 k (if v 8 k = 4 then v 8 k else (v 8 k + 1) % 4) := by
  funext j i
  by_cases h : j = 8 ∧ i = k
  · obtain ⟨rfl, rfl⟩ := h
    rw [up_same]
    simp only [spinK]
    by_cases e : v 8 i = 4
    · rw [if_pos e, if_neg (show ¬ ((8 : Nat) = 6 ∧ 0 ≤ i ∧ i < i + 1) by omega), if_neg (show ¬ (True ∧ (0 ≤ i ∧ i < i + 1) ∧ ¬ v 8 i = 4) by omega)]
    · rw [if_neg e, if_neg (show ¬ ((8 : Nat) = 6 ∧ 0 ≤ i ∧ i < i + 1) by omega), if_pos (show True ∧ (0 ≤ i ∧ i < i + 1) ∧ ¬ v 8 i = 4 from ⟨trivial, ⟨hk, by omega⟩, e⟩)]
  · rw [up_ne h]
    by_cases h1 : j = 6 ∧ i = k
    · obtain ⟨rfl, rfl⟩ := h1
      rw [up_same]
      simp only [spinK]
      rw [if_pos (show True ∧ 0 ≤ i ∧ i < i + 1 from ⟨trivial, hk, by omega⟩)]
    · rw [up_ne h1]
      simp only [spinK]
      by_cases h2 : j = 6 ∧ (0 ≤ i ∧ i < k)
      · rw [if_pos h2, if_pos (show j = 6 ∧ 0 ≤ i ∧ i < k + 1 by omega)]
      · rw [if_neg h2, if_neg (show ¬ (j = 6 ∧ 0 ≤ i ∧ i < k + 1) by omega)]
        by_cases h3 : j = 8 ∧ (0 ≤ i ∧ i < k) ∧ ¬ v 8 i = 4
        · rw [if_pos h3, if_pos (show j = 8 ∧ (0 ≤ i ∧ i < k + 1) ∧ ¬ v 8 i = 4 by omega)]
        · rw [if_neg h3, if_neg (show ¬ (j = 8 ∧ (0 ≤ i ∧ i < k + 1) ∧ ¬ v 8 i = 4) by omega)]
theorem s_step {b : Nat} {r : Int} {I : sh_Mem} {Q : sh_Mem → Prop} {v : Vw} (hb : sh_isP b) (ev : vP I b = v) (hv : WF v) (hr : isr v r) (h : ∀ J, Off b I J → vP J b = goF v r → Q J) : cc mX5_step [.inr (b + 1), .inl r] I (qv Q) := by
  subst ev
  have hm := hv.many
  have hr0 := hr
  unfold isr at hr0
  have hru := hv.run hr.1 hr.2
  have e8 := rP8 (I := I) (b := b) (i := r) (by omega)
  have e6 := rP6 (I := I) (b := b) (i := r) (by omega)
  refine eX5_step hb (s_has hb hv (bdi (by omega)) (fun _ => Or.inl ⟨rfl, by omega, bdi (by omega), fun q => ?_, fun q => h I Off.rf ?_⟩) (fun q => absurd hr q))
  · rw [e8, e6]
    rw [e8] at q
    have hd : 0 ≤ vP I b 8 r ∧ vP I b 8 r < 4 := by omega
    have hte := te_in (d := vP I b 8 r) hru.1
    have hnx := nx_te hru.1 hd
    have halt : nx (vP I b 6 r) (vP I b 8 r) = -5 ∨ ¬ st (vP I b) (nx (vP I b 6 r) (vP I b 8 r)) = -5 → Q (sh_u I (b + 1) 11 (I (b + 1) 11 + 1)) := by
      intro z
      refine h _ (Off.rf.put (by omega)) ?_
      rw [wP0_4, rP0_4 (I := I)]
      unfold goF
      rw [if_neg q, if_pos z]
    refine s_cellAlong hd (s_cellsToEdge hru.1 hd ⟨bdi (by omega), fun q2 => halt (Or.inl ?_), fun q2 => ?_⟩)
    · rw [hnx, if_neg (by omega)]
    · rw [if_pos (by omega)] at hnx
      have hal := al_in (k := 1) hru.1 hd ⟨by omega, by omega⟩
      have hsb := st_bd hv (al (vP I b 6 r) (vP I b 8 r) 1)
      refine s_standingOn hb hv (bdi (by omega)) ⟨bdi (by omega), fun q3 => h _ ((Off.rf.put (by omega)).put (by omega)) ?_, fun q3 => halt (Or.inr ?_)⟩
      · have e10 : I (b + 1) 10 = vP (sh_u I (b + 2) r (al (vP I b 6 r) (vP I b 8 r) 1)) b 0 3 := by
          rw [wP6 (by omega)]
          rfl
        rw [wP0_3, e10, wP6 (by omega)]
        unfold goF
        rw [if_neg q, if_neg, hnx]
        · rfl
        · rw [hnx]
          rintro (z | z)
          · omega
          · exact z q3
      · rw [hnx]
        exact q3
  · unfold goF
    rw [e8] at q
    rw [if_pos q]
theorem s_stepAll {b : Nat} {I : sh_Mem} {Q : sh_Mem → Prop} {v : Vw} (hb : sh_isP b) (ev : vP I b = v) (hv : WF v) (h : ∀ J, Off b I J → vP J b = goN v (v 0 6).toNat → Q J) : cc mX5_stepAll [.inr (b + 1)] I (qv Q) := by
  have hm := hv.many
  refine eX5_stepAll hb ?_
  have key : ∀ (n k : Nat) (J : sh_Mem), (k : Int) + (n : Int) = v 0 6 → Off b I J → vP J b = goN v k → kk mX5_stepAll 2 [some (.inr (b + 1)), some (.inl (k : Int))] [] J (qv Q) := by
    intro n
    induction n with
    | zero =>
      intro k J g0 g1 g2
      have gk := goN_ok hv k (by omega)
      have e6 : J (b + 1) 7 = v 0 6 := by rw [rP0_6 (I := J), g2, gk.2.1]
      have ek : (v 0 6).toNat = k := by omega
      exact lX5_stepAll_2 hb ⟨bdi (by omega), bdi (by omega), fun q => h J g1 (by rw [ek]; exact g2), fun q => absurd q (by omega)⟩
    | succ n ih =>
      intro k J g0 g1 g2
      have gk := goN_ok hv k (by omega)
      have e6 : J (b + 1) 7 = v 0 6 := by rw [rP0_6 (I := J), g2, gk.2.1]
      refine lX5_stepAll_2 hb ⟨bdi (by omega), bdi (by omega), fun q => absurd q (by omega), fun q => s_step hb g2 gk.1 ⟨by omega, by omega⟩ (fun K hK eK => ?_)⟩
      exact ih (k + 1) K (by omega) (g1.tr hK) eK
  exact key (v 0 6).toNat 0 I (by omega) Off.rf ev
theorem s_handOver {b : Nat} {r : Int} {I : sh_Mem} {Q : sh_Mem → Prop} {v : Vw} (hb : sh_isP b) (ev : vP I b = v) (hv : WF v) (hr : isr v r) (h : ∀ J, Off b I J → vP J b = tagF v r → Q J) : cc mX5_handOver [.inr (b + 1), .inl r, .inl (v 1 0 + 1)] I (qv Q) := by
  subst ev
  have hm := hv.many
  have hr0 := hr
  unfold isr at hr0
  have hcb := hv.2.1
  have hc : isr (vP I b) (vP I b 0 1) := by unfold isr; omega
  have e1 : I (b + 1) 8 = vP I b 0 1 := rP0_1
  refine eX5_handOver hb (s_has hb hv (bdi (by omega)) (fun _ => Or.inl ⟨rfl, s_has hb hv (bdi (by omega)) (fun _ => Or.inl ⟨rfl, by omega, by omega, h _ ((((((Off.rf).put (by omega)).put (by omega)).put (by omega)).put (by omega)).put (by omega)) ?_⟩) (fun q => absurd hc (by rwa [e1] at q))⟩) (fun q => absurd hr q))
  rw [e1, rP0_2 (I := I), rP10 (I := I) (b := b) (i := r) (by omega), rP11 (I := I) (b := b) (i := vP I b 0 1) (by omega)]
  rw [wP0_2, wP0_1, wP9 (by omega), wP11 (by omega), wP10 (by omega)]
  rfl
theorem s_shortenRespites {b : Nat} {I : sh_Mem} {Q : sh_Mem → Prop} {v : Vw} (hb : sh_isP b) (ev : vP I b = v) (hv : WF v) (h : ∀ J, Off b I J → vP J b = restK v (v 0 6) → Q J) : cc mX5_shortenRespites [.inr (b + 1)] I (qv Q) := by
  have hm := hv.many
  refine eX5_shortenRespites hb ?_
  have key : ∀ (n : Nat) (k : Int) (J : sh_Mem), 0 ≤ k → k + (n : Int) = v 0 6 → Off b I J → vP J b = restK v k → kk mX5_shortenRespites 2 [some (.inr (b + 1)), some (.inl k)] [] J (qv Q) := by
    intro n
    induction n with
    | zero =>
      intro k J k0 g0 g1 g2
      have e6 : J (b + 1) 7 = v 0 6 := by rw [rP0_6 (I := J), g2]; rfl
      have ek : k = v 0 6 := by omega
      exact lX5_shortenRespites_2 hb ⟨bdi (by omega), bdi (by omega), fun q => h J g1 (by rw [g2, ek]), fun q => absurd q (by omega)⟩
    | succ n ih =>
      intro k J k0 g0 g1 g2
      have e6 : J (b + 1) 7 = v 0 6 := by rw [rP0_6 (I := J), g2]; rfl
      have e9 : J (b + 5) k = v 9 k := by
        rw [rP9 (I := J) (b := b) (i := k) (by omega), g2]
        simp only [restK]
        rw [if_neg (by omega)]
      have e9' : restK v k 9 k = v 9 k := by rw [← g2, ← rP9 (I := J) (b := b) (i := k) (by omega), e9]
      have h9 := (hv.run (r := k) k0 (by omega)).2.2.2
      refine lX5_shortenRespites_2 hb ⟨bdi (by omega), bdi (by omega), fun q => absurd q (by omega), fun q => ⟨fun q9 => absurd q9 (by omega), fun q9 => ⟨by omega, bdi (by omega), fun q2 => ih (k + 1) J (by omega) (by omega) g1 ?_, fun q2 => ih (k + 1) _ (by omega) (by omega) (g1.put (by omega)) ?_⟩⟩⟩
      · rw [restK_succ k0, if_neg (by omega), g2]
        have : (0 : Int) = restK v k 9 k := by omega
        rw [this, up_self]
      · rw [wP9 (by omega), g2, restK_succ k0, if_pos (by omega), e9]
  exact key (v 0 6).toNat 0 I (by omega) (by omega) Off.rf (by rw [restK_0]; exact ev)
theorem s_addToAccounts {b : Nat} {I : sh_Mem} {Q : sh_Mem → Prop} {v : Vw} (hb : sh_isP b) (ev : vP I b = v) (hv : WF v) (h : ∀ J, Off b I J → vP J b = acctK v (v 0 6) → Q J) : cc mX5_addToAccounts [.inr (b + 1)] I (qv Q) := by
  have hm := hv.many
  have hcb := hv.2.1
  refine eX5_addToAccounts hb ?_
  have key : ∀ (n : Nat) (k : Int) (J : sh_Mem), 0 ≤ k → k + (n : Int) = v 0 6 → Off b I J → vP J b = acctK v k → kk mX5_addToAccounts 2 [some (.inr (b + 1)), some (.inl k)] [] J (qv Q) := by
    intro n
    induction n with
    | zero =>
      intro k J k0 g0 g1 g2
      have e6 : J (b + 1) 7 = v 0 6 := by rw [rP0_6 (I := J), g2]; rfl
      have ek : k = v 0 6 := by omega
      exact lX5_addToAccounts_2 hb ⟨bdi (by omega), bdi (by omega), fun q => h J g1 (by rw [g2, ek]), fun q => absurd q (by omega)⟩
    | succ n ih =>
      intro k J k0 g0 g1 g2
      have e6 : J (b + 1) 7 = v 0 6 := by rw [rP0_6 (I := J), g2]; rfl
      have e1 : J (b + 1) 8 = v 0 1 := by rw [rP0_1 (I := J), g2]; rfl
      have e12 : J (b + 8) k = v 12 k := by
        rw [rP12 (I := J) (b := b) (i := k) (by omega), g2]
        simp only [acctK]
        rw [if_neg (by omega)]
      have e12' : acctK v k 12 k = v 12 k := by rw [← g2, ← rP12 (I := J) (b := b) (i := k) (by omega), e12]
      refine lX5_addToAccounts_2 hb ⟨bdi (by omega), bdi (by omega), fun q => absurd q (by omega), fun q => ⟨fun q9 => absurd q9 (by omega), fun q9 => ⟨bdi (by omega), fun q2 => ih (k + 1) J (by omega) (by omega) g1 ?_, fun q2 => ⟨by omega, ih (k + 1) _ (by omega) (by omega) (g1.put (by omega)) ?_⟩⟩⟩⟩
      · rw [acctK_succ k0, if_pos (by omega), g2]
        have : v 12 k + 0 = acctK v k 12 k := by omega
        rw [this, up_self]
      · rw [wP12 (by omega), g2, acctK_succ k0, if_neg (by omega), e12]
  exact key (v 0 6).toNat 0 I (by omega) (by omega) Off.rf (by rw [acctK_0]; exact ev)
theorem s_swing {b : Nat} {I : sh_Mem} {Q : sh_Mem → Prop} {v : Vw} {t : Int} (hb : sh_isP b) (ev : vP I b = v) (hv : WF v) (ht : t = v 0 0) (h : ∀ J, Off b I J → vP J b = swingK v 3 → Q J) : cc mX3_swingAtTurn [.inr (b + 9), .inl t] I (qv Q) := by
  subst ht
  have h00 := hv.2.2.2.2.2.2.2.1
  refine eX3_swingAtTurn hb ?_
  have key : ∀ (n : Nat) (k : Int) (J : sh_Mem), 0 ≤ k → k + (n : Int) = 3 → Off b I J → vP J b = swingK v k → kk mX3_swingAtTurn 2 [some (.inr (b + 9)), some (.inl (v 0 0)), some (.inl k)] [] J (qv Q) := by
    intro n
    induction n with
    | zero =>
      intro k J k0 g0 g1 g2
      have ek : k = 3 := by omega
      exact lX3_swingAtTurn_2 hb ⟨bdi (by omega), fun q => h J g1 (by rw [g2, ek]), fun q => absurd q (by omega)⟩
    | succ n ih =>
      intro k J k0 g0 g1 g2
      have hw := hv.lampw (l := k) (by omega)
      have e4 : J (b + 12) k = v 4 k := by rw [rP4 (I := J) (b := b) (i := k) (by omega), g2]; rfl
      have e2 : J (b + 10) k = v 2 k := by
        rw [rP2 (I := J) (b := b) (i := k) (by omega), g2]
        simp only [swingK]
        rw [if_neg]
        rintro ⟨-, z, -⟩
        omega
      have hmod : ¬ v 4 k = 0 → 0 ≤ v 0 0 % v 4 k ∧ v 0 0 % v 4 k < 10 := fun q => ⟨Int.emod_nonneg _ q, by have := Int.emod_lt_of_pos (v 0 0) (show 0 < v 4 k by omega); omega⟩
      refine lX3_swingAtTurn_2 hb ⟨bdi (by omega), fun q => absurd q (by omega), fun q => ⟨by omega, bdi (by omega), fun q2 => ih (k + 1) J (by omega) (by omega) g1 ?_, fun q2 => ?_⟩⟩
      · rw [swingK_no (fun z => z.1 (by omega)), g2]
      · rw [e4] at q2 ⊢
        have hm2 := hmod q2
        refine ⟨by omega, by omega, bdi (by omega), fun q3 => ih (k + 1) J (by omega) (by omega) g1 ?_, fun q3 => ⟨by omega, ih (k + 1) _ (by omega) (by omega) (g1.put (by omega)) ?_⟩⟩
        · rw [swingK_no (fun z => q3 z.2), g2]
        · rw [wP2 (by omega), g2, swingK_yes k0 ⟨q2, q3⟩, e2]
  exact key 3 0 I (by omega) (by omega) Off.rf (by rw [swingK_0]; exact ev)
theorem s_spin {b : Nat} {I : sh_Mem} {Q : sh_Mem → Prop} {v : Vw} (hb : sh_isP b) (ev : vP I b = v) (hv : WF v) (h : ∀ J, Off b I J → vP J b = spinK v (v 0 6) → Q J) : cc mX5_spin [.inr (b + 1)] I (qv Q) := by
  have hm := hv.many
  refine eX5_spin hb ?_
  have key : ∀ (n : Nat) (k : Int) (J : sh_Mem), 0 ≤ k → k + (n : Int) = v 0 6 → Off b I J → vP J b = spinK v k → kk mX5_spin 2 [some (.inr (b + 1)), some (.inl k), none, none] [] J (qv Q) := by
    intro n
    induction n with
    | zero =>
      intro k J k0 g0 g1 g2
      have e6 : J (b + 1) 7 = v 0 6 := by rw [rP0_6 (I := J), g2]; rfl
      have ek : k = v 0 6 := by omega
      exact lX5_spin_2 hb ⟨bdi (by omega), bdi (by omega), fun q => h J g1 (by rw [g2, ek]), fun q => absurd q (by omega)⟩
    | succ n ih =>
      intro k J k0 g0 g1 g2
      have e6 : J (b + 1) 7 = v 0 6 := by rw [rP0_6 (I := J), g2]; rfl
      have hru := hv.run (r := k) k0 (by omega)
      have ec : J (b + 2) k = v 6 k := by
        rw [rP6 (I := J) (b := b) (i := k) (by omega), g2]
        simp only [spinK]
        rw [if_neg (by omega), if_neg (by omega)]
      have ed : J (b + 4) k = v 8 k := by
        rw [rP8 (I := J) (b := b) (i := k) (by omega), g2]
        simp only [spinK]
        rw [if_neg (by omega), if_neg (by omega)]
      have ed' : spinK v k 8 k = v 8 k := by rw [← g2, ← rP8 (I := J) (b := b) (i := k) (by omega), ed]
      have ex : v 6 k % 10 * 10 + 10 - 1 - v 6 k / 10 = v 6 k % 10 * 10 + 9 - v 6 k / 10 := by omega
      refine lX5_spin_2 hb ⟨bdi (by omega), bdi (by omega), fun q => absurd q (by omega), fun q => ⟨fun q9 => absurd q9 (by omega), fun q9 => ⟨by omega, by omega, bdi (by omega), fun q2 => ih (k + 1) _ (by omega) (by omega) (g1.put (by omega)) ?_, fun q2 => ⟨by omega, ih (k + 1) _ (by omega) (by omega) ((g1.put (by omega)).put (by omega)) ?_⟩⟩⟩⟩
      · rw [wP6 (by omega), g2, ec, ex, spinK_succ k0, if_pos (by omega)]
        have : v 8 k = up (spinK v k) 6 k (v 6 k % 10 * 10 + 9 - v 6 k / 10) 8 k := ed'.symm
        conv => rhs; arg 4; rw [this]
        rw [up_self]
      · rw [wP8 (by omega), wP6 (by omega), g2, ec, ed, ex, spinK_succ k0, if_neg (by omega)]
  exact key (v 0 6).toNat 0 I (by omega) (by omega) Off.rf (by rw [spinK_0]; exact ev)
