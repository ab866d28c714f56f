/-! ===== 35: undo, the snapshot and the text, called on both ===== -/
theorem sh_u_nf {I : sh_Mem} {o : Nat} {f g v : Int} (h : g ≠ f) : sh_u I o f v o g = I o g := by simp [sh_u, h]
theorem inv_of {I K : sh_Mem} {w : Vw} (h : Inv I) (hw : WB w) (eP : vP K oP = w) (eM : vM (K 120) = w) (hist : K 47 2 = K 119 2 ∧ (0 ≤ K 119 2 ∧ K 119 2 ≤ 4) ∧ (0 ≤ K 47 1 ∧ K 47 1 < 4) ∧ ∀ s, 0 ≤ s → s < K 119 2 → hv K s = sl K s ∧ WB (sl K s)) (fr : ∀ o f, ((32 ≤ o ∧ o < 47) ∨ o = 110 ∨ (o = 109 ∧ f = 1) ∨ (o = 1 ∧ (f = 6 ∨ f = 7 ∨ f = 8)) ∨ o = 122 ∨ o = 125 ∨ (o = 119 ∧ (f = 4 ∨ f = 10 ∨ f = 17 ∨ f = 18))) → K o f = I o f) : Inv K := by
  obtain ⟨-, ⟨⟨b1, b2⟩, b3⟩, ⟨c1, c2⟩, -, e1, e2, e3⟩ := h
  have eS : vP K oS = vP I oS := vP_same fun o h1 h2 => by funext f; exact fr o f (by rw [oS_v] at h1 h2; omega)
  have e122 : vM (K 122) = vM (I 122) := vM_same fun k _ _ => fr 122 k (by omega)
  refine ⟨⟨by rw [eP, eM], by rw [eM]; exact hw⟩, ⟨⟨?_, ?_⟩, ?_⟩, ⟨?_, ?_⟩, hist, ?_, ?_, ?_⟩
  · rw [fr 1 6 (by omega), fr 119 4 (by omega)]
    exact b1
  · rw [fr 119 4 (by omega)]
    exact b2
  · rw [fr 119 4 (by omega), eS, e122]
    exact b3
  · rw [fr 1 7 (by omega), fr 119 17 (by omega)]
    exact c1
  · rw [fr 1 8 (by omega), fr 119 18 (by omega)]
    exact c2
  · rw [fr 109 1 (by omega), fr 119 10 (by omega)]
    exact e1
  · rw [fr 119 10 (by omega)]
    exact e2
  · rw [fr 119 10 (by omega)]
    intro j j0 j1
    rw [fr 110 j (by omega), fr 125 j (by omega)]
    exact e3 j j0 j1
theorem r_undoLoop {I : sh_Mem} {Q : Int → sh_Mem → Prop} (hn : 0 ≤ I 119 2 ∧ I 119 2 ≤ 3) (h : ∀ J, (∀ o, o ≠ 120 → J o = I o) → vM (J 120) = sl I (I 119 2) → Q (J 119 2) J) : kk mX7_undo 22 [some (.inr 119), some (.inl 0)] [] I (qi Q) := by
  have key : ∀ (n : Nat) (k : Int) (J : sh_Mem), 0 ≤ k → k + (n : Int) = 63 → (∀ o, o ≠ 120 → J o = I o) → (∀ j, 0 ≤ j → j < k → J 120 j = I 121 (63 * I 119 2 + j)) → kk mX7_undo 22 [some (.inr 119), some (.inl k)] [] J (qi Q) := by
    intro n
    induction n with
    | zero =>
      intro k J k0 g0 g1 g2
      exact lX7_undo_22 ⟨bdi (by omega), fun _ => h J g1 (vM_same (fun j a b => g2 j a (by omega))), fun q => absurd q (by omega)⟩
    | succ n ih =>
      intro k J k0 g0 g1 g2
      have e2 : J 119 2 = I 119 2 := by rw [g1 119 (by decide)]
      refine lX7_undo_22 ⟨bdi (by omega), fun q => absurd q (by omega), fun q => ⟨by omega, by omega, ih (k + 1) _ (by omega) (by omega) (fun o ho => by rw [sh_u_ne ho]; exact g1 o ho) (fun j j1 j2 => ?_)⟩⟩
      rw [e2, g1 121 (by decide)]
      by_cases e : j = k
      · subst e
        simp [sh_u]
      · simp [sh_u, e, g2 j j1 (by omega)]
  exact key 63 0 I (by omega) (by omega) (fun _ _ => rfl) (fun j a b => absurd b (by omega))
theorem r_keepLoop {I : sh_Mem} {Q : Int → sh_Mem → Prop} (h : ∀ J, (∀ o, o ≠ 122 → J o = I o) → vM (J 122) = vM (I 120) → Q (J 120 20) (sh_u J 119 4 1)) : kk mX7_keep 2 [some (.inr 119), some (.inl 0)] [] I (qi Q) := by
  have key : ∀ (n : Nat) (k : Int) (J : sh_Mem), 0 ≤ k → k + (n : Int) = 63 → (∀ o, o ≠ 122 → J o = I o) → (∀ j, 0 ≤ j → j < k → J 122 j = I 120 j) → kk mX7_keep 2 [some (.inr 119), some (.inl k)] [] J (qi Q) := by
    intro n
    induction n with
    | zero =>
      intro k J k0 g0 g1 g2
      exact lX7_keep_2 ⟨bdi (by omega), fun _ => h J g1 (vM_same (fun j a b => g2 j a (by omega))), fun q => absurd q (by omega)⟩
    | succ n ih =>
      intro k J k0 g0 g1 g2
      refine lX7_keep_2 ⟨bdi (by omega), fun q => absurd q (by omega), fun q => ⟨by omega, ih (k + 1) _ (by omega) (by omega) (fun o ho => by rw [sh_u_ne ho]; exact g1 o ho) (fun j j1 j2 => ?_)⟩⟩
      by_cases e : j = k
      · subst e
        simp [sh_u, g1]
      · simp [sh_u, e, g2 j j1 (by omega)]
  exact key 63 0 I (by omega) (by omega) (fun _ _ => rfl) (fun j a b => absurd b (by omega))
theorem r_restoreLoop {I : sh_Mem} {Q : Int → sh_Mem → Prop} (h : ∀ J, (∀ o, o ≠ 120 → J o = I o) → vM (J 120) = vM (I 122) → Q (J 120 20) J) : kk mX7_restore 20 [some (.inr 119), some (.inl 0)] [] I (qi Q) := by
  have key : ∀ (n : Nat) (k : Int) (J : sh_Mem), 0 ≤ k → k + (n : Int) = 63 → (∀ o, o ≠ 120 → J o = I o) → (∀ j, 0 ≤ j → j < k → J 120 j = I 122 j) → kk mX7_restore 20 [some (.inr 119), some (.inl k)] [] J (qi Q) := by
    intro n
    induction n with
    | zero =>
      intro k J k0 g0 g1 g2
      exact lX7_restore_20 ⟨bdi (by omega), fun _ => h J g1 (vM_same (fun j a b => g2 j a (by omega))), fun q => absurd q (by omega)⟩
    | succ n ih =>
      intro k J k0 g0 g1 g2
      refine lX7_restore_20 ⟨bdi (by omega), fun q => absurd q (by omega), fun q => ⟨by omega, ih (k + 1) _ (by omega) (by omega) (fun o ho => by rw [sh_u_ne ho]; exact g1 o ho) (fun j j1 j2 => ?_)⟩⟩
      by_cases e : j = k
      · subst e
        simp [sh_u, g1]
      · simp [sh_u, e, g2 j j1 (by omega)]
  exact key 63 0 I (by omega) (by omega) (fun _ _ => rfl) (fun j a b => absurd b (by omega))
theorem b_undo {I : sh_Mem} (hI : Inv I) : Both mX6_undo mX7_undo [] I := by
  intro Q h
  obtain ⟨d1, d2, d3, d4⟩ := hI.2.2.2.1
  by_cases z : I 119 2 = 0
  · exact eX6_undo (eX2_takeBack isP_oP ⟨bdi (by omega), fun q => absurd (d1.trans z) q, fun _ => Or.inr ⟨rfl, rfl, eX7_undo ⟨bdi (by omega), fun q => absurd z q, fun _ => h _ _ hI rfl⟩⟩⟩)
  · have hi : 0 ≤ (I 47 1 + I 47 2 - 1) % 4 ∧ (I 47 1 + I 47 2 - 1) % 4 < 4 := by omega
    obtain ⟨hp, hpt⟩ := rbN_ok hi
    have hne : oP ≠ rbN ((I 47 1 + I 47 2 - 1) % 4) := by rw [oP_v]; unfold rbN; omega
    have eh : vP I (rbN ((I 47 1 + I 47 2 - 1) % 4)) = hv I (I 119 2 - 1) := by
      unfold hv
      rw [← d1]
      congr 3
      omega
    refine eX6_undo (eX2_takeBack isP_oP ⟨bdi (by omega), fun _ => ⟨by omega, _, hp, hpt, s_copyFrom isP_oP hp hne (fun J j1 j2 => ?_)⟩, fun q => absurd (d1.symm.trans q) z⟩)
    rw [vP_u47 hp, eh, (d4 _ (by omega) (by omega)).1] at j2
    have jc : ∀ o, ¬ (2 ≤ o ∧ o < 17) → o ≠ 47 → J o = I o := fun o q1 q2 => by
      rw [j1 o (by rw [oP_v]; omega), sh_u_ne q2]
    have j47 : J 47 2 = I 119 2 - 1 := by
      rw [j1 47 (by rw [oP_v]; omega), d1]
      simp [sh_u]
    have j471 : J 47 1 = I 47 1 := by
      rw [j1 47 (by rw [oP_v]; omega)]
      simp [sh_u]
    have j119 : J 119 2 = I 119 2 := by rw [jc 119 (by omega) (by decide)]
    refine Or.inl ⟨rfl, jc 0 (by omega) (by decide), eX7_undo ⟨bdi (by omega), fun _ => r_undoLoop (by simp only [sh_u]; simp; omega) (fun K k1 k2 => ?_), fun q => absurd (j119.symm.trans q) z⟩⟩
    have e2 : sh_u J 119 2 (J 119 2 - 1) 119 2 = I 119 2 - 1 := by simp [sh_u, j119]
    have esl : ∀ s, sl (sh_u J 119 2 (J 119 2 - 1)) s = sl I s := fun s => vM_same fun k _ _ => by rw [sh_u_ne (by decide), jc 121 (by omega) (by decide)]
    rw [e2, esl] at k2
    have k47 : ∀ f, K 47 f = J 47 f := fun f => by rw [k1 47 (by decide), sh_u_ne (by decide)]
    have k119 : K 119 2 = I 119 2 - 1 := by rw [k1 119 (by decide)]; exact e2
    have kslow : ∀ o, o < 119 → K o = J o := fun o q => by rw [k1 o (by omega), sh_u_ne (by omega)]
    have gs : sl K = sl I := by
      funext s
      refine vM_same fun k _ _ => ?_
      rw [k1 121 (by decide), sh_u_ne (by decide), jc 121 (by omega) (by decide)]
    have gh : ∀ s, hv K s = hv I s := fun s => by
      unfold hv
      rw [k47, j471]
      refine vP_same fun o h1 h2 => ?_
      rw [kslow o (by unfold rbN at h2; omega), jc o (by unfold rbN at h1; omega) (by unfold rbN at h1; omega)]
    have hK : Inv K := by
      refine inv_of hI (d4 (I 119 2 - 1) (by omega) (by omega)).2 ?_ k2 ⟨by rw [k47, j47, k119], by rw [k119]; omega, by rw [k47, j471]; exact d3, fun s s0 s1 => ?_⟩ (fun o f q => ?_)
      · rw [← j2]
        exact vP_same fun o h1 h2 => kslow o (by rw [oP_v] at h2; omega)
      · rw [k119] at s1
        rw [gh, gs]
        exact d4 s s0 (by omega)
      · by_cases e : o = 119
        · subst e
          rw [k1 119 (by decide), sh_u_nf (by omega), jc 119 (by omega) (by decide)]
        · rw [k1 o (by omega), sh_u_ne e, jc o (by omega) (by omega)]
    have h0 : K 0 = I 0 := by rw [kslow 0 (by decide), jc 0 (by omega) (by decide)]
    have := h (I 119 2 - 1) K hK h0
    rw [j47, k119]
    exact this
theorem b_keep {I : sh_Mem} (hI : Inv I) : Both mX6_keep mX7_keep [] I := by
  intro Q h
  refine eX6_keep (s_copyFrom isP_oS isP_oP (by decide) (fun J j1 j2 => ?_))
  have hJ : ∀ o, ¬ (32 ≤ o ∧ o < 47) → o ≠ 1 → sh_u J 1 6 1 o = I o := fun o q1 q2 => by
    rw [sh_u_ne q2, j1 o (by rw [oS_v]; omega)]
  refine ⟨hJ 0 (by omega) (by decide), eX7_keep (r_keepLoop (fun K k1 k2 => ?_))⟩
  have kc : ∀ o, o ≠ 122 → o ≠ 119 → sh_u K 119 4 1 o = sh_u J 1 6 1 o := fun o q1 q2 => by rw [sh_u_ne q2, k1 o q1]
  have k119 : ∀ f, f ≠ 4 → sh_u K 119 4 1 119 f = I 119 f := fun f q => by rw [sh_u_nf q, k1 119 (by decide), hJ 119 (by omega) (by decide)]
  obtain ⟨⟨a1, a2⟩, -, ⟨c1, c2⟩, ⟨d1, d2, d3, d4⟩, e1, e2, e3⟩ := hI
  have eP : vP (sh_u K 119 4 1) oP = vP I oP := vP_same fun o h1 h2 => by
    rw [oP_v] at h1 h2
    rw [kc o (by omega) (by omega), hJ o (by omega) (by omega)]
  have eM : sh_u K 119 4 1 120 = I 120 := by rw [kc 120 (by decide) (by decide), hJ 120 (by omega) (by decide)]
  have eS : vP (sh_u K 119 4 1) oS = vP I oP := by
    rw [← j2]
    exact vP_same fun o h1 h2 => by
      rw [oS_v] at h1 h2
      rw [kc o (by omega) (by omega), sh_u_ne (by omega)]
  have e122 : vM (sh_u K 119 4 1 122) = vM (I 120) := by
    rw [sh_u_ne (by decide), k2, hJ 120 (by omega) (by decide)]
  have gh : ∀ s, hv (sh_u K 119 4 1) s = hv I s := fun s => by
    unfold hv
    rw [kc 47 (by decide) (by decide), hJ 47 (by omega) (by decide)]
    refine vP_same fun o h1 h2 => ?_
    rw [kc o (by unfold rbN at h2; omega) (by unfold rbN at h2; omega), hJ o (by unfold rbN at h1; omega) (by unfold rbN at h1; omega)]
  have gs : ∀ s, sl (sh_u K 119 4 1) s = sl I s := fun s => vM_same fun k _ _ => by rw [kc 121 (by decide) (by decide), hJ 121 (by omega) (by decide)]
  have j1v : ∀ f, f ≠ 6 → sh_u K 119 4 1 1 f = I 1 f := fun f q => by rw [kc 1 (by decide) (by decide), sh_u_nf q, j1 1 (by rw [oS_v]; omega)]
  have hK : Inv (sh_u K 119 4 1) := by
    have z4 : sh_u K 119 4 1 119 4 = 1 := by simp [sh_u]
    have z6 : sh_u K 119 4 1 1 6 = 1 := by
      rw [kc 1 (by decide) (by decide)]
      simp [sh_u]
    refine ⟨⟨by rw [eP, eM]; exact a1, by rw [eM]; exact a2⟩, ⟨⟨by rw [z4, z6], Or.inr z4⟩, fun _ => ⟨by rw [eS, e122]; exact a1, by rw [e122]; exact a2⟩⟩, ⟨?_, ?_⟩, ⟨?_, ?_, ?_, ?_⟩, ?_, ?_, ?_⟩
    · rw [j1v 7 (by decide), k119 17 (by decide)]
      exact c1
    · rw [j1v 8 (by decide), k119 18 (by decide)]
      exact c2
    · rw [kc 47 (by decide) (by decide), hJ 47 (by omega) (by decide), k119 2 (by decide)]
      exact d1
    · rw [k119 2 (by decide)]
      exact d2
    · rw [kc 47 (by decide) (by decide), hJ 47 (by omega) (by decide)]
      exact d3
    · rw [k119 2 (by decide)]
      intro s s0 s1
      rw [gh, gs]
      exact d4 s s0 s1
    · rw [kc 109 (by decide) (by decide), hJ 109 (by omega) (by decide), k119 10 (by decide)]
      exact e1
    · rw [k119 10 (by decide)]
      exact e2
    · rw [k119 10 (by decide), kc 110 (by decide) (by decide), hJ 110 (by omega) (by decide), kc 125 (by decide) (by decide), hJ 125 (by omega) (by decide)]
      exact e3
  have h0 : sh_u K 119 4 1 0 = I 0 := by rw [kc 0 (by decide) (by decide), hJ 0 (by omega) (by decide)]
  have em : J (oP + 1) 7 = I 120 20 := by
    rw [j1 (oP + 1) (by rw [oP_v, oS_v]; omega), rP0_6 (I := I) (b := oP), a1]
    exact rM0_6.symm
  have ek : K 120 20 = I 120 20 := by rw [k1 120 (by decide), hJ 120 (by omega) (by decide)]
  rw [em, ek]
  exact h _ _ hK h0
theorem b_restore {I : sh_Mem} (hI : Inv I) : Both mX6_restore mX7_restore [] I := by
  have b12 := hI.2.1.1
  by_cases z : I 119 4 = 0
  · refine both_act (f := (-5, vM (I 120))) hI (show sh_Bd (-5) from bd_lit (by decide)) (fun q => absurd q (show ¬ (0 : Int) ≤ -5 by decide)) (fun Q h => eX6_restore ⟨bdi (by omega), fun q => absurd (b12.1.trans z) q, fun _ => h I (Or.inl ⟨show (-5 : Int) < 0 by decide, CSame.rf⟩)⟩) (fun J Q hJ h => ?_)
    have e4 : J 119 4 = I 119 4 := by rw [hJ 119 (by decide)]
    exact eX7_restore ⟨bdi (by omega), fun q => absurd (e4.trans z) q, fun _ => h J (Or.inl ⟨show (-5 : Int) < 0 by decide, MSame.rf⟩)⟩
  · have z1 : I 119 4 = 1 := by omega
    obtain ⟨s1, s2⟩ := hI.2.1.2 z1
    have hm := s2.1.many
    refine both_act (f := (vM (I 122) 0 6, vM (I 122))) hI (bdi (by show -2147483648 ≤ vM (I 122) 0 6 ∧ vM (I 122) 0 6 < 2147483648; omega)) (fun _ => s2) (fun Q h => eX6_restore ⟨bdi (by omega), fun _ => s_copyFrom isP_oT isP_oS (by decide) (fun J j1 j2 => ?_), fun q => absurd (b12.1.symm.trans q) z⟩) (fun J Q hJ h => ?_)
    · rw [s1] at j2
      have em : J (oT + 1) 7 = vM (I 122) 0 6 := by rw [rP0_6 (I := J) (b := oT), j2]
      rw [em]
      exact s_takeOver (f := (vM (I 122) 0 6, vM (I 122))) hI.st.2.1 hI.st.2.2 (CSame.off j1) j2 (bdi (by show -2147483648 ≤ vM (I 122) 0 6 ∧ vM (I 122) 0 6 < 2147483648; omega)) h
    · have e4 : J 119 4 = I 119 4 := by rw [hJ 119 (by decide)]
      refine eX7_restore ⟨bdi (by omega), fun _ => r_putAside (fun K k1 k2 => r_record (by rw [k1 119 (by decide)]; exact st_of hI hJ) (fun L l1 l2 l3 => r_restoreLoop (fun M m1 m2 => ?_))), fun q => absurd (e4.symm.trans q) z⟩
      have e122 : L 122 = I 122 := by rw [l1.1 122 (by decide) (by decide), k1 122 (by decide), hJ 122 (by decide)]
      have ev : vM (M 120) = vM (I 122) := by rw [m2, e122]
      have ek2 : K 119 2 = J 119 2 := by rw [k1 119 (by decide)]
      have er : M 120 20 = vM (I 122) 0 6 := by rw [← ev]; exact rM0_6
      rw [er]
      refine h M (Or.inr ⟨hm.1, ev, ?_, fun s s0 s1' => ?_, fun o f q => ?_⟩)
      · rw [m1 119 (by decide), l2, ek2]
      · have e1 : sl M s = sl L s := vM_same fun k _ _ => by rw [m1 121 (by decide)]
        have e3 : ∀ s, sl K s = sl J s := fun s => vM_same fun k _ _ => by rw [k1 121 (by decide)]
        rw [e1, l3 s s0 (by rw [ek2]; exact s1'), ek2, k2]
        unfold nh
        simp only [e3]
      · by_cases e : o = 119
        · subst e
          rw [m1 119 (by decide), l1.2 f (by omega), k1 119 (by decide)]
        · rw [m1 o (by omega), l1.1 o e (by omega), k1 o (by omega)]
