/-! ===== 46: a text is performed, on both sides ===== -/
noncomputable def doF (v : Vw) (t : Th) : Int × Vw := if t.2.2.1 = 100 then headF v t.2.2.2.1 t.2.2.2.2 else if t.2.2.1 = 108 then lightF v t.2.2.2.1 t.2.2.2.2 else if t.2.2.1 = 114 then comeF v t.2.2.2.1 t.2.2.2.2 else passF v t.2.2.2.1
noncomputable def pvN (C : Int → Int) (v : Vw) : Nat → Vw
  | 0 => v
  | j + 1 => (doF (pvN C v j) (tj C j)).2
noncomputable def prN (C : Int → Int) (v : Vw) (j : Nat) : Int := (doF (pvN C v j) (tj C j)).1
theorem doF_ok {v : Vw} {t : Th} (hv : WB v) (hk : KOk t) : (-5 ≤ (doF v t).1 ∧ (doF v t).1 ≤ 99) ∧ WB (doF v t).2 ∧ ((doF v t).1 < 0 → (doF v t).2 = v) := by
  unfold doF
  split
  · obtain ⟨a, b, c⟩ := headF_ok (r := t.2.2.2.1) (d := t.2.2.2.2) hv
    exact ⟨by omega, b, c⟩
  · split
    · obtain ⟨a, b, c⟩ := lightF_ok (l := t.2.2.2.1) (on := t.2.2.2.2) hv (by unfold KOk at hk; omega)
      exact ⟨by omega, b, c⟩
    · split
      · obtain ⟨a, b, c⟩ := comeF_ok (c := t.2.2.2.1) (x := t.2.2.2.2) hv
        exact ⟨by omega, b, c⟩
      · exact passF_ok hv
theorem pvN_ok {C : Int → Int} {v : Vw} (hv : WB v) : ∀ j : Nat, (∀ i : Nat, i < j → KOk (tj C i)) → WB (pvN C v j) := by
  intro j
  induction j with
  | zero => exact fun _ => hv
  | succ j ih => exact fun h => (doF_ok (ih (fun i hi => h i (by omega))) (h j (by omega))).2.1
def good (r : Int) : Prop := 0 ≤ r ∨ r = -5
theorem s_tryThing {j : Int} {I : sh_Mem} {Q : Int → sh_Mem → Prop} {v : Vw} {t : Th} (ev : vP I oT = v) (hv : WB v) (hj : 0 ≤ j ∧ j < 20) (hr : Row I j t) (hk : KOk t) (h : PA oT I Q (doF v t)) : cc mX6_tryThing [.inr 1, .inl j] I (qi Q) := by
  obtain ⟨r1, r2, r3⟩ := hr
  refine eX6_tryThing ⟨bdi (by omega), fun q => absurd q (by omega), fun _ => ⟨fun _ => ⟨hj, ?_⟩, fun q => absurd q (by omega)⟩⟩
  rw [r1, r2]
  unfold doF at h
  refine ⟨by unfold KOk at hk; exact bdi (by omega), fun q => ?_, fun q => ?_, fun q => ?_, fun q => ?_⟩
  · rw [if_pos q] at h
    rw [r3.resolve_left (by omega)]
    exact s_steer isP_oT ev hv.1 (by unfold KOk at hk; exact bdi (by omega)) (by unfold KOk at hk; exact bdi (by omega)) h
  · rw [if_neg (by omega), if_pos q] at h
    rw [r3.resolve_left (by omega)]
    exact s_switchTo isP_oT ev hv.1 (by unfold KOk at hk; exact bdi (by omega)) (by unfold KOk at hk; omega) h
  · rw [if_neg (by omega), if_neg (by omega), if_pos q] at h
    rw [r3.resolve_left (by omega)]
    exact s_welcome isP_oT ev hv.1 (by unfold KOk at hk; exact bdi (by omega)) (by unfold KOk at hk; exact bdi (by omega)) h
  · rw [if_neg (by omega), if_neg (by omega), if_neg (by omega)] at h
    exact s_pass isP_oT ev hv (by unfold KOk at hk; exact bdi (by omega)) h
theorem r_doThing {j : Int} {I : sh_Mem} {Q : Int → sh_Mem → Prop} {v : Vw} {t : Th} (ev : vM (I 120) = v) (hv : WB v) (hj : 0 ≤ j ∧ j < 20) (hr : RowM I j t) (hk : KOk t) (h : RA I Q (doF v t)) : cc mX7_doThing [.inr 119, .inl j] I (qi Q) := by
  obtain ⟨r1, r2, r3⟩ := hr
  refine eX7_doThing ⟨by omega, ?_⟩
  rw [r1, r2]
  unfold doF at h
  refine ⟨by unfold KOk at hk; exact bdi (by omega), fun q => ?_, fun q => ?_, fun q => ?_, fun q => ?_⟩
  · rw [if_pos q] at h
    rw [r3.resolve_left (by omega)]
    exact r_headNow ev hv.1 (by unfold KOk at hk; exact bdi (by omega)) (by unfold KOk at hk; exact bdi (by omega)) h
  · rw [if_neg (by omega), if_pos q] at h
    rw [r3.resolve_left (by omega)]
    exact r_lightNow ev hv.1 (by unfold KOk at hk; exact bdi (by omega)) (by unfold KOk at hk; omega) h
  · rw [if_neg (by omega), if_neg (by omega), if_pos q] at h
    rw [r3.resolve_left (by omega)]
    exact r_comeNow ev hv.1 (by unfold KOk at hk; exact bdi (by omega)) (by unfold KOk at hk; exact bdi (by omega)) h
  · rw [if_neg (by omega), if_neg (by omega), if_neg (by omega)] at h
    exact r_pass ev hv (by unfold KOk at hk; exact bdi (by omega)) h
theorem s_things {I : sh_Mem} {Q : Int → sh_Mem → Prop} {C : Int → Int} {v : Vw} {M : Int} (hv : WB v) (ev : vP I oT = v) (hM : 0 ≤ M ∧ M ≤ 20) (e6 : I 109 6 = M) (rows : ∀ j : Nat, (j : Int) < M → Row I j (tj C j) ∧ KOk (tj C j)) (hstop : ∀ j : Nat, (j : Int) < M → (∀ i : Nat, i < j → good (prN C v i)) → ¬ good (prN C v j) → ∀ K, CSame I K → Q (-4) (sh_u (sh_u K 1 7 j) 1 8 (prN C v j))) (hend : ∀ m : Nat, (m : Int) = M → (∀ i : Nat, (i : Int) < M → good (prN C v i)) → ∀ K, CSame I K → vP K oT = pvN C v m → cc mX6_takeOver [.inr 1, .inl M] K (qi Q)) : kk mX6_perform 31 [some (.inr 1), none, some (.inl 0), none] [] I (qi Q) := by
  have key : ∀ (m k : Nat) (J : sh_Mem), (k : Int) + (m : Int) = M → Off oT I J → vP J oT = pvN C v k → (∀ i : Nat, i < k → good (prN C v i)) → kk mX6_perform 31 [some (.inr 1), none, some (.inl (k : Int)), none] [] J (qi Q) := by
    intro m
    induction m with
    | zero =>
      intro k J g0 g1 g2 g3
      have a6 : J 109 6 = M := by rw [g1 109 (by rw [oT_v]; omega)]; exact e6
      refine lX6_perform_31 ⟨bdi (by omega), bdi (by omega), fun _ => ?_, fun q => absurd q (by omega)⟩
      rw [a6]
      exact hend k (by omega) (fun i hi => g3 i (by omega)) J (CSame.off g1) g2
    | succ m ih =>
      intro k J g0 g1 g2 g3
      have a6 : J 109 6 = M := by rw [g1 109 (by rw [oT_v]; omega)]; exact e6
      have hw := pvN_ok (C := C) hv k (fun i hi => (rows i (by omega)).2)
      have hr := rows k (by omega)
      have hr2 : Row J k (tj C k) := by
        unfold Row
        rw [g1 111 (by rw [oT_v]; omega), g1 112 (by rw [oT_v]; omega), g1 113 (by rw [oT_v]; omega)]
        exact hr.1
      have hok := doF_ok hw hr.2
      refine lX6_perform_31 ⟨bdi (by omega), bdi (by omega), fun q => absurd q (by omega), fun _ => s_tryThing g2 hw (by omega) hr2 hr.2 (fun K k1 k2 => ⟨bdi (by omega), fun q => ?_, fun q => ⟨fun q2 => ?_, fun q2 => ?_⟩⟩)⟩
      · exact ih (k + 1) K (by omega) (g1.tr k1) k2 (fun i hi => by
          by_cases e : i = k
          · rw [e]
            exact Or.inl q
          · exact g3 i (by omega))
      · exact ih (k + 1) K (by omega) (g1.tr k1) k2 (fun i hi => by
          by_cases e : i = k
          · rw [e]
            exact Or.inr q2
          · exact g3 i (by omega))
      · exact hstop k (by omega) g3 (fun z => z.elim (fun z => by have := q; unfold prN at z; omega) q2) K (CSame.off (g1.tr k1))
  exact key M.toNat 0 I (by omega) Off.rf ev (fun i hi => absurd hi (by omega))
theorem r_things {I : sh_Mem} {Q : Int → sh_Mem → Prop} {C : Int → Int} {v : Vw} {M : Int} (hv : WB v) (ev : vM (I 120) = v) (ea : vM (I 123) = v) (hM : 0 ≤ M ∧ M ≤ 20) (e6 : I 119 13 = M) (hn2 : 0 ≤ I 119 2 ∧ I 119 2 ≤ 4) (rows : ∀ j : Nat, (j : Int) < M → RowM I j (tj C j) ∧ KOk (tj C j)) (hstop : ∀ j : Nat, (j : Int) < M → (∀ i : Nat, i < j → good (prN C v i)) → ¬ good (prN C v j) → ∀ K, MSame I K → Q (-4) (sh_u (sh_u K 119 17 j) 119 18 (prN C v j))) (hend : ∀ m : Nat, (m : Int) = M → (∀ i : Nat, (i : Int) < M → good (prN C v i)) → ∀ K, MTake I K (pvN C v m) → Q M K) : kk mX7_perform 22 [some (.inr 119), none, some (.inl 0), none] [] I (qi Q) := by
  have key : ∀ (m k : Nat) (J : sh_Mem), (k : Int) + (m : Int) = M → MT I J → vM (J 120) = pvN C v k → (∀ i : Nat, i < k → good (prN C v i)) → kk mX7_perform 22 [some (.inr 119), none, some (.inl (k : Int)), none] [] J (qi Q) := by
    intro m
    induction m with
    | zero =>
      intro k J g0 g1 g2 g3
      have a6 : J 119 13 = M := by rw [g1.2 13 (by decide) (by decide)]; exact e6
      have a2 : J 119 2 = I 119 2 := g1.2 2 (by decide) (by decide)
      have a3 : vM (J 123) = v := by rw [g1.1 123 (by decide) (by decide) (by decide)]; exact ea
      refine lX7_perform_22 ⟨bdi (by omega), bdi (by omega), fun _ => r_record (by omega) (fun K k1 k2 k3 => ?_), fun q => absurd q (by omega)⟩
      have b6 : K 119 13 = M := by rw [k1.2 13 (by decide)]; exact a6
      rw [b6]
      refine hend k (by omega) (fun i hi => g3 i (by omega)) K ⟨?_, by rw [k2, a2], fun s s0 s1 => ?_, fun o f q => ?_⟩
      · rw [k1.1 120 (by decide) (by decide)]
        exact g2
      · have esl : sl J = sl I := by
          funext s
          exact vM_same fun j _ _ => by rw [g1.1 121 (by decide) (by decide) (by decide)]
        rw [k3 s s0 (by rw [a2]; exact s1), a2, a3, esl, ev]
      · by_cases e : o = 119
        · subst e
          rw [k1.2 f (by omega), g1.2 f (by omega) (by omega)]
        · rw [k1.1 o e (by omega), g1.1 o e (by omega) (by omega)]
    | succ m ih =>
      intro k J g0 g1 g2 g3
      have a6 : J 119 13 = M := by rw [g1.2 13 (by decide) (by decide)]; exact e6
      have hw := pvN_ok (C := C) hv k (fun i hi => (rows i (by omega)).2)
      have hr := rows k (by omega)
      have hr2 : RowM J k (tj C k) := by
        unfold RowM
        rw [g1.1 126 (by decide) (by decide) (by decide), g1.1 127 (by decide) (by decide) (by decide), g1.1 128 (by decide) (by decide) (by decide)]
        exact hr.1
      have hok := doF_ok hw hr.2
      refine lX7_perform_22 ⟨bdi (by omega), bdi (by omega), fun q => absurd q (by omega), fun _ => r_doThing g2 hw (by omega) hr2 hr.2 (fun K k1 k2 => ⟨bdi (by omega), fun q => ?_, fun q => ⟨fun q2 => ?_, fun q2 => ?_⟩⟩)⟩
      · exact ih (k + 1) K (by omega) (g1.tr k1) k2 (fun i hi => by
          by_cases e : i = k
          · rw [e]
            exact Or.inl q
          · exact g3 i (by omega))
      · exact ih (k + 1) K (by omega) (g1.tr k1) k2 (fun i hi => by
          by_cases e : i = k
          · rw [e]
            exact Or.inr q2
          · exact g3 i (by omega))
      · refine r_putBack (fun L l1 l2 => hstop k (by omega) g3 (fun z => z.elim (fun z => by have := q; unfold prN at z; omega) q2) L ⟨?_, fun o f q3 => ?_⟩)
        · rw [l2, (g1.tr k1).1 123 (by decide) (by decide) (by decide), ea, ev]
        · by_cases e : o = 119
          · subst e
            rw [l1 119 (by decide), (g1.tr k1).2 f (by omega) (by omega)]
          · rw [l1 o (by omega), (g1.tr k1).1 o e (by omega) (by omega)]
  exact key M.toNat 0 I (by omega) MT.rf ev (fun i hi => absurd hi (by omega))
theorem inv_upd {A B : sh_Mem} (h : Inv A) (fr : ∀ o f, ¬ ((o = 1 ∧ (f = 7 ∨ f = 8)) ∨ (o = 119 ∧ (f = 17 ∨ f = 18))) → B o f = A o f) (e1 : B 1 7 = B 119 17) (e2 : B 1 8 = B 119 18) : Inv B := by
  obtain ⟨⟨a1, a2⟩, ⟨⟨b1, b2⟩, b3⟩, -, ⟨d1, d2, d3, d4⟩, t1, t2, t3⟩ := h
  have eP : vP B oP = vP A oP := vP_same fun o h1 h2 => by funext f; exact fr o f (by rw [oP_v] at h1 h2; omega)
  have eS : vP B oS = vP A oS := vP_same fun o h1 h2 => by funext f; exact fr o f (by rw [oS_v] at h1 h2; omega)
  have eM : vM (B 120) = vM (A 120) := vM_same fun k _ _ => fr 120 k (by omega)
  have e122 : vM (B 122) = vM (A 122) := vM_same fun k _ _ => fr 122 k (by omega)
  have esl : ∀ s, sl B s = sl A s := fun s => vM_same fun k _ _ => fr 121 _ (by omega)
  have ehv : ∀ s, hv B s = hv A s := fun s => by
    unfold hv
    rw [fr 47 1 (by omega)]
    refine vP_same fun o h1 h2 => ?_
    funext f
    refine fr o f ?_
    unfold rbN at h1 h2
    omega
  refine ⟨⟨by rw [eP, eM]; exact a1, by rw [eM]; exact a2⟩, ⟨⟨?_, ?_⟩, ?_⟩, ⟨e1, e2⟩, ⟨?_, ?_, ?_, ?_⟩, ?_, ?_, ?_⟩
  · rw [fr 1 6 (by omega), fr 119 4 (by omega)]
    exact b1
  · rw [fr 119 4 (by omega)]
    exact b2
  · rw [fr 119 4 (by omega), eS, e122]
    exact b3
  · rw [fr 47 2 (by omega), fr 119 2 (by omega)]
    exact d1
  · rw [fr 119 2 (by omega)]
    exact d2
  · rw [fr 47 1 (by omega)]
    exact d3
  · rw [fr 119 2 (by omega)]
    intro s s0 s1
    rw [ehv, esl]
    exact d4 s s0 s1
  · rw [fr 109 1 (by omega), fr 119 10 (by omega)]
    exact t1
  · rw [fr 119 10 (by omega)]
    exact t2
  · rw [fr 119 10 (by omega)]
    intro j j0 j1
    rw [fr 110 j (by omega), fr 125 j (by omega)]
    exact t3 j j0 j1
theorem inv_stop {I K L : sh_Mem} {j r : Int} (h : Inv I) (hc : CSame I K) (hm : MSame (sh_u (sh_u K 1 7 j) 1 8 r) L) : Inv (sh_u (sh_u L 119 17 j) 119 18 r) := by
  have hA : MSame K (sh_u (sh_u L 1 7 (I 1 7)) 1 8 (I 1 8)) := by
    refine ⟨?_, fun o f q => ?_⟩
    · rw [sh_u_ne (by decide), sh_u_ne (by decide), hm.1, sh_u_ne (by decide), sh_u_ne (by decide)]
    · by_cases e : o = 1
      · subst e
        by_cases e8 : f = 8
        · subst e8
          have : sh_u (sh_u L 1 7 (I 1 7)) 1 8 (I 1 8) 1 8 = I 1 8 := by simp [sh_u]
          rw [this]
          exact (hc 1 8 (by omega)).symm
        · rw [sh_u_nf e8]
          by_cases e7 : f = 7
          · subst e7
            have : sh_u L 1 7 (I 1 7) 1 7 = I 1 7 := by simp [sh_u]
            rw [this]
            exact (hc 1 7 (by omega)).symm
          · rw [sh_u_nf e7, hm.2 1 f q, sh_u_nf e8, sh_u_nf e7]
      · rw [sh_u_ne e, sh_u_ne e, hm.2 o f q, sh_u_ne e, sh_u_ne e]
  have l7 : L 1 7 = j := by
    rw [hm.2 1 7 (by omega)]
    simp [sh_u]
  have l8 : L 1 8 = r := by
    rw [hm.2 1 8 (by omega)]
    simp [sh_u]
  refine inv_upd (inv_same h hc hA) (fun o f q => ?_) ?_ ?_
  · by_cases e : o = 119
    · subst e
      rw [sh_u_nf (by omega), sh_u_nf (by omega), sh_u_ne (by decide), sh_u_ne (by decide)]
    · rw [sh_u_ne e, sh_u_ne e]
      by_cases e1 : o = 1
      · subst e1
        rw [sh_u_nf (by omega), sh_u_nf (by omega)]
      · rw [sh_u_ne e1, sh_u_ne e1]
  · rw [sh_u_ne (by decide), sh_u_ne (by decide), l7]
    simp [sh_u]
  · rw [sh_u_ne (by decide), sh_u_ne (by decide), l8]
    simp [sh_u]
theorem b_perform {I : sh_Mem} (hI : Inv I) : Both mX6_perform mX7_perform [] I := by
  intro Q h
  have hI2 := hI
  obtain ⟨-, -, -, -, e1, e2, e3⟩ := hI2
  have hB := hI.wb
  have hst := hI.st
  -- the text
  have hCT : CT (cd (I 110) (I 119 10)) (I 119 10) := by
    refine ⟨e2, fun p => ⟨fun q => ?_, fun q => ?_⟩⟩
    · unfold cd
      rw [if_neg (by omega)]
    · unfold cd
      rw [if_pos q]
      have := e3 p q.1 q.2
      omega
  have hcd : cd (I 125) (I 119 10) = cd (I 110) (I 119 10) := by
    funext p
    unfold cd
    by_cases q : 0 ≤ p ∧ p < I 119 10
    · rw [if_pos q, if_pos q, (e3 p q.1 q.2).1]
    · rw [if_neg q, if_neg q]
  have tx : TX I (cd (I 110) (I 119 10)) (I 119 10) := ⟨hCT, e1, rfl⟩
  have rx : RX I (cd (I 110) (I 119 10)) (I 119 10) := ⟨hCT, rfl, hcd⟩
  generalize cd (I 110) (I 119 10) = C at tx rx
  generalize I 119 10 = n at tx rx
  refine eX6_perform (s_read tx (fun z zb J j1 => ?_) (fun z zb J j1 j2 j3 => ?_))
  · -- a fault
    refine ⟨bdi (by omega), fun q => absurd q (by omega), fun _ => ?_⟩
    have hJ := j1.same
    have hJ1 : ∀ o, 119 ≤ o → J o = I o := fun o ho => by funext k; exact hJ o k (by omega)
    refine ⟨by funext k; exact hJ 0 k (by omega), eX7_perform (r_fault (rx.of (by rw [hJ1 119 (by decide)]) (hJ1 125 (by decide))) (fun _ _ K k1 => ⟨bdi (by omega), fun q => absurd q z, fun _ => h _ K (inv_same hI hJ k1.same) ?_⟩) (fun q => absurd q z))⟩
    funext k
    rw [k1.same.2 0 k (by omega)]
    exact hJ 0 k (by omega)
  · -- the things
    refine ⟨bd_lit (by decide), fun _ => s_copyFrom isP_oT isP_oP (by decide) (fun K k1 k2 => ?_), fun q => absurd rfl q⟩
    have hJ := j1.same
    have hIK : CSame I K := hJ.tr (CSame.off k1)
    have ek : vP K oT = vM (I 120) := by
      rw [k2, hJ.vP isP_oP (by decide)]
      exact hI.eq
    have m6 : K 109 6 = rdK C n 21 0 := by rw [k1 109 (by rw [oT_v]; omega)]; exact j2
    have refr : ∀ (J : sh_Mem) (Q' : Int → sh_Mem → Prop), (∀ o, 119 ≤ o → J o = I o) → (∀ j : Nat, (j : Int) < rdK C n 21 0 → (∀ i : Nat, i < j → good (prN C (vM (I 120)) i)) → ¬ good (prN C (vM (I 120)) j) → ∀ K, MSame J K → Q' (-4) (sh_u (sh_u K 119 17 j) 119 18 (prN C (vM (I 120)) j))) → (∀ m : Nat, (m : Int) = rdK C n 21 0 → (∀ i : Nat, (i : Int) < rdK C n 21 0 → good (prN C (vM (I 120)) i)) → ∀ K, MTake J K (pvN C (vM (I 120)) m) → Q' (rdK C n 21 0) K) → cc mX7_perform [.inr 119] J (qi Q') := fun J Q' hJ1 hs he => by
      refine eX7_perform (r_fault (rx.of (by rw [hJ1 119 (by decide)]) (hJ1 125 (by decide))) (fun q => absurd z q) (fun _ _ L l1 l2 l3 => ⟨bd_lit (by decide), fun _ => r_putAside (fun N n1 n2 => ?_), fun q => absurd rfl q⟩))
      have l120 : L 120 = J 120 := l1.1 120 (by decide) (by decide) (by decide) (by decide)
      have same : MSame J N := l1.same.tr ⟨by rw [n1 120 (by decide)], fun o f q => by rw [n1 o (by omega)]⟩
      have evN : vM (N 120) = vM (I 120) := by rw [n1 120 (by decide), l120, hJ1 120 (by decide)]
      refine r_things (C := C) hB evN (by rw [n2, l120, hJ1 120 (by decide)]) (by omega) (by rw [n1 119 (by decide)]; exact l2) (by rw [same.2 119 2 (by omega), hJ1 119 (by decide)]; exact hst.1) (fun j hj => ?_) (fun j hj h1 h2 K hK => hs j hj h1 h2 K (same.tr hK)) (fun m hm h1 K hK => he m hm h1 K ?_)
      · have := l3 j hj
        refine ⟨?_, this.2⟩
        unfold RowM
        rw [n1 126 (by decide), n1 127 (by decide), n1 128 (by decide)]
        exact this.1
      · obtain ⟨p1, p2, p3, p4⟩ := hK
        have es : sl N = sl J := by
          funext s
          exact vM_same fun j _ _ => same.2 121 _ (by omega)
        refine ⟨p1, by rw [p2, same.2 119 2 (by omega)], fun s s0 s1 => ?_, fun o f q => ?_⟩
        · rw [p3 s s0 (by rw [same.2 119 2 (by omega)]; exact s1), same.2 119 2 (by omega), es, same.1]
        · rw [p4 o f q]
          exact same.2 o f (by omega)
    refine s_things (C := C) hB ek (by omega) m6 (fun j hj => ?_) (fun j hj h1 h2 L hL => ?_) (fun m hm h1 L hL lv => ?_)
    · have := j3 j hj
      refine ⟨?_, this.2⟩
      unfold Row
      rw [k1 111 (by rw [oT_v]; omega), k1 112 (by rw [oT_v]; omega), k1 113 (by rw [oT_v]; omega)]
      exact this.1
    · have hIL : CSame I L := hIK.tr hL
      have h119 : ∀ o, 119 ≤ o → sh_u (sh_u L 1 7 j) 1 8 (prN C (vM (I 120)) j) o = I o := fun o ho => by
        rw [sh_u_ne (by omega), sh_u_ne (by omega)]
        funext f
        exact hIL o f (by omega)
      have h00 : sh_u (sh_u L 1 7 j) 1 8 (prN C (vM (I 120)) j) 0 = I 0 := by
        rw [sh_u_ne (by decide), sh_u_ne (by decide)]
        funext f
        exact hIL 0 f (by omega)
      refine ⟨h00, refr _ _ h119 (fun j' hj' g1 g2 N hN => ?_) (fun m hm g1 => absurd (g1 j hj) h2)⟩
      have ej : j' = j := by
        rcases Nat.lt_trichotomy j' j with w | w | w
        · exact absurd (h1 j' w) g2
        · exact w
        · exact absurd (g1 j w) h2
      subst ej
      refine h (-4) _ (inv_stop hI hIL hN) ?_
      rw [sh_u_ne (by decide), sh_u_ne (by decide), ← h00]
      funext f
      exact hN.2 0 f (by omega)
    · refine s_takeOver (f := (rdK C n 21 0, pvN C (vM (I 120)) m)) hst.2.1 hst.2.2 (hIK.tr hL) lv (bdi (by show -2147483648 ≤ rdK C n 21 0 ∧ rdK C n 21 0 < 2147483648; omega)) (fun N hN => ?_)
      have hT : CTake I N (pvN C (vM (I 120)) m) := by
        rcases hN with ⟨w, -⟩ | ⟨-, w⟩
        · have w' : rdK C n 21 0 < 0 := w
          omega
        · exact w
      have h119 : ∀ o, 119 ≤ o → N o = I o := fun o ho => by
        funext f
        exact hT.2.2.2.2 o f (by omega)
      have h00 : N 0 = I 0 := by
        funext f
        exact hT.2.2.2.2 0 f (by omega)
      refine ⟨h00, refr N _ h119 (fun j hj g1 g2 => absurd (h1 j hj) g2) (fun m' hm' g1 O hO => ?_)⟩
      have em : m' = m := by omega
      subst em
      refine h _ O (inv_take hI (pvN_ok hB m' (fun i hi => (j3 i (by omega)).2)) hT hO) ?_
      rw [← h00]
      funext f
      exact hO.2.2.2 0 f (by omega)
