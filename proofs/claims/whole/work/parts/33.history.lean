/-! ===== 33: the histories side by side ===== -/
def rbN (i : Int) : Nat := 49 + 15 * i.toNat
theorem rbN_ok {i : Int} (h : 0 ≤ i ∧ i < 4) : sh_isP (rbN i) ∧ sh_PT 48 i.toNat = some (rbN i) := by
  have hz : i = 0 ∨ i = 1 ∨ i = 2 ∨ i = 3 := by omega
  rcases hz with rfl | rfl | rfl | rfl <;> exact ⟨by simp [sh_isP, rbN], by decide +kernel⟩
theorem rbN_inj {i j : Int} (h : 0 ≤ i ∧ i < 4) (h' : 0 ≤ j ∧ j < 4) (e : rbN i = rbN j) : i = j := by
  unfold rbN at e
  omega
/-- the state s of the class's history -/
def hv (I : sh_Mem) (s : Int) : Vw := vP I (rbN ((I 47 1 + s) % 4))
theorem vP_u47 {I : sh_Mem} {b : Nat} {f x : Int} (hb : sh_isP b) : vP (sh_u I 47 f x) b = vP I b := vP_same fun o h1 h2 => sh_u_ne (by unfold sh_isP at hb; omega)
theorem oP_v : oP = 2 := rfl
theorem oT_v : oT = 17 := rfl
theorem oS_v : oS = 32 := rfl
/-- nothing of the class's state has changed, and nothing beside the class -/
def CSame (I J : sh_Mem) : Prop := ∀ o f, (o < 17 ∨ (32 ≤ o ∧ o < 109) ∨ o = 110 ∨ 119 ≤ o ∨ (o = 109 ∧ f = 1)) → J o f = I o f
/-- an act has been taken over -/
def CTake (I J : sh_Mem) (w : Vw) : Prop := vP J oP = w ∧ J 47 2 = nn4 (I 47 2) ∧ (0 ≤ J 47 1 ∧ J 47 1 < 4) ∧ (∀ s, 0 ≤ s → s < nn4 (I 47 2) → hv J s = nh (hv I) (I 47 2) (vP I oP) s) ∧ ∀ o f, (o = 0 ∨ o = 1 ∨ (32 ≤ o ∧ o < 47) ∨ o = 110 ∨ 119 ≤ o ∨ (o = 109 ∧ f = 1)) → J o f = I o f
def MSame (I J : sh_Mem) : Prop := vM (J 120) = vM (I 120) ∧ ∀ o f, (o < 119 ∨ o = 121 ∨ o = 122 ∨ o = 125 ∨ (o = 119 ∧ (f = 2 ∨ f = 4 ∨ f = 10 ∨ f = 17 ∨ f = 18))) → J o f = I o f
def MTake (I J : sh_Mem) (w : Vw) : Prop := vM (J 120) = w ∧ J 119 2 = nn4 (I 119 2) ∧ (∀ s, 0 ≤ s → s < nn4 (I 119 2) → sl J s = nh (sl I) (I 119 2) (vM (I 120)) s) ∧ ∀ o f, (o < 119 ∨ o = 122 ∨ o = 125 ∨ (o = 119 ∧ (f = 4 ∨ f = 10 ∨ f = 17 ∨ f = 18))) → J o f = I o f
def PostC (I : sh_Mem) (f : Int × Vw) (Q : Int → sh_Mem → Prop) : Prop := ∀ K, ((f.1 < 0 ∧ CSame I K) ∨ (0 ≤ f.1 ∧ CTake I K f.2)) → Q f.1 K
def PostM (I : sh_Mem) (f : Int × Vw) (Q : Int → sh_Mem → Prop) : Prop := ∀ K, ((f.1 < 0 ∧ MSame I K) ∨ (0 ≤ f.1 ∧ MTake I K f.2)) → Q f.1 K
theorem CSame.rf {I : sh_Mem} : CSame I I := fun _ _ _ => rfl
theorem CSame.tr {I J K : sh_Mem} (h : CSame I J) (g : CSame J K) : CSame I K := fun o f q => (g o f q).trans (h o f q)
theorem MSame.rf {I : sh_Mem} : MSame I I := ⟨rfl, fun _ _ _ => rfl⟩
theorem MSame.tr {I J K : sh_Mem} (h : MSame I J) (g : MSame J K) : MSame I K := ⟨g.1.trans h.1, fun o f q => (g.2 o f q).trans (h.2 o f q)⟩
theorem CSame.off {I J : sh_Mem} (h : Off oT I J) : CSame I J := fun o f q => by rw [h o (by rw [oT_v]; omega)]
theorem CSame.vP {I J : sh_Mem} {b : Nat} (h : CSame I J) (hb : sh_isP b) (hne : b ≠ oT) : vP J b = vP I b := vP_same fun o h1 h2 => by
  funext f
  refine h o f ?_
  unfold sh_isP at hb
  rw [oT_v] at hne
  omega
theorem CSame.hvs {I J : sh_Mem} (h : CSame I J) (s : Int) : hv J s = hv I s := by
  have e : J 47 1 = I 47 1 := h 47 1 (by omega)
  unfold hv
  rw [e]
  have hr := rbN_ok (i := (I 47 1 + s) % 4) (by omega)
  exact h.vP hr.1 (by rw [oT_v]; unfold rbN; omega)
theorem MT.same {I J : sh_Mem} (h : MT I J) (e : vM (J 120) = vM (I 120)) : MSame I J := ⟨e, fun o f q => by
  by_cases z : o = 119
  · subst z
    exact h.2 f (by omega) (by omega)
  · rw [h.1 o z (by omega) (by omega)]⟩
theorem MS.same {I J : sh_Mem} (h : MS I J) : MSame I J := h.1.same (by rw [h.2])
theorem s_recordP {I : sh_Mem} {Q : sh_Mem → Prop} (hs : 0 ≤ I 47 2 ∧ I 47 2 ≤ 4) (ho : 0 ≤ I 47 1 ∧ I 47 1 < 4) (h : ∀ J, (∀ o, ¬ (o = 47 ∨ (49 ≤ o ∧ o < 109)) → J o = I o) → J 47 2 = nn4 (I 47 2) → (0 ≤ J 47 1 ∧ J 47 1 < 4) → (∀ s, 0 ≤ s → s < nn4 (I 47 2) → hv J s = nh (hv I) (I 47 2) (vP I oP) s) → Q J) : cc mX2_record [.inr 47, .inr oP] I (qv Q) := by
  have hi : 0 ≤ (I 47 1 + I 47 2) % 4 ∧ (I 47 1 + I 47 2) % 4 < 4 := by omega
  obtain ⟨hp, hpt⟩ := rbN_ok hi
  have hne : rbN ((I 47 1 + I 47 2) % 4) ≠ oP := by rw [oP_v]; unfold rbN; omega
  refine eX2_record isP_oP ⟨by omega, rbN ((I 47 1 + I 47 2) % 4), hp, hpt, s_copyFrom hp isP_oP hne (fun J j1 j2 => ?_)⟩
  have e1 : J 47 1 = I 47 1 := by rw [j1 47 (by unfold rbN; omega)]
  have e2 : J 47 2 = I 47 2 := by rw [j1 47 (by unfold rbN; omega)]
  have far : ∀ x y, ∀ o, ¬ (o = 47 ∨ (49 ≤ o ∧ o < 109)) → sh_u J 47 x y o = I o := fun x y o q => by
    rw [sh_u_ne (by omega), j1 o (by unfold rbN; omega)]
  have ring : ∀ i, 0 ≤ i ∧ i < 4 → vP J (rbN i) = if i = (I 47 1 + I 47 2) % 4 then vP I oP else vP I (rbN i) := fun i q => by
    split
    · rename_i e
      rw [e, j2]
    · rename_i e
      exact vP_off hp (rbN_ok q).1 (fun z => e (rbN_inj hi q z).symm) j1
  rw [e1, e2]
  refine ⟨bdi (by omega), fun q => ⟨by omega, h _ (far _ _) ?_ ?_ (fun s s0 s1 => ?_)⟩, fun q => h _ (far _ _) ?_ ?_ (fun s s0 s1 => ?_)⟩
  · have : I 47 2 = 4 := by omega
    simp [sh_u, e2, nn4, this]
  · simp only [sh_u]
    omega
  · have h4 : I 47 2 = 4 := by omega
    rw [h4] at s1 ⊢
    have s4 : nn4 4 = 4 := by simp [nn4]
    rw [s4] at s1
    unfold nh
    rw [if_neg (by omega)]
    have e9 : sh_u J 47 1 ((I 47 1 + 1) % 4) 47 1 = (I 47 1 + 1) % 4 := by simp [sh_u]
    unfold hv
    rw [e9, vP_u47 (rbN_ok (by omega)).1, ring _ (by omega)]
    by_cases e : s = 3
    · rw [if_pos e, if_pos (by omega)]
    · rw [if_neg e, if_neg (by omega)]
      congr 2
      omega
  · simp [sh_u, nn4, q]
  · have : sh_u J 47 2 (I 47 2 + 1) 47 1 = I 47 1 := by simp [sh_u, e1]
    omega
  · have s4 : nn4 (I 47 2) = I 47 2 + 1 := by simp [nn4, q]
    rw [s4] at s1
    unfold nh
    rw [if_pos q]
    have e9 : sh_u J 47 2 (I 47 2 + 1) 47 1 = I 47 1 := by simp [sh_u, e1]
    unfold hv
    rw [e9, vP_u47 (rbN_ok (by omega)).1, ring _ (by omega)]
    by_cases e : s = I 47 2
    · rw [if_pos e, if_pos (by omega)]
    · rw [if_neg e, if_neg (by omega)]
theorem s_takeOver {I J : sh_Mem} {Q : Int → sh_Mem → Prop} {f : Int × Vw} (hs : 0 ≤ I 47 2 ∧ I 47 2 ≤ 4) (ho : 0 ≤ I 47 1 ∧ I 47 1 < 4) (o : CSame I J) (ev : vP J oT = f.2) (hb : sh_Bd f.1) (h : PostC I f Q) : cc mX6_takeOver [.inr 1, .inl f.1] J (qi Q) := by
  have e1 : J 47 1 = I 47 1 := o 47 1 (by omega)
  have e2 : J 47 2 = I 47 2 := o 47 2 (by omega)
  have eP : vP J oP = vP I oP := o.vP isP_oP (by decide)
  refine eX6_takeOver ⟨hb, fun q => h J (Or.inl ⟨q, o⟩), fun q => s_recordP (by omega) (by omega) (fun K k1 k2 k3 k4 => s_copyFrom isP_oP isP_oT (by decide) (fun L l1 l2 => h L (Or.inr ⟨q, ?_, ?_, ?_, fun s s0 s1 => ?_, fun o' f' q' => ?_⟩)))⟩
  · rw [l2, ← ev]
    exact vP_same fun o' h1 h2 => k1 o' (by rw [oT_v] at h1 h2; omega)
  · rw [l1 47 (by rw [oP_v]; omega), k2, e2]
  · rw [l1 47 (by rw [oP_v]; omega)]
    exact k3
  · have eh : hv L s = hv K s := by
      unfold hv
      rw [l1 47 (by rw [oP_v]; omega)]
      exact vP_off isP_oP (rbN_ok (by omega)).1 (by rw [oP_v]; unfold rbN; omega) l1
    rw [eh, k4 s s0 (by rw [e2]; exact s1), e2, eP]
    unfold nh
    split
    · split
      · rfl
      · exact o.hvs s
    · split
      · rfl
      · exact o.hvs (s + 1)
  · rw [l1 o' (by rw [oP_v]; omega), k1 o' (by omega)]
    exact o o' f' (by omega)
theorem r_acted {I J : sh_Mem} {Q : Int → sh_Mem → Prop} {f : Int × Vw} (hs : 0 ≤ I 119 2 ∧ I 119 2 ≤ 4) (o : ∀ o' f', (o' < 119 ∨ o' = 121 ∨ o' = 122 ∨ o' = 125 ∨ (o' = 119 ∧ (f' = 2 ∨ f' = 4 ∨ f' = 10 ∨ f' = 17 ∨ f' = 18))) → J o' f' = I o' f') (ea : vM (J 123) = vM (I 120)) (ev : vM (J 120) = f.2) (herr : f.1 < 0 → f.2 = vM (I 120)) (hb : sh_Bd f.1) (h : PostM I f Q) : cc mX7_acted [.inr 119, .inl f.1] J (qi Q) := by
  have e2 : J 119 2 = I 119 2 := o 119 2 (by omega)
  have esl : ∀ s, sl J s = sl I s := fun s => vM_same fun k _ _ => o 121 _ (by omega)
  refine eX7_acted ⟨hb, fun q => h J (Or.inl ⟨q, ?_, o⟩), fun q => r_record (by omega) (fun K k1 k2 k3 => h K (Or.inr ⟨q, ?_, ?_, fun s s0 s1 => ?_, fun o' f' q' => ?_⟩))⟩
  · rw [ev, herr q]
  · rw [k1.1 120 (by decide) (by decide)]
    exact ev
  · rw [k2, e2]
  · rw [k3 s s0 (by rw [e2]; exact s1), e2, ea]
    unfold nh
    split
    · split
      · rfl
      · exact esl s
    · split
      · rfl
      · exact esl (s + 1)
  · by_cases z : o' = 119
    · subst z
      rw [k1.2 f' (by omega)]
      exact o 119 f' (by omega)
    · rw [k1.1 o' z (by omega)]
      exact o o' f' (by omega)
/-! the class and the reference agree -/
def Inv (I : sh_Mem) : Prop := (vP I oP = vM (I 120) ∧ WB (vM (I 120))) ∧ ((I 1 6 = I 119 4 ∧ (I 119 4 = 0 ∨ I 119 4 = 1)) ∧ (I 119 4 = 1 → vP I oS = vM (I 122) ∧ WB (vM (I 122)))) ∧ ((I 1 7 = I 119 17 ∧ I 1 8 = I 119 18) ∧
  (I 47 2 = I 119 2 ∧ (0 ≤ I 119 2 ∧ I 119 2 ≤ 4) ∧ (0 ≤ I 47 1 ∧ I 47 1 < 4) ∧ ∀ s, 0 ≤ s → s < I 119 2 → hv I s = sl I s ∧ WB (sl I s)) ∧ (I 109 1 = I 119 10 ∧ (0 ≤ I 119 10 ∧ I 119 10 ≤ 60) ∧ ∀ j, 0 ≤ j → j < I 119 10 → I 110 j = I 125 j ∧ 0 ≤ I 125 j ∧ I 125 j < 65536))
theorem inv_same {I J K : sh_Mem} (h : Inv I) (hc : CSame I J) (hm : MSame J K) : Inv K := by
  obtain ⟨⟨a1, a2⟩, ⟨⟨b1, b2⟩, b3⟩, ⟨c1, c2⟩, ⟨d1, d2, d3, d4⟩, e1, e2, e3⟩ := h
  have m : ∀ o f, (o = 0 ∨ o = 121 ∨ o = 122 ∨ o = 125 ∨ (o = 119 ∧ (f = 2 ∨ f = 4 ∨ f = 10 ∨ f = 17 ∨ f = 18))) → K o f = I o f := fun o f q => (hm.2 o f (by omega)).trans (hc o f (by omega))
  have cK : ∀ o f, (o < 17 ∨ (32 ≤ o ∧ o < 109) ∨ o = 110 ∨ (o = 109 ∧ f = 1)) → K o f = I o f := fun o f q => (hm.2 o f (by omega)).trans (hc o f (by omega))
  have eP : vP K oP = vP I oP := vP_same fun o h1 h2 => by funext f; exact cK o f (by rw [oP_v] at h1 h2; omega)
  have eS : vP K oS = vP I oS := vP_same fun o h1 h2 => by funext f; exact cK o f (by rw [oS_v] at h1 h2; omega)
  have eM : vM (K 120) = vM (I 120) := hm.1.trans (vM_same fun k _ _ => hc 120 k (by omega))
  have e122 : vM (K 122) = vM (I 122) := vM_same fun k _ _ => m 122 k (by omega)
  have esl : ∀ s, sl K s = sl I s := fun s => vM_same fun k _ _ => m 121 _ (by omega)
  have ehv : ∀ s, hv K s = hv I s := fun s => by
    unfold hv
    rw [cK 47 1 (by omega)]
    refine vP_same fun o h1 h2 => ?_
    funext f
    refine cK o f ?_
    unfold rbN at h1 h2
    omega
  refine ⟨⟨by rw [eP, eM]; exact a1, by rw [eM]; exact a2⟩, ⟨⟨?_, ?_⟩, ?_⟩, ⟨?_, ?_⟩, ⟨?_, ?_, ?_, ?_⟩, ?_, ?_, ?_⟩
  · rw [cK 1 6 (by omega), m 119 4 (by omega)]
    exact b1
  · rw [m 119 4 (by omega)]
    exact b2
  · rw [m 119 4 (by omega), eS, e122]
    exact b3
  · rw [cK 1 7 (by omega), m 119 17 (by omega)]
    exact c1
  · rw [cK 1 8 (by omega), m 119 18 (by omega)]
    exact c2
  · rw [cK 47 2 (by omega), m 119 2 (by omega)]
    exact d1
  · rw [m 119 2 (by omega)]
    exact d2
  · rw [cK 47 1 (by omega)]
    exact d3
  · rw [m 119 2 (by omega)]
    intro s s0 s1
    rw [ehv, esl]
    exact d4 s s0 s1
  · rw [cK 109 1 (by omega), m 119 10 (by omega)]
    exact e1
  · rw [m 119 10 (by omega)]
    exact e2
  · rw [m 119 10 (by omega)]
    intro j j0 j1
    rw [cK 110 j (by omega), m 125 j (by omega)]
    exact e3 j j0 j1
theorem inv_take {I J K : sh_Mem} {w : Vw} (h : Inv I) (hw : WB w) (hc : CTake I J w) (hm : MTake J K w) : Inv K := by
  obtain ⟨⟨a1, a2⟩, ⟨⟨b1, b2⟩, b3⟩, ⟨c1, c2⟩, ⟨d1, d2, d3, d4⟩, e1, e2, e3⟩ := h
  obtain ⟨p1, p2, p3, p4, p5⟩ := hc
  obtain ⟨q1, q2, q3, q4⟩ := hm
  have m : ∀ o f, (o = 0 ∨ o = 122 ∨ o = 125 ∨ (o = 119 ∧ (f = 4 ∨ f = 10 ∨ f = 17 ∨ f = 18))) → K o f = I o f := fun o f q => (q4 o f (by omega)).trans (p5 o f (by omega))
  have cK : ∀ o f, (o = 1 ∨ (32 ≤ o ∧ o < 47) ∨ o = 110 ∨ (o = 109 ∧ f = 1)) → K o f = I o f := fun o f q => (q4 o f (by omega)).trans (p5 o f (by omega))
  have cJ : ∀ o f, o < 119 → K o f = J o f := fun o f q => q4 o f (by omega)
  have eP : vP K oP = vP J oP := vP_same fun o h1 h2 => by funext f; exact cJ o f (by rw [oP_v] at h1 h2; omega)
  have eS : vP K oS = vP I oS := vP_same fun o h1 h2 => by funext f; exact cK o f (by rw [oS_v] at h1 h2; omega)
  have e122 : vM (K 122) = vM (I 122) := vM_same fun k _ _ => m 122 k (by omega)
  have eJ2 : J 119 2 = I 119 2 := p5 119 2 (by omega)
  have eJ120 : vM (J 120) = vM (I 120) := vM_same fun k _ _ => p5 120 k (by omega)
  have eJsl : ∀ s, sl J s = sl I s := fun s => vM_same fun k _ _ => p5 121 _ (by omega)
  have ehv : ∀ s, hv K s = hv J s := fun s => by
    unfold hv
    rw [cJ 47 1 (by omega)]
    refine vP_same fun o h1 h2 => ?_
    funext f
    refine cJ o f ?_
    unfold rbN at h1 h2
    omega
  refine ⟨⟨by rw [eP, p1, q1], by rw [q1]; exact hw⟩, ⟨⟨?_, ?_⟩, ?_⟩, ⟨?_, ?_⟩, ⟨?_, ?_, ?_, ?_⟩, ?_, ?_, ?_⟩
  · rw [cK 1 6 (by omega), m 119 4 (by omega)]
    exact b1
  · rw [m 119 4 (by omega)]
    exact b2
  · rw [m 119 4 (by omega), eS, e122]
    exact b3
  · rw [cK 1 7 (by omega), m 119 17 (by omega)]
    exact c1
  · rw [cK 1 8 (by omega), m 119 18 (by omega)]
    exact c2
  · rw [cJ 47 2 (by omega), p2, q2, eJ2, d1]
  · rw [q2, eJ2]
    unfold nn4
    split <;> omega
  · rw [cJ 47 1 (by omega)]
    exact p3
  · rw [q2, eJ2]
    intro s s0 s1
    have hn : nn4 (I 119 2) ≤ 4 := by
      unfold nn4
      split <;> omega
    have hn2 : nn4 (I 119 2) ≤ I 119 2 + 1 := by
      unfold nn4
      split <;> omega
    rw [ehv, p4 s s0 (by rw [d1]; exact s1), q3 s s0 (by rw [eJ2]; exact s1), d1, eJ2, eJ120, a1]
    unfold nh
    split
    · split
      · exact ⟨rfl, a2⟩
      · rw [eJsl]
        exact d4 s s0 (by omega)
    · split
      · exact ⟨rfl, a2⟩
      · rw [eJsl]
        exact d4 (s + 1) (by omega) (by omega)
  · rw [cK 109 1 (by omega), m 119 10 (by omega)]
    exact e1
  · rw [m 119 10 (by omega)]
    exact e2
  · rw [m 119 10 (by omega)]
    intro j j0 j1
    rw [cK 110 j (by omega), m 125 j (by omega)]
    exact e3 j j0 j1
