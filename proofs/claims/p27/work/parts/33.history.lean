/-! ===== 33: the histories side by side ===== -/
def rbN (i : Int) : Nat := 49 + 15 * i.toNat
theorem rbN_ok {i : Int} (h : 0 ≤ i ∧ i < 4) : sh_isP (rbN i) ∧ sh_PT 48 i.toNat = some (rbN i) := by
  have hz : i = 0 ∨ i = 1 ∨ i = 2 ∨ i = 3 := by omega
  rcases hz with rfl | rfl | rfl | rfl <;> exact ⟨by simp [sh_isP, rbN], by decide +kernel⟩
theorem rbN_inj {i j : Int} (h : 0 ≤ i ∧ i < 4) (h' : 0 ≤ j ∧ j < 4) (e : rbN i = rbN j) : i = j := by
  unfold rbN at e
  omega
/-- the state s of the class's history -/
def hv (I : sh_Mem) (s : Int) : Vw := vP I (rbN ((I 47 1 + s) % 4))
theorem vP_u47 {I : sh_Mem} {b : Nat} {f x : Int} (hb : sh_isP b) : vP (sh_u I 47 f x) b = vP I b := vP_same fun o h1 h2 => sh_u_ne (by unfold sh_isP at hb; omega)
theorem oP_v : oP = 2 := rfl
theorem oT_v : oT = 17 := rfl
theorem oS_v : oS = 32 := rfl
/-- nothing of the class's state has changed, and nothing beside the class -/
def CSame (I J : sh_Mem) : Prop := ∀ o f, (o < 17 ∨ (32 ≤ o ∧ o < 109) ∨ o = 110 ∨ 119 ≤ o ∨ (o = 109 ∧ f = 1)) → J o f = I o f
/-- an act has been taken over -/
def CTake (I J : sh_Mem) (w : Vw) : Prop := vP J oP = w ∧ J 47 2 = nn4 (I 47 2) ∧ (0 ≤ J 47 1 ∧ J 47 1 < 4) ∧ (∀ s, 0 ≤ s → s < nn4 (I 47 2) → hv J s = nh (hv I) (I 47 2) (vP I oP) s) ∧ ∀ o f, (o = 0 ∨ o = 1 ∨ (32 ≤ o ∧ o < 47) ∨ o = 110 ∨ 119 ≤ o ∨ (o = 109 ∧ f = 1)) → J o f = I o f
def PostC (I : sh_Mem) (f : Int × Vw) (Q : Int → sh_Mem → Prop) : Prop := ∀ K, ((f.1 < 0 ∧ CSame I K) ∨ (0 ≤ f.1 ∧ CTake I K f.2)) → Q f.1 K
theorem CSame.rf {I : sh_Mem} : CSame I I := fun _ _ _ => rfl
theorem CSame.tr {I J K : sh_Mem} (h : CSame I J) (g : CSame J K) : CSame I K := fun o f q => (g o f q).trans (h o f q)
theorem CSame.off {I J : sh_Mem} (h : Off oT I J) : CSame I J := fun o f q => by rw [h o (by rw [oT_v]; omega)]
theorem CSame.vP {I J : sh_Mem} {b : Nat} (h : CSame I J) (hb : sh_isP b) (hne : b ≠ oT) : vP J b = vP I b := vP_same fun o h1 h2 => by
  funext f
  refine h o f ?_
  unfold sh_isP at hb
  rw [oT_v] at hne
  omega
theorem CSame.hvs {I J : sh_Mem} (h : CSame I J) (s : Int) : hv J s = hv I s := by
  have e : J 47 1 = I 47 1 := h 47 1 (by omega)
  unfold hv
  rw [e]
  have hr := rbN_ok (i := (I 47 1 + s) % 4) (by omega)
  exact h.vP hr.1 (by rw [oT_v]; unfold rbN; omega)
theorem s_recordP {I : sh_Mem} {Q : sh_Mem → Prop} (hs : 0 ≤ I 47 2 ∧ I 47 2 ≤ 4) (ho : 0 ≤ I 47 1 ∧ I 47 1 < 4) (h : ∀ J, (∀ o, ¬ (o = 47 ∨ (49 ≤ o ∧ o < 109)) → J o = I o) → J 47 2 = nn4 (I 47 2) → (0 ≤ J 47 1 ∧ J 47 1 < 4) → (∀ s, 0 ≤ s → s < nn4 (I 47 2) → hv J s = nh (hv I) (I 47 2) (vP I oP) s) → Q J) : cc mX2_record [.inr 47, .inr oP] I (qv Q) := by
  have hi : 0 ≤ (I 47 1 + I 47 2) % 4 ∧ (I 47 1 + I 47 2) % 4 < 4 := by omega
  obtain ⟨hp, hpt⟩ := rbN_ok hi
  have hne : rbN ((I 47 1 + I 47 2) % 4) ≠ oP := by rw [oP_v]; unfold rbN; omega
  refine eX2_record isP_oP ⟨by omega, rbN ((I 47 1 + I 47 2) % 4), hp, hpt, s_copyFrom hp isP_oP hne (fun J j1 j2 => ?_)⟩
  have e1 : J 47 1 = I 47 1 := by rw [j1 47 (by unfold rbN; omega)]
  have e2 : J 47 2 = I 47 2 := by rw [j1 47 (by unfold rbN; omega)]
  have far : ∀ x y, ∀ o, ¬ (o = 47 ∨ (49 ≤ o ∧ o < 109)) → sh_u J 47 x y o = I o := fun x y o q => by
    rw [sh_u_ne (by omega), j1 o (by unfold rbN; omega)]
  have ring : ∀ i, 0 ≤ i ∧ i < 4 → vP J (rbN i) = if i = (I 47 1 + I 47 2) % 4 then vP I oP else vP I (rbN i) := fun i q => by
    split
    · rename_i e
      rw [e, j2]
    · rename_i e
      exact vP_off hp (rbN_ok q).1 (fun z => e (rbN_inj hi q z).symm) j1
  rw [e1, e2]
  refine ⟨bdi (by omega), fun q => ⟨by omega, h _ (far _ _) ?_ ?_ (fun s s0 s1 => ?_)⟩, fun q => h _ (far _ _) ?_ ?_ (fun s s0 s1 => ?_)⟩
  · have : I 47 2 = 4 := by omega
    simp [sh_u, e2, nn4, this]
  · simp only [sh_u]
    omega
  · have h4 : I 47 2 = 4 := by omega
    rw [h4] at s1 ⊢
    have s4 : nn4 4 = 4 := by simp [nn4]
    rw [s4] at s1
    unfold nh
    rw [if_neg (by omega)]
    have e9 : sh_u J 47 1 ((I 47 1 + 1) % 4) 47 1 = (I 47 1 + 1) % 4 := by simp [sh_u]
    unfold hv
    rw [e9, vP_u47 (rbN_ok (by omega)).1, ring _ (by omega)]
    by_cases e : s = 3
    · rw [if_pos e, if_pos (by omega)]
    · rw [if_neg e, if_neg (by omega)]
      congr 2
      omega
  · simp [sh_u, nn4, q]
  · have : sh_u J 47 2 (I 47 2 + 1) 47 1 = I 47 1 := by simp [sh_u, e1]
    omega
  · have s4 : nn4 (I 47 2) = I 47 2 + 1 := by simp [nn4, q]
    rw [s4] at s1
    unfold nh
    rw [if_pos q]
    have e9 : sh_u J 47 2 (I 47 2 + 1) 47 1 = I 47 1 := by simp [sh_u, e1]
    unfold hv
    rw [e9, vP_u47 (rbN_ok (by omega)).1, ring _ (by omega)]
    by_cases e : s = I 47 2
    · rw [if_pos e, if_pos (by omega)]
    · rw [if_neg e, if_neg (by omega)]
theorem s_takeOver {I J : sh_Mem} {Q : Int → sh_Mem → Prop} {f : Int × Vw} (hs : 0 ≤ I 47 2 ∧ I 47 2 ≤ 4) (ho : 0 ≤ I 47 1 ∧ I 47 1 < 4) (o : CSame I J) (ev : vP J oT = f.2) (hb : sh_Bd f.1) (h : PostC I f Q) : cc mX6_takeOver [.inr 1, .inl f.1] J (qi Q) := by
  have e1 : J 47 1 = I 47 1 := o 47 1 (by omega)
  have e2 : J 47 2 = I 47 2 := o 47 2 (by omega)
  have eP : vP J oP = vP I oP := o.vP isP_oP (by decide)
  refine eX6_takeOver ⟨hb, fun q => h J (Or.inl ⟨q, o⟩), fun q => s_recordP (by omega) (by omega) (fun K k1 k2 k3 k4 => s_copyFrom isP_oP isP_oT (by decide) (fun L l1 l2 => h L (Or.inr ⟨q, ?_, ?_, ?_, fun s s0 s1 => ?_, fun o' f' q' => ?_⟩)))⟩
  · rw [l2, ← ev]
    exact vP_same fun o' h1 h2 => k1 o' (by rw [oT_v] at h1 h2; omega)
  · rw [l1 47 (by rw [oP_v]; omega), k2, e2]
  · rw [l1 47 (by rw [oP_v]; omega)]
    exact k3
  · have eh : hv L s = hv K s := by
      unfold hv
      rw [l1 47 (by rw [oP_v]; omega)]
      exact vP_off isP_oP (rbN_ok (by omega)).1 (by rw [oP_v]; unfold rbN; omega) l1
    rw [eh, k4 s s0 (by rw [e2]; exact s1), e2, eP]
    unfold nh
    split
    · split
      · rfl
      · exact o.hvs s
    · split
      · rfl
      · exact o.hvs (s + 1)
  · rw [l1 o' (by rw [oP_v]; omega), k1 o' (by omega)]
    exact o o' f' (by omega)
