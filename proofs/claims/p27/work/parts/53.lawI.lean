/-! ===== 53: the accounts, and a runner comes ===== -/
theorem sumC {f g : Int → Int} : ∀ n : Nat, (∀ i, 0 ≤ i → i < (n : Int) → f i = g i) → sumN f n = sumN g n := by
  intro n
  induction n with
  | zero => exact fun _ => rfl
  | succ n ih =>
    intro h
    show sumN f n + f (n : Int) = sumN g n + g (n : Int)
    rw [ih (fun i a b => h i a (by omega)), h (n : Int) (by omega) (by omega)]
theorem sum1 {f : Int → Int} {a : Int} : ∀ n : Nat, sumN (fun i => f i + (if i = a then 1 else 0)) n = sumN f n + (if 0 ≤ a ∧ a < (n : Int) then 1 else 0) := by
  intro n
  induction n with
  | zero => rw [if_neg (by omega)]; rfl
  | succ n ih =>
    show sumN (fun i => f i + (if i = a then 1 else 0)) n + (f (n : Int) + (if (n : Int) = a then 1 else 0)) = sumN f n + f (n : Int) + _
    rw [ih]
    split <;> split <;> split <;> omega
theorem AC.same {v w : Vw} (h : AC v) (h0 : w 0 0 = v 0 0) (h6 : w 0 6 = v 0 6) (h10 : ∀ r, w 10 r = v 10 r) (h11 : ∀ r, w 11 r = v 11 r) (h12 : ∀ r, w 12 r = v 12 r) : AC w := by
  refine ⟨fun r hr => ?_, ?_⟩
  · rw [h12, h0]
    exact h.1 r ⟨hr.1, by rw [← h6]; exact hr.2⟩
  · rw [h6, sumC (g := fun r => v 10 r - v 11 r) _ (fun i _ _ => by rw [h10, h11])]
    exact h.2
theorem AC_goF {v : Vw} {r : Int} (h : AC v) : AC (goF v r) := by
  unfold goF
  split
  · exact h
  · split
    · exact h.same (by simp [up]) (by simp [up]) (fun i => by simp [up]) (fun i => by simp [up]) (fun i => by simp [up])
    · exact h.same (by simp [up]) (by simp [up]) (fun i => by simp [up]) (fun i => by simp [up]) (fun i => by simp [up])
theorem AC_goN {v : Vw} (h : AC v) : ∀ n : Nat, AC (goN v n)
  | 0 => h
  | n + 1 => AC_goF (AC_goN h n)
theorem AC_tagF {v : Vw} {r : Int} (h : AC v) (hm : 0 ≤ v 0 6) (hr : isr v r) (hc : isr v (v 0 1)) : AC (tagF v r) := by
  have e6 : tagF v r 0 6 = v 0 6 := by simp [tagF, up]
  have e0 : tagF v r 0 0 = v 0 0 := by simp [tagF, up]
  have e12 : ∀ i, tagF v r 12 i = v 12 i := fun i => by simp [tagF, up]
  have e10 : ∀ i, tagF v r 10 i = v 10 i + (if i = r then 1 else 0) := fun i => by
    by_cases z : i = r <;> simp [tagF, up, z]
  have e11 : ∀ i, tagF v r 11 i = v 11 i + (if i = v 0 1 then 1 else 0) := fun i => by
    by_cases z : i = v 0 1 <;> simp [tagF, up, z]
  refine ⟨fun i hi => ?_, ?_⟩
  · rw [e12, e0]
    exact h.1 i ⟨hi.1, by rw [← e6]; exact hi.2⟩
  · rw [e6]
    have s1 := sum1 (f := fun i => tagF v r 10 i - tagF v r 11 i) (a := v 0 1) (v 0 6).toNat
    have s2 := sum1 (f := fun i => v 10 i - v 11 i) (a := r) (v 0 6).toNat
    rw [if_pos ⟨hc.1, by have := hc.2; omega⟩] at s1
    rw [if_pos ⟨hr.1, by have := hr.2; omega⟩, h.2] at s2
    have s3 : sumN (fun i => tagF v r 10 i - tagF v r 11 i + (if i = v 0 1 then 1 else 0)) (v 0 6).toNat = sumN (fun i => v 10 i - v 11 i + (if i = r then 1 else 0)) (v 0 6).toNat := sumC _ (fun i _ _ => by
      show tagF v r 10 i - tagF v r 11 i + _ = v 10 i - v 11 i + _
      rw [e10, e11]
      omega)
    omega
theorem AC_turnB {v : Vw} (h : AC v) : AC (turnB v) := by
  have e6 : turnB v 0 6 = v 0 6 := by simp [turnB, swingK, restF, acctK, restK, up]
  have e0 : turnB v 0 0 = v 0 0 + 1 := by simp [turnB, swingK, up]
  have e10 : ∀ i, turnB v 10 i = v 10 i := fun i => by simp [turnB, swingK, restF, acctK, restK, up]
  have e11 : ∀ i, turnB v 11 i = v 11 i := fun i => by simp [turnB, swingK, restF, acctK, restK, up]
  have e12 : ∀ i, 0 ≤ turnB v 12 i - v 12 i ∧ turnB v 12 i - v 12 i ≤ 1 := fun i => by
    have : turnB v 12 i = if (0 ≤ i ∧ i < v 0 6) then v 12 i + (if i = v 0 1 then 0 else 1) else v 12 i := by simp [turnB, swingK, restF, acctK, restK, up]
    rw [this]
    split
    · split <;> omega
    · omega
  refine ⟨fun i hi => ?_, ?_⟩
  · have h1 := h.1 i ⟨hi.1, by rw [← e6]; exact hi.2⟩
    have h2 := e12 i
    omega
  · rw [e6, sumC (g := fun r => v 10 r - v 11 r) _ (fun i _ _ => by rw [e10, e11])]
    exact h.2
theorem AC_turnC {v : Vw} (h : AC v) : AC (turnC v) := by
  unfold turnC
  split
  · exact h.same (by simp [spinF, spinK, up]) (by simp [spinF, spinK, up]) (fun i => by simp [spinF, spinK, up]) (fun i => by simp [spinF, spinK, up]) (fun i => by simp [spinF, spinK, up])
  · exact h
theorem AC_turn {v : Vw} (hv : WF v) (h : AC v) : AC (turnF v) := by
  have hm := hv.many
  obtain ⟨a1, a2, a3, a4⟩ := goN_ok hv (v 0 6).toNat (by omega)
  have hc : CaIs (goN v (v 0 6).toNat) (ca (goN v (v 0 6).toNat)) := turnT_ok hv
  have hA := AC_goN h (v 0 6).toNat
  refine AC_turnC (AC_turnB ?_)
  unfold turnA
  split
  · exact hA
  · rename_i z
    rcases hc.bd a1 with q | q
    · exact absurd q z
    · refine AC_tagF hA (by omega) q.1 ?_
      rcases a1.2.1 with w | w
      · have := q.1.1
        have := q.1.2
        omega
      · exact w
theorem AC_tuN {v : Vw} (hv : WF v) (ht : v 0 2 ≤ v 0 0) (h : AC v) : ∀ n : Nat, v 0 0 + (n : Int) < 150000 → AC (tuN v n) := by
  intro n
  induction n with
  | zero => exact fun _ => h
  | succ n ih =>
    intro hn
    exact AC_turn (tuN_ok hv ht n (by omega)).1 (ih (by omega))
theorem AC_add {v : Vw} {p x : Int} (hm : 0 ≤ v 0 6) (ha : 0 ≤ v 0 0) (h : AC v) : AC (addF v p x) := by
  have e6 : addF v p x 0 6 = v 0 6 + 1 := by simp [addF]
  have e0 : addF v p x 0 0 = v 0 0 := by simp [addF]
  have er : ∀ (j : Nat) (i : Int), 10 ≤ j → j ≤ 12 → addF v p x j i = if i = v 0 6 then 0 else v j i := fun j i j1 j2 => by
    rw [addF_run (by omega) j2, if_neg (show ¬ j = 6 by omega), if_neg (show ¬ j = 7 by omega), if_neg (show ¬ j = 8 by omega)]
  refine ⟨fun i hi => ?_, ?_⟩
  · rw [er 12 i (by decide) (by decide), e0]
    split
    · omega
    · exact h.1 i ⟨hi.1, by have := hi.2; omega⟩
  · rw [e6, show (v 0 6 + 1).toNat = (v 0 6).toNat + 1 by omega]
    show sumN _ (v 0 6).toNat + _ = 0
    have s1 : sumN (fun r => addF v p x 10 r - addF v p x 11 r) (v 0 6).toNat = sumN (fun r => v 10 r - v 11 r) (v 0 6).toNat := sumC _ (fun i _ b => by
      show addF v p x 10 i - addF v p x 11 i = v 10 i - v 11 i
      rw [er 10 i (by decide) (by decide), er 11 i (by decide) (by decide), if_neg (by omega), if_neg (by omega)])
    rw [s1, h.2]
    show 0 + (addF v p x 10 ((v 0 6).toNat : Int) - addF v p x 11 ((v 0 6).toNat : Int)) = 0
    rw [er 10 _ (by decide) (by decide), er 11 _ (by decide) (by decide), if_pos (by omega), if_pos (by omega)]
    rfl
/-- an act of the class; the law's arrays stay -/
theorem Act.law {I : sh_Mem} {y : sh_M} {as : List sh_V} {f : Int × Vw} {v : Vw} {T : Int → sh_Mem → Prop} (a : Act y as I f) (hI : CI I v) (hw : WB f.2) (hf : f.1 < 0 → f.2 = v) (h : ∀ J, CI (mxM J I) f.2 → (∀ k, k = 0 ∨ 119 ≤ k → mxM J I k = I k) → T f.1 J) : cc y (.inr 1 :: as) I (qi T) :=
  a T (fun K hK => by
    rcases hK with ⟨h1, h2⟩ | ⟨h1, h2⟩
    · refine h K ?_ (fun z hz => ?_)
      · rw [hf h1]
        exact hI.mx h2
      · by_cases q : z < 119
        · rw [mx_lt q]
          exact h2.far hz
        · exact mx_ge (by omega)
    · refine h K ((hI.take hw h2).off (fun z hz => mx_lt hz)) (fun z hz => ?_)
      by_cases q : z < 119
      · rw [mx_lt q]
        exact h2.far hz
      · exact mx_ge (by omega))
/-- class and law after an act, where they stood in the state v before -/
def Wd (G L N : Nat) (I : sh_Mem) (v : Vw) (K : sh_Mem) (w : Vw) : Prop := CI K w ∧ LV K G L N w ∧ K 0 = I 0 ∧ AC w ∧ w 0 0 ≤ v 0 0 + 40 ∧ 1 ≤ w 0 6
theorem LV.wn8 {I : sh_Mem} {G L N : Nat} {v : Vw} (d : ap G L N) (e : LV I G L N v) {x : Int} (hx : ¬ x = 0) : LV (sh_u I N 8 x) G L N (fun a i => if a = 0 ∧ i = 6 then x else if a = 0 ∧ i = 1 then I N 1 else v a i) := by
  unfold LV
  rw [sh_u_ne d.2.1, sh_u_ne d.2.2, sh_u_self, ← e]
  funext a i
  show _ = if a = 0 ∧ i = 6 then x else if a = 0 ∧ i = 1 then I N 1 else vL (I G) (I L) (I N) a i
  by_cases hd : 0 ≤ i ∧ i < szv a
  · rw [vL_in hd, vL_in hd]
    by_cases a0 : a = 0
    · subst a0
      have hz : i < 7 := hd.2
      by_cases i1 : i = 1
      · subst i1
        simp [hx]
      · by_cases i6 : i = 6
        · subst i6
          simp
        · have i8 : ¬ i = 8 := by omega
          simp [i1, i6, i8]
    · by_cases a1 : a = 1
      · subst a1
        have hz : i < 2 := hd.2
        have i8 : ¬ 6 + i = 8 := by omega
        simp [i8]
      · simp [a0, a1]
  · have h6 : ¬ (a = 0 ∧ i = 6) := by
      rintro ⟨rfl, rfl⟩
      exact hd ⟨by decide, by decide⟩
    have h1 : ¬ (a = 0 ∧ i = 1) := by
      rintro ⟨rfl, rfl⟩
      exact hd ⟨by decide, by decide⟩
    unfold vL
    rw [if_neg hd, if_neg h6, if_neg h1, if_neg hd]
