/-! ===== 41: the safest runner ===== -/
noncomputable def vl (v : Vw) (r : Int) : Int := @ite Int (sgh v r) (Classical.propDecidable _) (if wy v r = -5 then 100 else wy v r) 100
noncomputable def sfN (v : Vw) : Nat → Int × Int
  | 0 => (-5, -1)
  | n + 1 => if (n : Int) = v 0 1 then sfN v n else if (sfN v n).2 < vl v n then ((n : Int), vl v n) else sfN v n
theorem vl_yes {v : Vw} {r : Int} (h : sgh v r) : vl v r = if wy v r = -5 then 100 else wy v r := by unfold vl; rw [if_pos h]
theorem vl_no {v : Vw} {r : Int} (h : ¬ sgh v r) : vl v r = 100 := by unfold vl; rw [if_neg h]
def sfI (v : Vw) (n : Nat) : Prop := ((sfN v n).1 = -5 ∧ (sfN v n).2 = -1) ∨ ((0 ≤ (sfN v n).1 ∧ (sfN v n).1 < (n : Int)) ∧ 0 ≤ (sfN v n).2 ∧ (sfN v n).2 ≤ 100)
theorem sf_skip {v : Vw} {n : Nat} (h : (n : Int) = v 0 1) (i : sfI v n) : sfN v (n + 1) = sfN v n ∧ sfI v (n + 1) := by
  have e : sfN v (n + 1) = sfN v n := by
    show (if (n : Int) = v 0 1 then sfN v n else _) = _
    rw [if_pos h]
  refine ⟨e, ?_⟩
  unfold sfI at i ⊢
  rw [e]
  omega
theorem sf_take {v : Vw} {n : Nat} (h : ¬ (n : Int) = v 0 1) (g : (sfN v n).2 < vl v n) (b : 0 ≤ vl v n ∧ vl v n ≤ 100) : sfN v (n + 1) = ((n : Int), vl v n) ∧ sfI v (n + 1) := by
  have e : sfN v (n + 1) = ((n : Int), vl v n) := by
    show (if (n : Int) = v 0 1 then sfN v n else if (sfN v n).2 < vl v n then ((n : Int), vl v n) else sfN v n) = _
    rw [if_neg h, if_pos g]
  refine ⟨e, ?_⟩
  unfold sfI
  rw [e]
  exact Or.inr ⟨⟨by omega, by show (n : Int) < _; omega⟩, b⟩
theorem sf_keep {v : Vw} {n : Nat} (h : ¬ (n : Int) = v 0 1) (g : ¬ (sfN v n).2 < vl v n) (i : sfI v n) : sfN v (n + 1) = sfN v n ∧ sfI v (n + 1) := by
  have e : sfN v (n + 1) = sfN v n := by
    show (if (n : Int) = v 0 1 then sfN v n else if (sfN v n).2 < vl v n then ((n : Int), vl v n) else sfN v n) = _
    rw [if_neg h, if_neg g]
  refine ⟨e, ?_⟩
  unfold sfI at i ⊢
  rw [e]
  omega
theorem s_stepsFar {x : Int} {I : sh_Mem} {Q : Int → sh_Mem → Prop} {v : Vw} (ev : vP I oP = v) (hv : WF v) (hr : isr v x) (h : ∀ J, BO I J → 0 ≤ vl v x ∧ vl v x ≤ 100 → Q (vl v x) J) : cc mX6_stepsOrFarthest [.inr 1, .inl x] I (qi Q) := by
  have hr6 := isr_bd hv hr
  refine eX6_stepsOrFarthest (s_stepsTo ev hv (bdi (by omega)) (fun q => absurd hr q) (fun _ hs => ⟨bd_lit (by decide), fun q => absurd q (by decide), fun _ => ?_⟩) (fun _ hs J hJ hb => ?_))
  · have := h I BO.rf (by rw [vl_no hs]; omega)
    rw [vl_no hs] at this
    exact this
  · have hq := h J hJ (by
      rw [vl_yes hs]
      split <;> omega)
    rw [vl_yes hs] at hq
    refine ⟨bdi (by omega), fun q => ?_, fun q => ?_⟩
    · rw [if_neg (by omega)] at hq
      exact hq
    · rw [if_pos (by omega)] at hq
      exact hq
