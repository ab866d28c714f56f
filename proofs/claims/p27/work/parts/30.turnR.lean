/-! ===== 30: the reference's turn, whole ===== -/
theorem raK_succ {v : Vw} {k : Int} (hk : 0 ≤ k) : acctK (restK v (k + 1)) (k + 1) = up (up (acctK (restK v k) k) 9 k (if 0 < v 9 k then v 9 k - 1 else 0)) 12 k (v 12 k + (if k = v 0 1 then 0 else 1)) := by
  rw [acctK_succ hk, restK_succ hk]
  funext j i
  simp only [up, acctK, restK]
  by_cases h : j = 12 ∧ i = k
  · rw [if_pos h, if_pos h]
    rfl
  · rw [if_neg h, if_neg h]
    by_cases h2 : j = 9 ∧ i = k
    · rw [if_neg (show ¬ (j = 12 ∧ 0 ≤ i ∧ i < k) by omega), if_pos h2, if_pos h2]
    · rw [if_neg h2]
      by_cases h3 : j = 12 ∧ 0 ≤ i ∧ i < k
      · rw [if_pos h3, if_pos h3, if_neg h2]
        rfl
      · rw [if_neg h3, if_neg h3, if_neg h2]
