/-! ===== 26: a turn ===== -/
def goF (v : Vw) (r : Int) : Vw := if v 8 r = 4 then v else if nx (v 6 r) (v 8 r) = -5 ∨ ¬ st v (nx (v 6 r) (v 8 r)) = -5 then up v 0 4 (v 0 4 + 1) else up (up v 6 r (nx (v 6 r) (v 8 r))) 0 3 (v 0 3 + 1)
def goN (v : Vw) : Nat → Vw
  | 0 => v
  | n + 1 => goF (goN v n) (n : Int)
def tagF (v : Vw) (r : Int) : Vw := up (up (up (up (up v 10 r (v 10 r + 1)) 11 (v 0 1) (v 11 (v 0 1) + 1)) 9 (v 0 1) (v 1 0 + 1)) 0 1 r) 0 2 (v 0 2 + 1)
def restK (v : Vw) (k : Int) : Vw := fun j i => if j = 9 ∧ (0 ≤ i ∧ i < k) then (if 0 < v 9 i then v 9 i - 1 else 0) else v j i
def acctK (v : Vw) (k : Int) : Vw := fun j i => if j = 12 ∧ (0 ≤ i ∧ i < k) then v 12 i + (if i = v 0 1 then 0 else 1) else v j i
def restF (v : Vw) : Vw := acctK (restK v (v 0 6)) (v 0 6)
def swingK (v : Vw) (k : Int) : Vw := fun j i => if j = 2 ∧ (0 ≤ i ∧ i < k) ∧ ¬ v 4 i = 0 ∧ v 0 0 % v 4 i = 0 then (v 2 i + 1) % 4 else v j i
def spinK (v : Vw) (k : Int) : Vw := fun j i => if j = 6 ∧ (0 ≤ i ∧ i < k) then v 6 i % 10 * 10 + 9 - v 6 i / 10 else if j = 8 ∧ (0 ≤ i ∧ i < k) ∧ ¬ v 8 i = 4 then (v 8 i + 1) % 4 else v j i
def spinF (v : Vw) : Vw := up (spinK v (v 0 6)) 0 5 (v 0 5 + 1)
noncomputable def turnA (v : Vw) : Vw := if ca v = -5 then v else tagF v (ca v)
def turnB (v : Vw) : Vw := swingK (up (restF v) 0 0 (v 0 0 + 1)) 3
def turnC (v : Vw) : Vw := if ¬ v 1 1 = 0 ∧ v 0 0 % v 1 1 = 0 then spinF v else v
noncomputable def turnF (v : Vw) : Vw := turnC (turnB (turnA (goN v (v 0 6).toNat)))
/-- whether there is a tag in the turn -/
noncomputable def turnT (v : Vw) : Int := ca (goN v (v 0 6).toNat)
theorem nx_in {c d : Int} (h : 0 ≤ c ∧ c < 100) (hd : 0 ≤ d ∧ d < 4) (hn : ¬ nx c d = -5) : 0 ≤ nx c d ∧ nx c d < 100 := by
  rw [nx_te h hd] at hn ⊢
  split at hn
  · rename_i q
    rw [if_pos q]
    exact al_in h hd ⟨by omega, by omega⟩
  · exact absurd rfl hn
theorem WF_cell {v : Vw} {r t : Int} (hv : WF v) (hr : isr v r) (ht : 0 ≤ t ∧ t < 100) (hf : ∀ s, isr v s → ¬ v 6 s = t) : WF (up v 6 r t) := by
  obtain ⟨h1, h2, h3, h4, h5, h6, h7, h8, h9⟩ := hv
  have ec : ∀ s, up v 6 r t 6 s = if s = r then t else v 6 s := fun s => by simp [up]
  refine ⟨h1, h2, fun s s0 s1 => ⟨?_, (h3 s s0 s1).2⟩, fun s u s0 s1 u0 u1 e => ?_, h5, h6, h7, h8, h9⟩
  · rw [ec]
    split
    · exact ht
    · exact (h3 s s0 s1).1
  · rw [ec, ec] at e
    split at e
    · split at e
      · omega
      · exact absurd e.symm (hf u ⟨u0, u1⟩)
    · split at e
      · exact absurd e (hf s ⟨s0, s1⟩)
      · exact h4 s u s0 s1 u0 u1 e
theorem WF_sc {v : Vw} {k x : Int} (hv : WF v) (hk : k = 3 ∨ k = 4 ∨ k = 5) : WF (up v 0 k x) := by
  obtain ⟨h1, h2, h3, h4, h5, h6, h7, h8, h9⟩ := hv
  rcases hk with rfl | rfl | rfl <;> exact ⟨h1, h2, h3, h4, h5, h6, h7, h8, h9⟩
theorem goF_ok {v : Vw} {r : Int} (hv : WF v) (hr : isr v r) : WF (goF v r) ∧ goF v r 0 6 = v 0 6 ∧ goF v r 0 0 = v 0 0 ∧ goF v r 0 2 = v 0 2 := by
  unfold goF
  split
  · exact ⟨hv, rfl, rfl, rfl⟩
  · rename_i q1
    have hru := hv.run hr.1 hr.2
    split
    · exact ⟨WF_sc hv (by omega), rfl, rfl, rfl⟩
    · rename_i q
      have q2 : ¬ nx (v 6 r) (v 8 r) = -5 := fun z => q (Or.inl z)
      have q3 : st v (nx (v 6 r) (v 8 r)) = -5 := Classical.byContradiction fun z => q (Or.inr z)
      refine ⟨WF_sc (WF_cell hv hr (nx_in hru.1 (by omega) q2) (fun s hs e => ?_)) (by omega), rfl, rfl, rfl⟩
      rw [st_is hv hs e] at q3
      have := hs.1
      omega
theorem goN_ok {v : Vw} (hv : WF v) : ∀ n : Nat, (n : Int) ≤ v 0 6 → WF (goN v n) ∧ goN v n 0 6 = v 0 6 ∧ goN v n 0 0 = v 0 0 ∧ goN v n 0 2 = v 0 2 := by
  intro n
  induction n with
  | zero => exact fun _ => ⟨hv, rfl, rfl, rfl⟩
  | succ n ih =>
    intro hn
    obtain ⟨h1, h2, h3, h4⟩ := ih (by omega)
    obtain ⟨g1, g2, g3, g4⟩ := goF_ok (r := (n : Int)) h1 ⟨by omega, by omega⟩
    exact ⟨g1, g2.trans h2, g3.trans h3, g4.trans h4⟩
theorem CaIs.bd {v : Vw} {x : Int} (hv : WF v) (h : CaIs v x) : x = -5 ∨ (isr v x ∧ ¬ x = v 0 1) := by
  rcases h with ⟨h1, h2⟩ | ⟨h1, h2 | ⟨h2, h3, ⟨l, h4, h5⟩, h6⟩⟩
  · exact Or.inl h2
  · exact Or.inl h2.1
  · refine Or.inr ⟨h2, fun e => ?_⟩
    have := h5.1
    rw [e, di_self] at this
    omega
theorem tagF_ok {v : Vw} {r : Int} (hv : WF v) (hr : isr v r) (ht : v 0 2 ≤ v 0 0) : WF (tagF v r) ∧ tagF v r 0 6 = v 0 6 ∧ tagF v r 0 0 = v 0 0 := by
  obtain ⟨h1, h2, h3, h4, h5, h6, h7, h8, h9⟩ := hv
  unfold isr at hr
  refine ⟨⟨h1, Or.inr hr, fun s s0 s1 => ⟨(h3 s s0 s1).1, (h3 s s0 s1).2.1, (h3 s s0 s1).2.2.1, ?_⟩, h4, h5, h6, h7, h8, ?_⟩, rfl, rfl⟩
  · have e : tagF v r 9 s = if s = v 0 1 then v 1 0 + 1 else v 9 s := by simp [tagF, up]
    rw [e]
    split
    · omega
    · exact (h3 s s0 s1).2.2.2
  · have e : tagF v r 0 2 = v 0 2 + 1 := by simp [tagF, up]
    have e0 : tagF v r 0 0 = v 0 0 := rfl
    rw [e, e0]
    omega
theorem tagF_tags {v : Vw} {r : Int} : tagF v r 0 2 = v 0 2 + 1 := by simp [tagF, up]
theorem turnA_ok {v : Vw} (hv : WF v) (ht : v 0 2 ≤ v 0 0) (hc : CaIs v (ca v)) : WF (turnA v) ∧ turnA v 0 6 = v 0 6 ∧ turnA v 0 0 = v 0 0 ∧ turnA v 0 2 = v 0 2 + (if ca v = -5 then 0 else 1) := by
  unfold turnA
  split
  · exact ⟨hv, rfl, rfl, by omega⟩
  · rename_i q
    rcases hc.bd hv with z | z
    · exact absurd z q
    · obtain ⟨a, b, c⟩ := tagF_ok hv z.1 ht
      exact ⟨a, b, c, tagF_tags⟩
theorem restK_ok {v : Vw} {k : Int} (hv : WF v) : WF (restK v k) := by
  obtain ⟨h1, h2, h3, h4, h5, h6, h7, h8, h9⟩ := hv
  refine ⟨h1, h2, fun s s0 s1 => ⟨(h3 s s0 s1).1, (h3 s s0 s1).2.1, (h3 s s0 s1).2.2.1, ?_⟩, h4, h5, h6, h7, h8, h9⟩
  have e : restK v k 9 s = if 0 ≤ s ∧ s < k then (if 0 < v 9 s then v 9 s - 1 else 0) else v 9 s := by simp [restK]
  have h := (h3 s s0 s1).2.2.2
  rw [e]
  split
  · split <;> omega
  · exact h
theorem acctK_ok {v : Vw} {k : Int} (hv : WF v) : WF (acctK v k) := hv
theorem restF_ok {v : Vw} (hv : WF v) : WF (restF v) ∧ restF v 0 6 = v 0 6 ∧ restF v 0 0 = v 0 0 ∧ restF v 0 2 = v 0 2 := ⟨acctK_ok (restK_ok hv), rfl, rfl, rfl⟩
theorem turn1_ok {v : Vw} (hv : WF v) (h : v 0 0 < 149999) : WF (up v 0 0 (v 0 0 + 1)) := by
  obtain ⟨h1, h2, h3, h4, h5, h6, h7, h8, h9⟩ := hv
  have e : up v 0 0 (v 0 0 + 1) 0 0 = v 0 0 + 1 := by simp [up]
  refine ⟨h1, h2, h3, h4, h5, h6, h7, by rw [e]; omega, ?_⟩
  rw [e]
  show 0 ≤ v 0 2 ∧ v 0 2 ≤ _
  omega
theorem swingK_ok {v : Vw} {k : Int} (hv : WF v) : WF (swingK v k) := by
  obtain ⟨h1, h2, h3, h4, h5, h6, h7, h8, h9⟩ := hv
  refine ⟨h1, h2, h3, h4, fun l l0 l1 => ⟨?_, (h5 l l0 l1).2⟩, h6, h7, h8, h9⟩
  have e : swingK v k 2 l = if (0 ≤ l ∧ l < k) ∧ ¬ v 4 l = 0 ∧ v 0 0 % v 4 l = 0 then (v 2 l + 1) % 4 else v 2 l := by simp [swingK]
  have h := (h5 l l0 l1).1
  rw [e]
  split
  · omega
  · exact h
theorem spinK_ok {v : Vw} (hv : WF v) : WF (spinK v (v 0 6)) := by
  obtain ⟨h1, h2, h3, h4, h5, h6, h7, h8, h9⟩ := hv
  have e6 : ∀ s, 0 ≤ s → s < v 0 6 → spinK v (v 0 6) 6 s = v 6 s % 10 * 10 + 9 - v 6 s / 10 := fun s a b => by simp [spinK, a, b]
  refine ⟨h1, h2, fun s s0 s1 => ⟨?_, (h3 s s0 s1).2.1, ?_, (h3 s s0 s1).2.2.2⟩, fun s u s0 s1 u0 u1 e => ?_, h5, h6, h7, h8, h9⟩
  · rw [e6 s s0 s1]
    have := (h3 s s0 s1).1
    omega
  · have e8 : spinK v (v 0 6) 8 s = if (0 ≤ s ∧ s < v 0 6) ∧ ¬ v 8 s = 4 then (v 8 s + 1) % 4 else v 8 s := by simp [spinK]
    have := (h3 s s0 s1).2.2.1
    rw [e8]
    split <;> omega
  · rw [e6 s s0 s1, e6 u u0 u1] at e
    have a := (h3 s s0 s1).1
    have b := (h3 u u0 u1).1
    exact h4 s u s0 s1 u0 u1 (by omega)
theorem turnB_ok {v : Vw} (hv : WF v) (h : v 0 0 < 149999) : WF (turnB v) ∧ turnB v 0 6 = v 0 6 ∧ turnB v 0 0 = v 0 0 + 1 ∧ turnB v 0 2 = v 0 2 := by
  have h1 := restF_ok hv
  have e : turnB v 0 0 = v 0 0 + 1 := by simp [turnB, swingK, up]
  exact ⟨swingK_ok (turn1_ok h1.1 h), rfl, e, rfl⟩
theorem turnC_ok {v : Vw} (hv : WF v) : WF (turnC v) ∧ turnC v 0 6 = v 0 6 ∧ turnC v 0 0 = v 0 0 ∧ turnC v 0 2 = v 0 2 := by
  unfold turnC
  split
  · exact ⟨WF_sc (spinK_ok hv) (by omega), rfl, rfl, rfl⟩
  · exact ⟨hv, rfl, rfl, rfl⟩
theorem turnF_ok {v : Vw} (hv : WF v) (ht : v 0 2 ≤ v 0 0) (h : v 0 0 < 149999) (hc : CaIs (goN v (v 0 6).toNat) (turnT v)) : WF (turnF v) ∧ turnF v 0 6 = v 0 6 ∧ turnF v 0 0 = v 0 0 + 1 ∧ turnF v 0 2 = v 0 2 + (if turnT v = -5 then 0 else 1) ∧ turnF v 0 2 ≤ turnF v 0 0 := by
  obtain ⟨a1, a2, a3, a4⟩ := goN_ok hv (v 0 6).toNat (by have := hv.1; omega)
  obtain ⟨b1, b2, b3, b4⟩ := turnA_ok a1 (by omega) hc
  obtain ⟨c1, c2, c3, c4⟩ := turnB_ok b1 (by omega)
  obtain ⟨d1, d2, d3, d4⟩ := turnC_ok c1
  have e2 : turnF v 0 2 = v 0 2 + (if turnT v = -5 then 0 else 1) := by
    rw [show turnF v 0 2 = turnC (turnB (turnA (goN v (v 0 6).toNat))) 0 2 from rfl, d4, c4, b4, a4]
    rfl
  have e0 : turnF v 0 0 = v 0 0 + 1 := by
    rw [show turnF v 0 0 = turnC (turnB (turnA (goN v (v 0 6).toNat))) 0 0 from rfl, d3, c3, b3, a3]
  refine ⟨d1, ?_, e0, e2, ?_⟩
  · rw [show turnF v 0 6 = turnC (turnB (turnA (goN v (v 0 6).toNat))) 0 6 from rfl, d2, c2, b2, a2]
  · rw [e2, e0]
    split <;> omega
