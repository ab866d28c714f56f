theorem ci_id {y : sh_M} {as : List sh_V} {I : sh_Mem} {Q : Int → sh_Mem → Prop} (h : cc y as I (qi Q)) : cc y as I (qi fun v K => Q v K) := h
/-! the answers are small, and a state that is taken over is sound -/
theorem addF_other {v : Vw} {c x : Int} {j : Nat} {i : Int} (h1 : ¬ (6 ≤ j ∧ j ≤ 12)) (h2 : ¬ (j = 0 ∧ i = 6)) (h3 : ¬ (j = 0 ∧ i = 1)) : addF v c x j i = v j i := by
  unfold addF
  rw [if_neg (fun q => h1 q.2), if_neg h2, if_neg h3]
theorem addF_run {v : Vw} {c x : Int} {j : Nat} {s : Int} (b1 : 6 ≤ j) (b2 : j ≤ 12) : addF v c x j s = if s = v 0 6 then (if j = 6 then c else if j = 7 then x else if j = 8 then 4 else 0) else v j s := by
  unfold addF
  by_cases z : s = v 0 6
  · rw [if_pos ⟨z, b1, b2⟩, if_pos z]
  · rw [if_neg (fun q => z q.1), if_neg z, if_neg (by omega), if_neg (by omega)]
theorem addF_ok {v : Vw} {c x : Int} (hv : WF v) (hc : 0 ≤ c ∧ c < 100) (hx : 1 ≤ x ∧ x ≤ 5) (hm : v 0 6 < 6) (hf : ∀ s, isr v s → ¬ v 6 s = c) : WF (addF v c x) := by
  obtain ⟨h1, h2, h3, h4, h5, h6, h7, h8, h9⟩ := hv
  have e6 : addF v c x 0 6 = v 0 6 + 1 := by simp [addF]
  have e1 : addF v c x 0 1 = if v 0 1 = -5 then v 0 6 else v 0 1 := by simp [addF]
  have eo : ∀ (j : Nat) (i : Int), j ≤ 5 → ¬ (j = 0 ∧ i = 6) → ¬ (j = 0 ∧ i = 1) → addF v c x j i = v j i := fun j i a b c => addF_other (by omega) b c
  refine ⟨by rw [e6]; omega, ?_, fun s s0 s1 => ?_, fun s u s0 s1 u0 u1 e => ?_, fun l l0 l1 => ?_, ?_, ?_, ?_, ?_⟩
  · rw [e6, e1]
    right
    split <;> omega
  · rw [e6] at s1
    rw [addF_run (j := 6) (by omega) (by omega), addF_run (j := 7) (by omega) (by omega), addF_run (j := 8) (by omega) (by omega), addF_run (j := 9) (by omega) (by omega)]
    by_cases z : s = v 0 6
    · simp only [if_pos z]
      refine ⟨hc, hx, ?_, ?_⟩ <;> simp
    · simp only [if_neg z]
      exact h3 s s0 (by omega)
  · rw [e6] at s1 u1
    rw [addF_run (j := 6) (by omega) (by omega), addF_run (j := 6) (by omega) (by omega)] at e
    by_cases z : s = v 0 6
    · by_cases y : u = v 0 6
      · omega
      · rw [if_pos z, if_neg y] at e
        exact absurd e.symm (hf u ⟨u0, by omega⟩)
    · by_cases y : u = v 0 6
      · rw [if_neg z, if_pos y] at e
        exact absurd e (hf s ⟨s0, by omega⟩)
      · rw [if_neg z, if_neg y] at e
        exact h4 s u s0 (by omega) u0 (by omega) e
  · rw [eo 2 l (by omega) (by omega) (by omega), eo 3 l (by omega) (by omega) (by omega), eo 4 l (by omega) (by omega) (by omega), eo 5 l (by omega) (by omega) (by omega)]
    exact h5 l l0 l1
  · rw [eo 1 0 (by omega) (by omega) (by omega)]
    exact h6
  · rw [eo 1 1 (by omega) (by omega) (by omega)]
    exact h7
  · rw [eo 0 0 (by omega) (by omega) (by omega)]
    exact h8
  · rw [eo 0 2 (by omega) (by omega) (by omega), eo 0 0 (by omega) (by omega) (by omega)]
    exact h9
theorem comeF_ok {v : Vw} {c x : Int} (hv : WB v) : (-5 ≤ (comeF v c x).1 ∧ (comeF v c x).1 ≤ 9) ∧ WB (comeF v c x).2 ∧ ((comeF v c x).1 < 0 → (comeF v c x).2 = v) := by
  have hm := hv.1.many
  unfold comeF
  split
  · exact ⟨by simp, hv, fun _ => rfl⟩
  · split
    · exact ⟨by simp, hv, fun _ => rfl⟩
    · split
      · exact ⟨by simp, hv, fun _ => rfl⟩
      · split
        · exact ⟨by simp, hv, fun _ => rfl⟩
        · rename_i a1 a2 a3 a4
          have hf : ∀ s, isr v s → ¬ v 6 s = c := fun s hs e => a3 (fun z => by
            rw [st_is hv.1 hs e] at z
            have := hs.1
            omega)
          have e0 : addF v c x 0 0 = v 0 0 := addF_other (by omega) (by omega) (by omega)
          have e2 : addF v c x 0 2 = v 0 2 := addF_other (by omega) (by omega) (by omega)
          exact ⟨⟨by show -5 ≤ v 0 6; omega, by show v 0 6 ≤ 9; omega⟩, ⟨addF_ok hv.1 (by omega) (by omega) (by omega) hf, by show addF v c x 0 2 ≤ addF v c x 0 0; rw [e0, e2]; exact hv.2.1, by show addF v c x 0 0 ≤ 99999; rw [e0]; exact hv.2.2⟩, fun z => absurd z (by show ¬ v 0 6 < 0; omega)⟩
theorem headF_ok {v : Vw} {r d : Int} (hv : WB v) : (-5 ≤ (headF v r d).1 ∧ (headF v r d).1 ≤ 9) ∧ WB (headF v r d).2 ∧ ((headF v r d).1 < 0 → (headF v r d).2 = v) := by
  unfold headF
  split
  · exact ⟨by simp, hv, fun _ => rfl⟩
  · split
    · exact ⟨by simp, hv, fun _ => rfl⟩
    · split
      · exact ⟨by simp, hv, fun _ => rfl⟩
      · rename_i a1 a2 a3
        have hr : 0 ≤ r ∧ r < v 0 6 := Classical.byContradiction a1
        have hru := hv.1.run hr.1 hr.2
        refine ⟨⟨by show -5 ≤ v 8 r; omega, by show v 8 r ≤ 9; omega⟩, ⟨?_, hv.2.1, hv.2.2⟩, fun z => absurd z (by show ¬ v 8 r < 0; omega)⟩
        obtain ⟨h1, h2, h3, h4, h5, h6, h7, h8, h9⟩ := hv.1
        refine ⟨h1, h2, fun s s0 s1 => ⟨(h3 s s0 s1).1, (h3 s s0 s1).2.1, ?_, (h3 s s0 s1).2.2.2⟩, h4, h5, h6, h7, h8, h9⟩
        have e : up v 8 r (hw d) 8 s = if s = r then hw d else v 8 s := by simp [up]
        show 0 ≤ up v 8 r (hw d) 8 s ∧ up v 8 r (hw d) 8 s ≤ 4
        rw [e]
        split
        · unfold hw
          split <;> omega
        · exact (h3 s s0 s1).2.2.1
theorem lampU_ok {v : Vw} {j : Nat} {l x : Int} (hv : WB v) (hx : (j = 2 ∧ 0 ≤ x ∧ x ≤ 3) ∨ (j = 3 ∧ 1 ≤ x ∧ x ≤ 4) ∨ (j = 4 ∧ 0 ≤ x ∧ x ≤ 9) ∨ (j = 5 ∧ 0 ≤ x ∧ x ≤ 1)) : WB (up v j l x) := by
  obtain ⟨h1, h2, h3, h4, h5, h6, h7, h8, h9⟩ := hv.1
  have e : ∀ m, up v j m x j l = if l = m then x else v j l := fun m => by simp [up]
  rcases hx with ⟨rfl, b1, b2⟩ | ⟨rfl, b1, b2⟩ | ⟨rfl, b1, b2⟩ | ⟨rfl, b1, b2⟩
  · refine ⟨⟨h1, h2, h3, h4, fun m m0 m1 => ⟨?_, (h5 m m0 m1).2⟩, h6, h7, h8, h9⟩, hv.2.1, hv.2.2⟩
    have e : up v 2 l x 2 m = if m = l then x else v 2 m := by simp [up]
    have := (h5 m m0 m1).1
    rw [e]
    split <;> omega
  · refine ⟨⟨h1, h2, h3, h4, fun m m0 m1 => ⟨(h5 m m0 m1).1, ?_, (h5 m m0 m1).2.2⟩, h6, h7, h8, h9⟩, hv.2.1, hv.2.2⟩
    have e : up v 3 l x 3 m = if m = l then x else v 3 m := by simp [up]
    have := (h5 m m0 m1).2.1
    rw [e]
    split <;> omega
  · refine ⟨⟨h1, h2, h3, h4, fun m m0 m1 => ⟨(h5 m m0 m1).1, (h5 m m0 m1).2.1, ?_, (h5 m m0 m1).2.2.2⟩, h6, h7, h8, h9⟩, hv.2.1, hv.2.2⟩
    have e : up v 4 l x 4 m = if m = l then x else v 4 m := by simp [up]
    have := (h5 m m0 m1).2.2.1
    rw [e]
    split <;> omega
  · refine ⟨⟨h1, h2, h3, h4, fun m m0 m1 => ⟨(h5 m m0 m1).1, (h5 m m0 m1).2.1, (h5 m m0 m1).2.2.1, ?_⟩, h6, h7, h8, h9⟩, hv.2.1, hv.2.2⟩
    have e : up v 5 l x 5 m = if m = l then x else v 5 m := by simp [up]
    have := (h5 m m0 m1).2.2.2
    rw [e]
    split <;> omega
theorem lightF_ok {v : Vw} {l on : Int} (hv : WB v) (hon : 0 ≤ on ∧ on ≤ 1) : (-5 ≤ (lightF v l on).1 ∧ (lightF v l on).1 ≤ 9) ∧ WB (lightF v l on).2 ∧ ((lightF v l on).1 < 0 → (lightF v l on).2 = v) := by
  unfold lightF
  split
  · exact ⟨by simp, hv, fun _ => rfl⟩
  · split
    · exact ⟨by simp, hv, fun _ => rfl⟩
    · have hw : WB (up v 5 l on) := lampU_ok hv (by omega)
      have hbr := brn_in hw.1
      exact ⟨⟨by show -5 ≤ brn _; omega, by show brn _ ≤ 9; omega⟩, hw, fun z => absurd z (by show ¬ brn _ < 0; omega)⟩
theorem setLF_ok {v : Vw} {l w x : Int} (hv : WB v) : (-5 ≤ (setLF v l w x).1 ∧ (setLF v l w x).1 ≤ 9) ∧ WB (setLF v l w x).2 ∧ ((setLF v l w x).1 < 0 → (setLF v l w x).2 = v) := by
  unfold setLF
  split
  · exact ⟨by simp, hv, fun _ => rfl⟩
  · split
    · exact ⟨by simp, hv, fun _ => rfl⟩
    · split
      · exact ⟨by simp, hv, fun _ => rfl⟩
      · rename_i a1 a2 a3
        have hl : 0 ≤ l ∧ l < 3 := Classical.byContradiction a1
        have ho := Classical.byContradiction a2
        have hlw := hv.1.lampw hl
        have hb : 0 ≤ v (slj w) l ∧ v (slj w) l ≤ 9 := by
          unfold slj
          split
          · omega
          · split <;> omega
        refine ⟨⟨by show -5 ≤ v (slj w) l; omega, hb.2⟩, lampU_ok hv ?_, fun z => absurd z (by show ¬ v (slj w) l < 0; omega)⟩
        rcases ho with ⟨rfl, b⟩ | ⟨rfl, b⟩ | ⟨rfl, b⟩
        · exact Or.inl ⟨rfl, b⟩
        · exact Or.inr (Or.inl ⟨rfl, b⟩)
        · exact Or.inr (Or.inr (Or.inl ⟨rfl, b⟩))
theorem setF_ok {v : Vw} {w x : Int} (hv : WB v) : (-5 ≤ (setF v w x).1 ∧ (setF v w x).1 ≤ 9) ∧ WB (setF v w x).2 ∧ ((setF v w x).1 < 0 → (setF v w x).2 = v) := by
  unfold setF
  split
  · exact ⟨by simp, hv, fun _ => rfl⟩
  · split
    · exact ⟨by simp, hv, fun _ => rfl⟩
    · split
      · exact ⟨by simp, hv, fun _ => rfl⟩
      · rename_i a1 a2 a3
        obtain ⟨h1, h2, h3, h4, h5, h6, h7, h8, h9⟩ := hv.1
        have hz : w = 0 ∨ w = 1 := by omega
        have hb : 0 ≤ v 1 w ∧ v 1 w ≤ 9 := by
          rcases hz with rfl | rfl
          · exact h6
          · exact h7
        refine ⟨⟨by show -5 ≤ v 1 w; omega, hb.2⟩, ⟨⟨h1, h2, h3, h4, h5, ?_, ?_, h8, h9⟩, hv.2.1, hv.2.2⟩, fun z => absurd z (by show ¬ v 1 w < 0; omega)⟩
        · have e : up v 1 w x 1 0 = if 0 = w then x else v 1 0 := by simp [up]
          show 0 ≤ up v 1 w x 1 0 ∧ up v 1 w x 1 0 ≤ 9
          rw [e]
          split <;> omega
        · have e : up v 1 w x 1 1 = if 1 = w then x else v 1 1 := by simp [up]
          show 0 ≤ up v 1 w x 1 1 ∧ up v 1 w x 1 1 ≤ 9
          rw [e]
          split <;> omega
theorem tuN_tags {v : Vw} (hv : WF v) (ht : v 0 2 ≤ v 0 0) : ∀ n : Nat, v 0 0 + (n : Int) < 150000 → v 0 2 ≤ tuN v n 0 2 ∧ tuN v n 0 2 ≤ v 0 2 + (n : Int) := by
  intro n
  induction n with
  | zero => exact fun _ => ⟨Int.le_refl _, by simp [tuN]⟩
  | succ n ih =>
    intro hn
    obtain ⟨a, b, c, d⟩ := tuN_ok hv ht n (by omega)
    obtain ⟨a2, b2, c2, d2, e2⟩ := turnF_ok2 a d (by omega)
    have h1 := ih (by omega)
    have h2 := tgI_in (x := turnT (tuN v n))
    have e : tuN v (n + 1) 0 2 = tuN v n 0 2 + tgI (turnT (tuN v n)) := d2
    omega
theorem passF_ok {v : Vw} {t : Int} (hv : WB v) : (-5 ≤ (passF v t).1 ∧ (passF v t).1 ≤ 99) ∧ WB (passF v t).2 ∧ ((passF v t).1 < 0 → (passF v t).2 = v) := by
  unfold passF
  split
  · exact ⟨by simp, hv, fun _ => rfl⟩
  · split
    · exact ⟨by simp, hv, fun _ => rfl⟩
    · rename_i a1 a2
      have h00 := hv.1.2.2.2.2.2.2.2.1
      obtain ⟨a, b, c, d⟩ := tuN_ok hv.1 hv.2.1 t.toNat (by omega)
      have h1 := tuN_tags hv.1 hv.2.1 t.toNat (by omega)
      exact ⟨⟨by show -5 ≤ _ - _; omega, by show _ - _ ≤ 99; omega⟩, ⟨a, d, by show tuN v t.toNat 0 0 ≤ 99999; omega⟩, fun z => absurd z (by show ¬ (_ - _ < 0); omega)⟩
/-! the acts on both -/
theorem vM_of {I J : sh_Mem} (h : ∀ o, 119 ≤ o → J o = I o) : vM (J 120) = vM (I 120) := by rw [h 120 (by decide)]
