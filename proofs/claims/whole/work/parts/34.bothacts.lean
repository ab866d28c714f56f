/-! ===== 34: the acts, called on both ===== -/
def Both (mc mm : sh_M) (args : List sh_V) (I : sh_Mem) : Prop := ∀ Q : Int → Int → sh_Mem → Prop, (∀ r K, Inv K → K 0 = I 0 → Q r r K) → cc mc (.inr 1 :: args) I (qi fun r1 J => J 0 = I 0 ∧ cc mm (.inr 119 :: args) J (qi fun r2 K => Q r1 r2 K))
theorem Inv.wb {I : sh_Mem} (h : Inv I) : WB (vM (I 120)) := h.1.2
theorem Inv.eq {I : sh_Mem} (h : Inv I) : vP I oP = vM (I 120) := h.1.1
theorem Inv.st {I : sh_Mem} (h : Inv I) : (0 ≤ I 119 2 ∧ I 119 2 ≤ 4) ∧ (0 ≤ I 47 2 ∧ I 47 2 ≤ 4) ∧ (0 ≤ I 47 1 ∧ I 47 1 < 4) := by
  obtain ⟨-, -, -, ⟨d1, d2, d3, d4⟩, -⟩ := h
  omega
theorem both_act {mc mm : sh_M} {args : List sh_V} {I : sh_Mem} {f : Int × Vw} (hI : Inv I) (hb : sh_Bd f.1) (hw : 0 ≤ f.1 → WB f.2) (hc : ∀ Q, PostC I f Q → cc mc (.inr 1 :: args) I (qi Q)) (hm : ∀ J Q, (∀ o, 119 ≤ o → J o = I o) → PostM J f Q → cc mm (.inr 119 :: args) J (qi Q)) : Both mc mm args I := by
  intro Q h
  refine hc _ (fun J hJ => ?_)
  have hJ1 : ∀ o, (o = 0 ∨ 119 ≤ o) → J o = I o := fun o ho => by
    funext k
    rcases hJ with ⟨-, z⟩ | ⟨-, z⟩
    · exact z o k (by omega)
    · exact z.2.2.2.2 o k (by omega)
  refine ⟨hJ1 0 (by omega), hm J _ (fun o ho => hJ1 o (by omega)) (fun K hK => ?_)⟩
  have h0 : K 0 = I 0 := by
    rw [← hJ1 0 (by omega)]
    funext k
    rcases hK with ⟨-, z⟩ | ⟨-, z⟩
    · exact z.2 0 k (by omega)
    · exact z.2.2.2 0 k (by omega)
  refine h _ K ?_ h0
  rcases hJ with ⟨z1, z2⟩ | ⟨z1, z2⟩ <;> rcases hK with ⟨y1, y2⟩ | ⟨y1, y2⟩
  · exact inv_same hI z2 y2
  · omega
  · omega
  · exact inv_take hI (hw z1) z2 y2
/-- an act of the class that is tried on its second platform -/
theorem c_try {y : sh_M} {as : List sh_V} {I : sh_Mem} {f : Int × Vw} {Q : Int → sh_Mem → Prop} (hI : Inv I) (hb : sh_Bd f.1) (h : PostC I f Q) (k : ∀ J, vP J oT = vM (I 120) → PA oT J (fun v K => cc mX6_takeOver [.inr 1, .inl v] K (qi Q)) f → cc y as J (qi fun v K => cc mX6_takeOver [.inr 1, .inl v] K (qi Q))) : cc mX4_copyFrom [.inr oT, .inr oP] I (qv fun J => cc y as J (qi fun v K => cc mX6_takeOver [.inr 1, .inl v] K (qi Q))) :=
  s_copyFrom isP_oT isP_oP (by decide) (fun J j1 j2 => k J (by rw [j2]; exact hI.eq) (fun K k1 k2 => s_takeOver hI.st.2.1 hI.st.2.2 (CSame.off (j1.tr k1)) k2 hb h))
theorem r_try {y : sh_M} {as : List sh_V} {I : sh_Mem} {f : Int × Vw} {Q : Int → sh_Mem → Prop} (hs : 0 ≤ I 119 2 ∧ I 119 2 ≤ 4) (hb : sh_Bd f.1) (herr : f.1 < 0 → f.2 = vM (I 120)) (h : PostM I f Q) (k : ∀ J, vM (J 120) = vM (I 120) → RA J (fun v K => cc mX7_acted [.inr 119, .inl v] K (qi Q)) f → cc y as J (qi fun v K => cc mX7_acted [.inr 119, .inl v] K (qi Q))) : cc mX7_putAside [.inr 119] I (qv fun J => cc y as J (qi fun v K => cc mX7_acted [.inr 119, .inl v] K (qi Q))) :=
  r_putAside (fun J j1 j2 => k J (by rw [j1 120 (by decide)]) (fun K k1 k2 => r_acted (I := I) hs (fun o f' q => by
    by_cases z : o = 119
    · subst z
      rw [k1.2 f' (by omega) (by omega), j1 119 (by decide)]
    · rw [k1.1 o z (by omega) (by omega), j1 o (by omega)]) (by rw [k1.1 123 (by decide) (by decide) (by decide)]; exact j2) k2 herr hb h))
theorem ci_id {y : sh_M} {as : List sh_V} {I : sh_Mem} {Q : Int → sh_Mem → Prop} (h : cc y as I (qi Q)) : cc y as I (qi fun v K => Q v K) := h
/-! the answers are small, and a state that is taken over is sound -/
theorem addF_other {v : Vw} {c x : Int} {j : Nat} {i : Int} (h1 : ¬ (6 ≤ j ∧ j ≤ 12)) (h2 : ¬ (j = 0 ∧ i = 6)) (h3 : ¬ (j = 0 ∧ i = 1)) : addF v c x j i = v j i := by
  unfold addF
  rw [if_neg (fun q => h1 q.2), if_neg h2, if_neg h3]
theorem addF_run {v : Vw} {c x : Int} {j : Nat} {s : Int} (b1 : 6 ≤ j) (b2 : j ≤ 12) : addF v c x j s = if s = v 0 6 then (if j = 6 then c else if j = 7 then x else if j = 8 then 4 else 0) else v j s := by
  unfold addF
  by_cases z : s = v 0 6
  · rw [if_pos ⟨z, b1, b2⟩, if_pos z]
  · rw [if_neg (fun q => z q.1), if_neg z, if_neg (by omega), if_neg (by omega)]
theorem addF_ok {v : Vw} {c x : Int} (hv : WF v) (hc : 0 ≤ c ∧ c < 100) (hx : 1 ≤ x ∧ x ≤ 5) (hm : v 0 6 < 6) (hf : ∀ s, isr v s → ¬ v 6 s = c) : WF (addF v c x) := by
  obtain ⟨h1, h2, h3, h4, h5, h6, h7, h8, h9⟩ := hv
  have e6 : addF v c x 0 6 = v 0 6 + 1 := by simp [addF]
  have e1 : addF v c x 0 1 = if v 0 1 = -5 then v 0 6 else v 0 1 := by simp [addF]
  have eo : ∀ (j : Nat) (i : Int), j ≤ 5 → ¬ (j = 0 ∧ i = 6) → ¬ (j = 0 ∧ i = 1) → addF v c x j i = v j i := fun j i a b c => addF_other (by omega) b c
  refine ⟨by rw [e6]; omega, ?_, fun s s0 s1 => ?_, fun s u s0 s1 u0 u1 e => ?_, fun l l0 l1 => ?_, ?_, ?_, ?_, ?_⟩
  · rw [e6, e1]
    right
    split <;> omega
  · rw [e6] at s1
    rw [addF_run (j := 6) (by omega) (by omega), addF_run (j := 7) (by omega) (by omega), addF_run (j := 8) (by omega) (by omega), addF_run (j := 9) (by omega) (by omega)]
    by_cases z : s = v 0 6
    · simp only [if_pos z]
      refine ⟨hc, hx, ?_, ?_⟩ <;> simp
    · simp only [if_neg z]
      exact h3 s s0 (by omega)
  · rw [e6] at s1 u1
    rw [addF_run (j := 6) (by omega) (by omega), addF_run (j := 6) (by omega) (by omega)] at e
    by_cases z : s = v 0 6
    · by_cases y : u = v 0 6
      · omega
      · rw [if_pos z, if_neg y] at e
        exact absurd e.symm (hf u ⟨u0, by omega⟩)
    · by_cases y : u = v 0 6
      · rw [if_neg z, if_pos y] at e
        exact absurd e (hf s ⟨s0, by omega⟩)
      · rw [if_neg z, if_neg y] at e
        exact h4 s u s0 (by omega) u0 (by omega) e
  · rw [eo 2 l (by omega) (by omega) (by omega), eo 3 l (by omega) (by omega) (by omega), eo 4 l (by omega) (by omega) (by omega), eo 5 l (by omega) (by omega) (by omega)]
    exact h5 l l0 l1
  · rw [eo 1 0 (by omega) (by omega) (by omega)]
    exact h6
  · rw [eo 1 1 (by omega) (by omega) (by omega)]
    exact h7
  · rw [eo 0 0 (by omega) (by omega) (by omega)]
    exact h8
  · rw [eo 0 2 (by omega) (by omega) (by omega), eo 0 0 (by omega) (by omega) (by omega)]
    exact h9
theorem comeF_ok {v : Vw} {c x : Int} (hv : WB v) : (-5 ≤ (comeF v c x).1 ∧ (comeF v c x).1 ≤ 9) ∧ WB (comeF v c x).2 ∧ ((comeF v c x).1 < 0 → (comeF v c x).2 = v) := by
  have hm := hv.1.many
  unfold comeF
  split
  · exact ⟨by simp, hv, fun _ => rfl⟩
  · split
    · exact ⟨by simp, hv, fun _ => rfl⟩
    · split
      · exact ⟨by simp, hv, fun _ => rfl⟩
      · split
        · exact ⟨by simp, hv, fun _ => rfl⟩
        · rename_i a1 a2 a3 a4
          have hf : ∀ s, isr v s → ¬ v 6 s = c := fun s hs e => a3 (fun z => by
            rw [st_is hv.1 hs e] at z
            have := hs.1
            omega)
          have e0 : addF v c x 0 0 = v 0 0 := addF_other (by omega) (by omega) (by omega)
          have e2 : addF v c x 0 2 = v 0 2 := addF_other (by omega) (by omega) (by omega)
          exact ⟨⟨by show -5 ≤ v 0 6; omega, by show v 0 6 ≤ 9; omega⟩, ⟨addF_ok hv.1 (by omega) (by omega) (by omega) hf, by show addF v c x 0 2 ≤ addF v c x 0 0; rw [e0, e2]; exact hv.2.1, by show addF v c x 0 0 ≤ 99999; rw [e0]; exact hv.2.2⟩, fun z => absurd z (by show ¬ v 0 6 < 0; omega)⟩
theorem headF_ok {v : Vw} {r d : Int} (hv : WB v) : (-5 ≤ (headF v r d).1 ∧ (headF v r d).1 ≤ 9) ∧ WB (headF v r d).2 ∧ ((headF v r d).1 < 0 → (headF v r d).2 = v) := by
  unfold headF
  split
  · exact ⟨by simp, hv, fun _ => rfl⟩
  · split
    · exact ⟨by simp, hv, fun _ => rfl⟩
    · split
      · exact ⟨by simp, hv, fun _ => rfl⟩
      · rename_i a1 a2 a3
        have hr : 0 ≤ r ∧ r < v 0 6 := Classical.byContradiction a1
        have hru := hv.1.run hr.1 hr.2
        refine ⟨⟨by show -5 ≤ v 8 r; omega, by show v 8 r ≤ 9; omega⟩, ⟨?_, hv.2.1, hv.2.2⟩, fun z => absurd z (by show ¬ v 8 r < 0; omega)⟩
        obtain ⟨h1, h2, h3, h4, h5, h6, h7, h8, h9⟩ := hv.1
        refine ⟨h1, h2, fun s s0 s1 => ⟨(h3 s s0 s1).1, (h3 s s0 s1).2.1, ?_, (h3 s s0 s1).2.2.2⟩, h4, h5, h6, h7, h8, h9⟩
        have e : up v 8 r (hw d) 8 s = if s = r then hw d else v 8 s := by simp [up]
        show 0 ≤ up v 8 r (hw d) 8 s ∧ up v 8 r (hw d) 8 s ≤ 4
        rw [e]
        split
        · unfold hw
          split <;> omega
        · exact (h3 s s0 s1).2.2.1
theorem lampU_ok {v : Vw} {j : Nat} {l x : Int} (hv : WB v) (hx : (j = 2 ∧ 0 ≤ x ∧ x ≤ 3) ∨ (j = 3 ∧ 1 ≤ x ∧ x ≤ 4) ∨ (j = 4 ∧ 0 ≤ x ∧ x ≤ 9) ∨ (j = 5 ∧ 0 ≤ x ∧ x ≤ 1)) : WB (up v j l x) := by
  obtain ⟨h1, h2, h3, h4, h5, h6, h7, h8, h9⟩ := hv.1
  have e : ∀ m, up v j m x j l = if l = m then x else v j l := fun m => by simp [up]
  rcases hx with ⟨rfl, b1, b2⟩ | ⟨rfl, b1, b2⟩ | ⟨rfl, b1, b2⟩ | ⟨rfl, b1, b2⟩
  · refine ⟨⟨h1, h2, h3, h4, fun m m0 m1 => ⟨?_, (h5 m m0 m1).2⟩, h6, h7, h8, h9⟩, hv.2.1, hv.2.2⟩
    have e : up v 2 l x 2 m = if m = l then x else v 2 m := by simp [up]
    have := (h5 m m0 m1).1
    rw [e]
    split <;> omega
  · refine ⟨⟨h1, h2, h3, h4, fun m m0 m1 => ⟨(h5 m m0 m1).1, ?_, (h5 m m0 m1).2.2⟩, h6, h7, h8, h9⟩, hv.2.1, hv.2.2⟩
    have e : up v 3 l x 3 m = if m = l then x else v 3 m := by simp [up]
    have := (h5 m m0 m1).2.1
    rw [e]
    split <;> omega
  · refine ⟨⟨h1, h2, h3, h4, fun m m0 m1 => ⟨(h5 m m0 m1).1, (h5 m m0 m1).2.1, ?_, (h5 m m0 m1).2.2.2⟩, h6, h7, h8, h9⟩, hv.2.1, hv.2.2⟩
    have e : up v 4 l x 4 m = if m = l then x else v 4 m := by simp [up]
    have := (h5 m m0 m1).2.2.1
    rw [e]
    split <;> omega
  · refine ⟨⟨h1, h2, h3, h4, fun m m0 m1 => ⟨(h5 m m0 m1).1, (h5 m m0 m1).2.1, (h5 m m0 m1).2.2.1, ?_⟩, h6, h7, h8, h9⟩, hv.2.1, hv.2.2⟩
    have e : up v 5 l x 5 m = if m = l then x else v 5 m := by simp [up]
    have := (h5 m m0 m1).2.2.2
    rw [e]
    split <;> omega
theorem lightF_ok {v : Vw} {l on : Int} (hv : WB v) (hon : 0 ≤ on ∧ on ≤ 1) : (-5 ≤ (lightF v l on).1 ∧ (lightF v l on).1 ≤ 9) ∧ WB (lightF v l on).2 ∧ ((lightF v l on).1 < 0 → (lightF v l on).2 = v) := by
  unfold lightF
  split
  · exact ⟨by simp, hv, fun _ => rfl⟩
  · split
    · exact ⟨by simp, hv, fun _ => rfl⟩
    · have hw : WB (up v 5 l on) := lampU_ok hv (by omega)
      have hbr := brn_in hw.1
      exact ⟨⟨by show -5 ≤ brn _; omega, by show brn _ ≤ 9; omega⟩, hw, fun z => absurd z (by show ¬ brn _ < 0; omega)⟩
theorem setLF_ok {v : Vw} {l w x : Int} (hv : WB v) : (-5 ≤ (setLF v l w x).1 ∧ (setLF v l w x).1 ≤ 9) ∧ WB (setLF v l w x).2 ∧ ((setLF v l w x).1 < 0 → (setLF v l w x).2 = v) := by
  unfold setLF
  split
  · exact ⟨by simp, hv, fun _ => rfl⟩
  · split
    · exact ⟨by simp, hv, fun _ => rfl⟩
    · split
      · exact ⟨by simp, hv, fun _ => rfl⟩
      · rename_i a1 a2 a3
        have hl : 0 ≤ l ∧ l < 3 := Classical.byContradiction a1
        have ho := Classical.byContradiction a2
        have hlw := hv.1.lampw hl
        have hb : 0 ≤ v (slj w) l ∧ v (slj w) l ≤ 9 := by
          unfold slj
          split
          · omega
          · split <;> omega
        refine ⟨⟨by show -5 ≤ v (slj w) l; omega, hb.2⟩, lampU_ok hv ?_, fun z => absurd z (by show ¬ v (slj w) l < 0; omega)⟩
        rcases ho with ⟨rfl, b⟩ | ⟨rfl, b⟩ | ⟨rfl, b⟩
        · exact Or.inl ⟨rfl, b⟩
        · exact Or.inr (Or.inl ⟨rfl, b⟩)
        · exact Or.inr (Or.inr (Or.inl ⟨rfl, b⟩))
theorem setF_ok {v : Vw} {w x : Int} (hv : WB v) : (-5 ≤ (setF v w x).1 ∧ (setF v w x).1 ≤ 9) ∧ WB (setF v w x).2 ∧ ((setF v w x).1 < 0 → (setF v w x).2 = v) := by
  unfold setF
  split
  · exact ⟨by simp, hv, fun _ => rfl⟩
  · split
    · exact ⟨by simp, hv, fun _ => rfl⟩
    · split
      · exact ⟨by simp, hv, fun _ => rfl⟩
      · rename_i a1 a2 a3
        obtain ⟨h1, h2, h3, h4, h5, h6, h7, h8, h9⟩ := hv.1
        have hz : w = 0 ∨ w = 1 := by omega
        have hb : 0 ≤ v 1 w ∧ v 1 w ≤ 9 := by
          rcases hz with rfl | rfl
          · exact h6
          · exact h7
        refine ⟨⟨by show -5 ≤ v 1 w; omega, hb.2⟩, ⟨⟨h1, h2, h3, h4, h5, ?_, ?_, h8, h9⟩, hv.2.1, hv.2.2⟩, fun z => absurd z (by show ¬ v 1 w < 0; omega)⟩
        · have e : up v 1 w x 1 0 = if 0 = w then x else v 1 0 := by simp [up]
          show 0 ≤ up v 1 w x 1 0 ∧ up v 1 w x 1 0 ≤ 9
          rw [e]
          split <;> omega
        · have e : up v 1 w x 1 1 = if 1 = w then x else v 1 1 := by simp [up]
          show 0 ≤ up v 1 w x 1 1 ∧ up v 1 w x 1 1 ≤ 9
          rw [e]
          split <;> omega
theorem tuN_tags {v : Vw} (hv : WF v) (ht : v 0 2 ≤ v 0 0) : ∀ n : Nat, v 0 0 + (n : Int) < 150000 → v 0 2 ≤ tuN v n 0 2 ∧ tuN v n 0 2 ≤ v 0 2 + (n : Int) := by
  intro n
  induction n with
  | zero => exact fun _ => ⟨Int.le_refl _, by simp [tuN]⟩
  | succ n ih =>
    intro hn
    obtain ⟨a, b, c, d⟩ := tuN_ok hv ht n (by omega)
    obtain ⟨a2, b2, c2, d2, e2⟩ := turnF_ok2 a d (by omega)
    have h1 := ih (by omega)
    have h2 := tgI_in (x := turnT (tuN v n))
    have e : tuN v (n + 1) 0 2 = tuN v n 0 2 + tgI (turnT (tuN v n)) := d2
    omega
theorem passF_ok {v : Vw} {t : Int} (hv : WB v) : (-5 ≤ (passF v t).1 ∧ (passF v t).1 ≤ 99) ∧ WB (passF v t).2 ∧ ((passF v t).1 < 0 → (passF v t).2 = v) := by
  unfold passF
  split
  · exact ⟨by simp, hv, fun _ => rfl⟩
  · split
    · exact ⟨by simp, hv, fun _ => rfl⟩
    · rename_i a1 a2
      have h00 := hv.1.2.2.2.2.2.2.2.1
      obtain ⟨a, b, c, d⟩ := tuN_ok hv.1 hv.2.1 t.toNat (by omega)
      have h1 := tuN_tags hv.1 hv.2.1 t.toNat (by omega)
      exact ⟨⟨by show -5 ≤ _ - _; omega, by show _ - _ ≤ 99; omega⟩, ⟨a, d, by show tuN v t.toNat 0 0 ≤ 99999; omega⟩, fun z => absurd z (by show ¬ (_ - _ < 0); omega)⟩
/-! the acts on both -/
theorem vM_of {I J : sh_Mem} (h : ∀ o, 119 ≤ o → J o = I o) : vM (J 120) = vM (I 120) := by rw [h 120 (by decide)]
theorem st_of {I J : sh_Mem} (hI : Inv I) (h : ∀ o, 119 ≤ o → J o = I o) : 0 ≤ J 119 2 ∧ J 119 2 ≤ 4 := by
  rw [h 119 (by decide)]
  exact hI.st.1
theorem b_come {I : sh_Mem} {c x : Int} (hI : Inv I) (hc : sh_Bd c) (hx : sh_Bd x) : Both mX6_come mX7_come [.inl c, .inl x] I := by
  obtain ⟨o1, o2, o3⟩ := comeF_ok (c := c) (x := x) hI.wb
  have hb : sh_Bd (comeF (vM (I 120)) c x).1 := bdi (by omega)
  refine both_act hI hb (fun _ => o2) (fun Q h => eX6_come (c_try hI hb h (fun J j1 j2 => s_welcome isP_oT j1 hI.wb.1 hc hx j2))) (fun J Q hJ h => eX7_come (r_try (st_of hI hJ) hb (fun z => by rw [o3 z, vM_of hJ]) h (fun K k1 k2 => r_comeNow (k1.trans (vM_of hJ)) hI.wb.1 hc hx k2)))
theorem b_head {I : sh_Mem} {c x : Int} (hI : Inv I) (hc : sh_Bd c) (hx : sh_Bd x) : Both mX6_head mX7_head [.inl c, .inl x] I := by
  obtain ⟨o1, o2, o3⟩ := headF_ok (r := c) (d := x) hI.wb
  have hb : sh_Bd (headF (vM (I 120)) c x).1 := bdi (by omega)
  refine both_act hI hb (fun _ => o2) (fun Q h => eX6_head (c_try hI hb h (fun J j1 j2 => s_steer isP_oT j1 hI.wb.1 hc hx j2))) (fun J Q hJ h => eX7_head (r_try (st_of hI hJ) hb (fun z => by rw [o3 z, vM_of hJ]) h (fun K k1 k2 => r_headNow (k1.trans (vM_of hJ)) hI.wb.1 hc hx k2)))
theorem b_setLamp {I : sh_Mem} {l w x : Int} (hI : Inv I) (hl : sh_Bd l) (hw : sh_Bd w) (hx : sh_Bd x) : Both mX6_setLamp mX7_setLamp [.inl l, .inl w, .inl x] I := by
  obtain ⟨o1, o2, o3⟩ := setLF_ok (l := l) (w := w) (x := x) hI.wb
  have hb : sh_Bd (setLF (vM (I 120)) l w x).1 := bdi (by omega)
  refine both_act hI hb (fun _ => o2) (fun Q h => eX6_setLamp (c_try hI hb h (fun J j1 j2 => s_adjust isP_oT j1 hI.wb.1 hl hw hx j2))) (fun J Q hJ h => eX7_setLamp (r_try (st_of hI hJ) hb (fun z => by rw [o3 z, vM_of hJ]) h (fun K k1 k2 => r_setLampNow (k1.trans (vM_of hJ)) hI.wb.1 hl hw hx k2)))
theorem b_set {I : sh_Mem} {w x : Int} (hI : Inv I) (hw : sh_Bd w) (hx : sh_Bd x) : Both mX6_set mX7_set [.inl w, .inl x] I := by
  obtain ⟨o1, o2, o3⟩ := setF_ok (w := w) (x := x) hI.wb
  have hb : sh_Bd (setF (vM (I 120)) w x).1 := bdi (by omega)
  refine both_act hI hb (fun _ => o2) (fun Q h => eX6_set (c_try hI hb h (fun J j1 j2 => s_settings isP_oT j1 hI.wb.1 hw hx j2))) (fun J Q hJ h => eX7_set (r_try (st_of hI hJ) hb (fun z => by rw [o3 z, vM_of hJ]) h (fun K k1 k2 => r_setNow (k1.trans (vM_of hJ)) hI.wb.1 hw hx k2)))
theorem b_pass {I : sh_Mem} {t : Int} (hI : Inv I) (ht : sh_Bd t) : Both mX6_pass mX7_pass [.inl t] I := by
  obtain ⟨o1, o2, o3⟩ := passF_ok (t := t) hI.wb
  have hb : sh_Bd (passF (vM (I 120)) t).1 := bdi (by omega)
  refine both_act hI hb (fun _ => o2) (fun Q h => eX6_pass (c_try hI hb h (fun J j1 j2 => s_pass isP_oT j1 hI.wb ht j2))) (fun J Q hJ h => eX7_pass (r_try (st_of hI hJ) hb (fun z => by rw [o3 z, vM_of hJ]) h (fun K k1 k2 => r_pass (k1.trans (vM_of hJ)) hI.wb ht k2)))
theorem b_light {I : sh_Mem} {l on : Int} (hI : Inv I) (hl : sh_Bd l) (hon : on = 0 ∨ on = 1) : Both mX6_light mX7_light [.inl l, .inl on] I := by
  obtain ⟨o1, o2, o3⟩ := lightF_ok (l := l) (on := on) hI.wb (by omega)
  have hb : sh_Bd (lightF (vM (I 120)) l on).1 := bdi (by omega)
  refine both_act hI hb (fun _ => o2) (fun Q h => eX6_light (s_copyFrom isP_oT isP_oP (by decide) (fun J j1 j2 => ?_))) (fun J Q hJ h => eX7_light (r_putAside (fun K k1 k2 => ?_)))
  · have j3 : vP J oT = vM (I 120) := by rw [j2]; exact hI.eq
    have fin : ∀ K, Off oT J K → vP K oT = (lightF (vM (I 120)) l on).2 → cc mX6_takeOver [.inr 1, .inl (lightF (vM (I 120)) l on).1] K (qi Q) := fun K k1 k2 => s_takeOver hI.st.2.1 hI.st.2.2 (CSame.off (j1.tr k1)) k2 hb h
    refine ⟨bdi (by omega), fun q => ?_, fun q => ?_⟩
    · subst q
      exact s_switchTo isP_oT j3 hI.wb.1 hl (by decide) (fun K k1 k2 => fin K k1 k2)
    · have q1 : on = 1 := by omega
      subst q1
      exact s_switchTo isP_oT j3 hI.wb.1 hl (by decide) (fun K k1 k2 => fin K k1 k2)
  · have k3 : vM (K 120) = vM (I 120) := by rw [k1 120 (by decide)]; exact vM_of hJ
    have fin : ∀ L, MT K L → vM (L 120) = (lightF (vM (I 120)) l on).2 → cc mX7_acted [.inr 119, .inl (lightF (vM (I 120)) l on).1] L (qi Q) := fun L l1 l2 => r_acted (I := J) (st_of hI hJ) (fun o f' q => by
      by_cases z : o = 119
      · subst z
        rw [l1.2 f' (by omega) (by omega), k1 119 (by decide)]
      · rw [l1.1 o z (by omega) (by omega), k1 o (by omega)]) (by rw [l1.1 123 (by decide) (by decide) (by decide)]; exact k2) l2 (fun z => by rw [o3 z, vM_of hJ]) hb h
    refine ⟨bdi (by omega), fun q => ?_, fun q => ?_⟩
    · subst q
      exact r_lightNow k3 hI.wb.1 hl (by decide) (fun L l1 l2 => fin L l1 l2)
    · have q1 : on = 1 := by omega
      subst q1
      exact r_lightNow k3 hI.wb.1 hl (by decide) (fun L l1 l2 => fin L l1 l2)
