/-! ===== 50: the flood ===== -/
/-- how far the flood says that a cell is: 0 not yet, one more than the steps -/
def fl (K : sh_Mem) (A B : Nat) (p : Int) : Int := if p < 50 then K A p else K B (p - 50)
def Ff (K : sh_Mem) (A B : Nat) (p : Int) : Int := if fl K A B p = 0 then -5 else fl K A B p - 1
theorem Rc_100 {v : Vw} (hv : WF v) (hr : isr v (v 0 1)) {c : Int} : ∀ n, Rc v n c → Rc v 99 c := by
  have key : ∀ s : Nat, (∃ t : Nat, t ≤ s ∧ ∀ q, Rc v (t + 1) q → Rc v t q) ∨ cntN (fun q => ¬ Rc v s q) 100 + (s : Int) ≤ 99 := by
    intro s
    induction s with
    | zero =>
      right
      have hcc := hv.cell hr.1 hr.2
      have h1 := cntN_lt (P := fun _ => True) (P' := fun q => ¬ Rc v 0 q) (c := v 6 (v 0 1)) trivial (fun z => z rfl) 100 (fun _ _ _ _ => trivial) hcc.1 hcc.2
      have h2 := (cntN_in (P := fun _ => True) 100).2
      omega
    | succ s ih =>
      rcases ih with ⟨t, h1, h2⟩ | h1
      · exact Or.inl ⟨t, by omega, h2⟩
      · by_cases hs : ∀ q, Rc v (s + 1) q → Rc v s q
        · exact Or.inl ⟨s, by omega, hs⟩
        · right
          have hex : ∃ q, Rc v (s + 1) q ∧ ¬ Rc v s q := Classical.byContradiction fun z => hs (fun q hq => Classical.byContradiction fun w => z ⟨q, hq, w⟩)
          obtain ⟨q, h3, h4⟩ := hex
          have hq := Rc_in hv hr _ h3
          have h5 := cntN_lt (P := fun r => ¬ Rc v s r) (P' := fun r => ¬ Rc v (s + 1) r) (c := q) h4 (fun z => z h3) 100 (fun r _ _ hn hp => hn (Or.inl hp)) hq.1 hq.2
          omega
  intro n hn
  rcases key 99 with ⟨t, h1, h2⟩ | h1
  · exact Rc_mono (Rc_stop h2 n c hn) h1
  · have hc := Rc_in hv hr n hn
    refine Classical.byContradiction fun z => ?_
    have h3 := (cntN_pos (P := fun q => ¬ Rc v 99 q) 100).2 ⟨c, hc, z⟩
    omega
theorem t_steps {c : sh_Cx} (hx : cx c) {G L N : Nat} (hG : dy c G 42) (hL : dy c L 12) (hN : dy c N 9) {x : Int} {I : sh_Mem} {Q : Int → sh_Mem → Prop} {v : Vw} (e : LV I G L N v) (hv : WF v) (hi : isr v x) (hr : isr v (v 0 1)) (h : ∀ K, (∀ o, o < c.1 → K o = I o) → (wy v x = -5 ∨ 0 ≤ wy v x) ∧ wy v x ≤ 99 → Q (wy v x) K) : cl c mL_steps [.inr G, .inr L, .inr N, .inl x] I (li c Q) := by
  have hcc := hv.cell hr.1 hr.2
  have hr6 := isr_bd hv hr
  have hm := hv.many
  have hn0 : ¬ v 0 6 = 0 := by
    have := hr.1
    have := hr.2
    omega
  have hA : dy (cp (cp c 50) 50) c.1 50 := (dy.top hx.1 (by decide)).push
  have hB : dy (cp (cp c 50) 50) (cp c 50).1 50 := dy.top (cx.push (N := 50) hx).1 (by decide)
  have hAB : ¬ c.1 = (cp c 50).1 := by
    show ¬ c.1 = c.1 + 1
    omega
  have hB1 : ¬ (cp c 50).1 < c.1 := by
    show ¬ c.1 + 1 < c.1
    omega
  have hx2 : cx (cp (cp c 50) 50) := (cx.push (N := 50) (cx.push (N := 50) hx))
  have hG2 : dy (cp (cp c 50) 50) G 42 := hG.push.push
  have hL2 : dy (cp (cp c 50) 50) L 12 := hL.push.push
  have hN2 : dy (cp (cp c 50) 50) N 9 := hN.push.push
  have he : ext c (cp (cp c 50) 50) := ext.push (ext.push ext.rf)
  have st0 : ∀ o, o < c.1 → sh_cl (sh_cl I c.1) (cp c 50).1 o = I o := fun o ho => by
    rw [sh_cl_lt (by omega), sh_cl_lt (by omega)]
  have zA : ∀ f, sh_cl (sh_cl I c.1) (cp c 50).1 c.1 f = 0 := fun f => by rw [sh_cl_lt hAB, sh_cl_self]
  have zB : ∀ f, sh_cl (sh_cl I c.1) (cp c 50).1 (cp c 50).1 f = 0 := fun f => sh_cl_self
  have lG := hG.lt
  have lL := hL.lt
  have lN := hN.lt
  refine eL_steps hx hG hL hN ?_
  generalize sh_cl (sh_cl I c.1) (cp c 50).1 = I1 at *
  have hA1 : ¬ c.1 < c.1 := by omega
  generalize hm0 : c.1 = m0 at *
  generalize (cp c 50).1 = B at *
  generalize cp (cp c 50) 50 = d at *
  -- the arrays A and B
  have e1 : LV I1 G L N v := e.same (st0 G lG) (st0 L lL) (st0 N lN)
  have lv : ∀ K, (∀ o, o < m0 → K o = I o) → LV K G L N v := fun K o1 => e.same (o1 G lG) (o1 L lL) (o1 N lN)
  have putA : ∀ {K : sh_Mem} {f y : Int}, (∀ o, o < m0 → K o = I o) → ∀ o, o < m0 → sh_u K m0 f y o = I o := fun o1 o ho => by rw [sh_u_ne (by omega)]; exact o1 o ho
  have putB : ∀ {K : sh_Mem} {f y : Int}, (∀ o, o < m0 → K o = I o) → ∀ o, o < m0 → sh_u K B f y o = I o := fun o1 o ho => by rw [sh_u_ne (by omega)]; exact o1 o ho
  have fin : ∀ (K : sh_Mem) (r : Int), (∀ o, o < m0 → K o = I o) → WayIs v x r → r ≤ 99 → Q r K := fun K r o1 hw hb => by
    have := h K o1 (by rw [way_is hw]; exact ⟨way_sgn hw, hb⟩)
    rw [way_is hw] at this
    exact this
  -- what the flood holds in the middle of a layer
  have fb : ∀ (K : sh_Mem) (s : Nat) (a b p : Int), s ≤ 99 → Mid (Ff K m0 B) v s a b → (∀ q, 0 ≤ q → q < 100 → 0 ≤ fl K m0 B q) → 0 ≤ p → p < 100 → 0 ≤ fl K m0 B p ∧ fl K m0 B p ≤ 102 := fun K s a b p hs hM hpos p0 p1 => by
    have h1 := hpos p p0 p1
    have h2 := hM p p0 p1
    unfold Ff at h2
    refine ⟨h1, ?_⟩
    split at h2
    · omega
    · rcases h2 with ⟨z, -⟩ | ⟨k, z, k2, -⟩ | ⟨z, -⟩ <;> omega
  have layer : ∀ (s : Nat), s ≤ 99 → (∀ j, j < s → ∀ q, Rc v j q → ¬ ish v x q) → (∀ (K : sh_Mem), (∀ o, o < m0 → K o = I o) → (∀ q, 0 ≤ q → q < 100 → 0 ≤ fl K m0 B q) → FarIs (Ff K m0 B) v (s + 1) → (∀ j, j < s + 1 → ∀ q, Rc v j q → ¬ ish v x q) → kl d (2, 100) mL_steps 65 [some (.inr G), some (.inr L), some (.inr N), some (.inl x), some (.inr m0), some (.inr B), none, some (.inl ((s : Int) + 1)), none, none, none] [] K (qli c Q)) →
      ∀ (n : Nat) (a : Int) (K : sh_Mem), 0 ≤ a → a + (n : Int) = 100 → (∀ o, o < m0 → K o = I o) → (∀ q, 0 ≤ q → q < 100 → 0 ≤ fl K m0 B q) → Mid (Ff K m0 B) v s a 0 → (∀ q, 0 ≤ q → q < a → ex v s q → ¬ ish v x q) → kl d (2, 100) mL_steps 75 [some (.inr G), some (.inr L), some (.inr N), some (.inl x), some (.inr m0), some (.inr B), none, some (.inl (s : Int)), some (.inl a), none, none] [] K (qli c Q) := by
    intro s hs hND nx1 n
    induction n with
    | zero =>
      intro a K a0 ga o1 hpos hM hsc
      have ea : a = 100 := by omega
      subst ea
      refine lL_steps_75 hx2 hG2 hL2 hN2 he hA hB ⟨bdi (by omega), fun _ => nx1 K o1 hpos (far_end hv hr hM) (fun j hj q hq => ?_), fun q => absurd q (by omega)⟩
      by_cases z : j < s
      · exact hND j z q hq
      · have ej : j = s := by omega
        rw [ej] at hq
        obtain ⟨k, k1, k2⟩ := ex_of s hq
        by_cases w : k = s
        · rw [w] at k2
          have hin := Rc_in hv hr _ hq
          exact hsc q hin.1 hin.2 k2
        · exact hND k (by omega) q k2.1
    | succ n ih =>
      intro a K a0 ga o1 hpos hM hsc
      have ha : 0 ≤ a ∧ a < 100 := by omega
      have hfa := fb K s a 0 a hs hM hpos ha.1 ha.2
      -- behind the four directions
      have dirs : ∀ (m : Nat) (b : Int) (K : sh_Mem), 0 ≤ b → b + (m : Int) = 4 → (∀ o, o < m0 → K o = I o) → (∀ q, 0 ≤ q → q < 100 → 0 ≤ fl K m0 B q) → Mid (Ff K m0 B) v s a b → ex v s a → ¬ ish v x a → kl d (2, 100) mL_steps 130 [some (.inr G), some (.inr L), some (.inr N), some (.inl x), some (.inr m0), some (.inr B), none, some (.inl (s : Int)), some (.inl a), some (.inl b), none] [] K (qli c Q) := by
        intro m
        induction m with
        | zero =>
          intro b K b0 gb o1 hpos hM hex hns
          have eb : b = 4 := by omega
          subst eb
          refine lL_steps_130 hx2 hG2 hL2 hN2 he hA hB ⟨bdi (by omega), fun _ => ih (a + 1) K (by omega) (by omega) o1 hpos (mid_next hM) (fun q q0 q1 hq => ?_), fun q => absurd q (by omega)⟩
          by_cases z : q = a
          · rw [z]
            exact hns
          · exact hsc q q0 (by omega) hq
        | succ m ih2 =>
          intro b K b0 gb o1 hpos hM hex hns
          have eK := lv K o1
          have hnx : nx a b = -5 ∨ (0 ≤ nx a b ∧ nx a b < 100) := by
            by_cases z : nx a b = -5
            · exact Or.inl z
            · exact Or.inr (nx_in ha ⟨b0, by omega⟩ z)
          have hsb := st_bd hv (nx a b)
          have skip : (nx a b = -5 ∨ (¬ Ff K m0 B (nx a b) = -5) ∨ ¬ st v (nx a b) = -5) → kl d (2, 100) mL_steps 130 [some (.inr G), some (.inr L), some (.inr N), some (.inl x), some (.inr m0), some (.inr B), none, some (.inl (s : Int)), some (.inl a), some (.inl (b + 1)), none] [] K (qli c Q) := fun q => ih2 (b + 1) K (by omega) (by omega) o1 hpos (mid_step hM q) hex hns
          refine lL_steps_130 hx2 hG2 hL2 hN2 he hA hB ⟨bdi (by omega), fun q => absurd q (by omega), fun _ => t_beside hx2 ha ⟨b0, by omega⟩ ⟨bdi (by omega), fun q => skip (Or.inl (by omega)), fun q => t_who hx2 hG2 hN2 eK hv (bdi (by omega)) ⟨Or.inr ⟨bdi (by omega), bd_lit (by decide)⟩, fun q2 => skip (Or.inr (Or.inr q2)), fun q2 => ?_⟩⟩⟩
          generalize ht : nx a b = t at *
          have t1 : 0 ≤ t ∧ t < 100 := by omega
          have hft := fb K s a b t hs hM hpos t1.1 t1.2
          -- the cell t is new, or it was reached
          have new : fl K m0 B t = 0 → ∀ K2 : sh_Mem, (∀ o, o < m0 → K2 o = I o) → (∀ q, 0 ≤ q → q < 100 → fl K2 m0 B q = if q = t then (s : Int) + 2 else fl K m0 B q) → kl d (2, 100) mL_steps 130 [some (.inr G), some (.inr L), some (.inr N), some (.inl x), some (.inr m0), some (.inr B), none, some (.inl (s : Int)), some (.inl a), some (.inl (b + 1)), none] [] K2 (qli c Q) := by
            intro hf0 K2 o2 hf2
            have hFt : Ff K m0 B t = -5 := by
              unfold Ff
              rw [if_pos hf0]
            have hnr : ¬ Rc v s t := by
              rcases hM t t1.1 t1.2 with ⟨-, h2, -⟩ | ⟨k, h1, -⟩ | ⟨h1, -⟩
              · exact h2
              · omega
              · omega
            have hnew : ex v (s + 1) t := ⟨Or.inr ⟨q2, by omega, a, b, ha, ⟨b0, by omega⟩, hex.1, ht⟩, fun j hj q => hnr (Rc_mono q (by omega))⟩
            refine ih2 (b + 1) K2 (by omega) (by omega) o2 (fun q q0 q1 => ?_) (fun q q0 q1 => ?_) hex hns
            · rw [hf2 q q0 q1]
              split
              · omega
              · exact hpos q q0 q1
            · by_cases z : q = t
              · refine Or.inr (Or.inr ⟨?_, by rw [z]; exact hnew⟩)
                unfold Ff
                rw [hf2 q q0 q1, if_pos z, if_neg (by omega)]
                omega
              · have e9 : Ff K2 m0 B q = Ff K m0 B q := by
                  unfold Ff
                  rw [hf2 q q0 q1, if_neg z]
                rw [e9]
                rcases hM q q0 q1 with ⟨h1, h2, h3⟩ | h1
                · refine Or.inl ⟨h1, h2, fun c' d' r1 r2 r3 r4 r5 => ?_⟩
                  by_cases w : c' = a ∧ d' = b
                  · rw [w.1, w.2, ht] at r5
                    exact absurd r5.symm z
                  · exact h3 c' d' r1 r2 (by omega) r4 r5
                · exact Or.inr h1
          have old : ¬ fl K m0 B t = 0 → ∀ K2 : sh_Mem, (∀ o, o < m0 → K2 o = I o) → (∀ q, 0 ≤ q → q < 100 → fl K2 m0 B q = fl K m0 B q) → kl d (2, 100) mL_steps 130 [some (.inr G), some (.inr L), some (.inr N), some (.inl x), some (.inr m0), some (.inr B), none, some (.inl (s : Int)), some (.inl a), some (.inl (b + 1)), none] [] K2 (qli c Q) := by
            intro hf0 K2 o2 hf2
            have hFt : ¬ Ff K m0 B t = -5 := by
              unfold Ff
              rw [if_neg hf0]
              omega
            refine ih2 (b + 1) K2 (by omega) (by omega) o2 (fun q q0 q1 => by rw [hf2 q q0 q1]; exact hpos q q0 q1) (fun q q0 q1 => ?_) hex hns
            have e9 : Ff K2 m0 B q = Ff K m0 B q := by
              unfold Ff
              rw [hf2 q q0 q1]
            have hM2 := mid_step hM (by rw [ht]; exact Or.inr (Or.inl hFt))
            have := hM2 q q0 q1
            rw [e9]
            exact this
          refine ⟨by omega, fun q3 => ⟨by omega, ?_⟩, fun q3 => ⟨by omega, ?_, fun q4 => ?_, fun q4 => ?_⟩⟩
          · -- t lies in B
            have ft : fl K m0 B t = K B (t - 50) := by
              unfold fl
              rw [if_neg (by omega)]
            have tm : t % 50 = t - 50 := by omega
            have hBr : sh_u K m0 (t % 50) (K m0 (t % 50)) B (t % 50) = K B (t - 50) := by rw [sh_u_ne (fun z => hAB z.symm), tm]
            have sameA : ∀ q, sh_u K m0 (t % 50) (K m0 (t % 50)) m0 q = K m0 q := fun q => by
              simp only [sh_u]
              split
              · rename_i z
                rw [z.2]
              · rfl
            refine lL_steps_202 hx2 hG2 hL2 hN2 he hA hB hA ⟨by omega, by omega, bdi (by omega), fun q4 => absurd q4 (by omega), fun q4 => ⟨by omega, by rw [hBr, ← ft]; exact bdi (by omega), fun q5 => old (by rw [ft, ← hBr]; exact q5) _ (putB (putA o1)) (fun q q0 q1 => ?_), fun q5 => new (by rw [ft, ← hBr]; exact q5) _ (putB (putA o1)) (fun q q0 q1 => ?_)⟩⟩
            · unfold fl
              split
              · rw [sh_u_ne hAB, sameA]
              · rw [hBr]
                simp only [sh_u]
                split
                · rename_i z
                  rw [z.2, tm]
                · rw [if_neg (fun z => hAB z.1.symm)]
            · unfold fl
              split
              · rw [sh_u_ne hAB, sameA, if_neg (by omega)]
              · simp only [sh_u]
                by_cases z : q = t
                · rw [if_pos z, if_pos ⟨trivial, by omega⟩]
                · rw [if_neg z, if_neg (by omega), if_neg (fun w => hAB w.1.symm)]
          · have ft : fl K m0 B t = K m0 (t % 50) := by
              unfold fl
              rw [if_pos q3, show t % 50 = t by omega]
            rw [← ft]
            exact bdi (by omega)
          · have ft : fl K m0 B t = K m0 (t % 50) := by
              unfold fl
              rw [if_pos q3, show t % 50 = t by omega]
            have sameA : ∀ q, sh_u K m0 (t % 50) (K m0 (t % 50)) m0 q = K m0 q := fun q => by
              simp only [sh_u]
              split
              · rename_i z
                rw [z.2]
              · rfl
            refine lL_steps_202 hx2 hG2 hL2 hN2 he hA hB hA ⟨by omega, by omega, bdi (by omega), fun _ => ⟨by omega, old (by rw [ft]; exact q4) _ (putB (putA o1)) (fun q q0 q1 => ?_)⟩, fun q5 => absurd q5 (by omega)⟩
            unfold fl
            split
            · rw [sh_u_ne hAB, sameA]
            · rw [sh_u_ne (fun z => hAB z.symm)]
              simp only [sh_u]
              split
              · rename_i z
                rw [z.2]
              · rw [if_neg (fun w => hAB w.1.symm)]
          · have ft : fl K m0 B t = K m0 (t % 50) := by
              unfold fl
              rw [if_pos q3, show t % 50 = t by omega]
            refine lL_steps_202 hx2 hG2 hL2 hN2 he hA hB hA ⟨by omega, by omega, bdi (by omega), fun _ => ⟨by omega, new (by rw [ft]; exact q4) _ (putB (putA o1)) (fun q q0 q1 => ?_)⟩, fun q5 => absurd q5 (by omega)⟩
            unfold fl
            split
            · rw [sh_u_ne hAB]
              simp only [sh_u]
              by_cases z : q = t
              · rw [if_pos z, if_pos ⟨trivial, by omega⟩]
              · rw [if_neg z, if_neg (by omega)]
            · rw [sh_u_ne (fun z => hAB z.symm), if_neg (by omega)]
              simp only [sh_u]
              split
              · rename_i z
                rw [z.2]
              · rw [if_neg (fun w => hAB w.1.symm)]
      have eK := lv K o1
      have miss : ¬ fl K m0 B a = (s : Int) + 1 → kl d (2, 100) mL_steps 75 [some (.inr G), some (.inr L), some (.inr N), some (.inl x), some (.inr m0), some (.inr B), none, some (.inl (s : Int)), some (.inl (a + 1)), none, none] [] K (qli c Q) := fun q => by
        have hFa : ¬ Ff K m0 B a = (s : Int) := by
          unfold Ff
          split <;> omega
        refine ih (a + 1) K (by omega) (by omega) o1 hpos (mid_skip hM ha hFa) (fun q q0 q1 hq => ?_)
        by_cases z : q = a
        · rw [z] at hq
          exfalso
          rcases hM a ha.1 ha.2 with ⟨h1, h2, -⟩ | ⟨k, h1, h2, h3⟩ | ⟨h1, h2⟩
          · exact h2 hq.1
          · exact hFa (by rw [h1, ex_eq h3 hq])
          · have := ex_eq h2 hq
            omega
        · exact hsc q q0 (by omega) hq
      have hit : fl K m0 B a = (s : Int) + 1 → (ish v x a → Q (s : Int) K) ∧ (¬ ish v x a → kl d (2, 100) mL_steps 130 [some (.inr G), some (.inr L), some (.inr N), some (.inl x), some (.inr m0), some (.inr B), none, some (.inl (s : Int)), some (.inl a), some (.inl 0), none] [] K (qli c Q)) := fun q => by
        have hFa : Ff K m0 B a = (s : Int) := by
          unfold Ff
          rw [if_neg (by omega)]
          omega
        have hex := mid_ex hM ha hFa
        exact ⟨fun hd => fin K _ o1 (Or.inr ⟨s, rfl, ⟨a, hex.1, hd⟩, hND⟩) (by omega), fun hd => dirs 4 0 K (by omega) (by omega) o1 hpos hM hex hd⟩
      refine lL_steps_75 hx2 hG2 hL2 hN2 he hA hB ⟨bdi (by omega), fun q => absurd q (by omega), fun _ => ⟨fun q => ⟨by omega, ?_⟩, fun q => ⟨by omega, ?_⟩⟩⟩
      · have ef : fl K m0 B a = K B (a - 50) := by
          unfold fl
          rw [if_neg (by omega)]
        rw [← ef]
        exact ⟨Or.inr ⟨bdi (by omega), bdi (by omega)⟩, miss, fun q2 => t_shaded hx2 hG2 hL2 hN2 eK hv hi ha (fun hd => Or.inl ⟨rfl, (hit q2).1 hd⟩) (fun hd => Or.inr ⟨rfl, (hit q2).2 hd⟩)⟩
      · have ef : fl K m0 B a = K m0 a := by
          unfold fl
          rw [if_pos q]
        rw [← ef]
        exact ⟨Or.inr ⟨bdi (by omega), bdi (by omega)⟩, miss, fun q2 => t_shaded hx2 hG2 hL2 hN2 eK hv hi ha (fun hd => Or.inl ⟨rfl, (hit q2).1 hd⟩) (fun hd => Or.inr ⟨rfl, (hit q2).2 hd⟩)⟩
  -- all layers
  have all : ∀ (n s : Nat) (K : sh_Mem), s + n = 100 → (∀ o, o < m0 → K o = I o) → (∀ q, 0 ≤ q → q < 100 → 0 ≤ fl K m0 B q) → FarIs (Ff K m0 B) v s → (∀ j, j < s → ∀ q, Rc v j q → ¬ ish v x q) → kl d (2, 100) mL_steps 65 [some (.inr G), some (.inr L), some (.inr N), some (.inl x), some (.inr m0), some (.inr B), none, some (.inl (s : Int)), none, none, none] [] K (qli c Q) := by
    intro n
    induction n with
    | zero =>
      intro s K gs o1 hpos hF hND
      have es : s = 100 := by omega
      subst es
      refine lL_steps_65 hx2 hG2 hL2 hN2 he hA hB ⟨bdi (by omega), fun _ => fin K _ o1 (Or.inl ⟨rfl, fun n q hq => ?_⟩) (by decide), fun q => absurd q (by omega)⟩
      exact hND 99 (by omega) q (Rc_100 hv hr n hq)
    | succ n ih =>
      intro s K gs o1 hpos hF hND
      refine lL_steps_65 hx2 hG2 hL2 hN2 he hA hB ⟨bdi (by omega), fun q => absurd q (by omega), fun _ => ?_⟩
      exact layer s (by omega) hND (fun K2 o2 p2 f2 n2 => ih (s + 1) K2 (by omega) o2 p2 f2 n2) 100 0 K (by omega) (by omega) o1 hpos (far_mid hF).1 (fun q q0 q1 => by omega)
  have n1 : I1 N 1 = v 0 1 := e1.n1 hn0
  rw [n1, e1.g0 hr6]
  have start : ∀ (ya yb : Int), (v 6 (v 0 1) < 50 → ya = 1 ∧ yb = 0) → (50 ≤ v 6 (v 0 1) → ya = 0 ∧ yb = 1) → kl d (2, 100) mL_steps 65 [some (.inr G), some (.inr L), some (.inr N), some (.inl x), some (.inr m0), some (.inr B), none, some (.inl 0), none, none, none] [] (sh_u (sh_u I1 m0 (v 6 (v 0 1) % 50) ya) B (v 6 (v 0 1) % 50) yb) (qli c Q) := by
    intro ya yb hy1 hy2
    have ef : ∀ q, 0 ≤ q → q < 100 → fl (sh_u (sh_u I1 m0 (v 6 (v 0 1) % 50) ya) B (v 6 (v 0 1) % 50) yb) m0 B q = if q = v 6 (v 0 1) then 1 else 0 := by
      intro q q0 q1
      unfold fl
      split
      · rw [sh_u_ne hAB]
        simp only [sh_u, zA]
        by_cases z : q = v 6 (v 0 1)
        · rw [if_pos z, if_pos ⟨trivial, by omega⟩]
          exact (hy1 (by omega)).1
        · rw [if_neg z]
          split
          · exact (hy2 (by omega)).1
          · rfl
      · simp only [sh_u, zB]
        by_cases z : q = v 6 (v 0 1)
        · rw [if_pos z, if_pos ⟨trivial, by omega⟩]
          exact (hy2 (by omega)).2
        · rw [if_neg z]
          split
          · exact (hy1 (by omega)).2
          · rw [if_neg (fun w => hAB w.1.symm)]
    refine all 100 0 _ rfl (putB (putA (fun o ho => st0 o ho))) (fun q q0 q1 => ?_) (fun q q0 q1 => ?_) (fun j hj => absurd hj (Nat.not_lt_zero _))
    · rw [ef q q0 q1]
      split <;> omega
    · unfold Ff
      rw [ef q q0 q1]
      by_cases z : q = v 6 (v 0 1)
      · rw [if_pos z]
        exact Or.inr ⟨0, by rw [if_neg (by decide)]; rfl, Nat.le_refl _, z, fun j hj => absurd hj (Nat.not_lt_zero _)⟩
      · rw [if_neg z]
        exact Or.inl ⟨by rw [if_pos rfl], z⟩
  refine ⟨by omega, by omega, bdi (by omega), fun q => ⟨by omega, fun _ => start 0 1 (fun z => by omega) (fun _ => ⟨rfl, rfl⟩), fun z => absurd z (by omega)⟩, fun q => ⟨by omega, fun z => absurd z (by omega), fun _ => start 1 0 (fun _ => ⟨rfl, rfl⟩) (fun z => by omega)⟩⟩
