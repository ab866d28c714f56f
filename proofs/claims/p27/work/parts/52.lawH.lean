/-! ===== 52: a copy of the law's platform turns ahead ===== -/
theorem t_copy {c : sh_Cx} (hx : cx c) {M X Y : Nat} (hX : dy c X M) (hY : dy c Y M) (hXY : ¬ X = Y) {I : sh_Mem} {Q : sh_Mem → Prop} (h : ∀ J, (∀ o, ¬ o = Y → J o = I o) → (∀ f, 0 ≤ f → f < (M : Int) → J Y f = I X f) → Q J) : cl c mL_copy [.inr X, .inr Y] I (lv c Q) := by
  have hM : M < 119 := hX.2.2
  refine eL_copy hx hX hY ?_
  have key : ∀ (n : Nat) (j : Int) (J : sh_Mem), 0 ≤ j → j + (n : Int) = (M : Int) → (∀ o, ¬ o = Y → J o = I o) → (∀ f, 0 ≤ f → f < j → J Y f = I X f) → kl c (0, 0) mL_copy 2 [some (.inr X), some (.inr Y), some (.inl j)] [] J (qlv c Q) := by
    intro n
    induction n with
    | zero =>
      intro j J j0 g0 o1 o2
      have ej : j = (M : Int) := by omega
      subst ej
      exact lL_copy_2 hx hX hY ⟨bdi (by omega), bdi (by omega), fun _ => h J o1 o2, fun q => absurd q (by omega)⟩
    | succ n ih =>
      intro j J j0 g0 o1 o2
      refine lL_copy_2 hx hX hY ⟨bdi (by omega), bdi (by omega), fun q => absurd q (by omega), fun q => ⟨⟨j0, q⟩, ih (j + 1) _ (by omega) (by omega) (fun o ho => by rw [sh_u_ne ho]; exact o1 o ho) (fun f f0 f1 => ?_)⟩⟩
      simp only [sh_u]
      by_cases z : f = j
      · rw [if_pos ⟨trivial, z⟩, z, o1 X hXY]
      · rw [if_neg (fun w => z w.2)]
        exact o2 f f0 (by omega)
  exact key M 0 I (by omega) (by omega) (fun _ _ => rfl) (fun f f0 f1 => by omega)
theorem vL_same {g l n g2 l2 n2 : Int → Int} (hg : ∀ f, 0 ≤ f → f < 42 → g2 f = g f) (hl : ∀ f, 0 ≤ f → f < 12 → l2 f = l f) (hn : ∀ f, 0 ≤ f → f < 9 → n2 f = n f) : vL g2 l2 n2 = vL g l n := by
  funext j i
  by_cases h : 0 ≤ i ∧ i < szv j
  · rw [vL_in h, vL_in h]
    by_cases j0 : j = 0
    · subst j0
      have hz : i < 7 := h.2
      rw [if_pos rfl, if_pos rfl, hn 8 (by decide) (by decide), hn 1 (by decide) (by decide), hn i h.1 (by omega)]
    · by_cases j1 : j = 1
      · subst j1
        have hz : i < 2 := h.2
        have := h.1
        rw [if_neg j0, if_neg j0, if_pos rfl, if_pos rfl, hn (6 + i) (by omega) (by omega)]
      · have h12 := szv_pos h
        have := h.1
        have h2 := h.2
        rw [if_neg j0, if_neg j0, if_neg j1, if_neg j1]
        by_cases j5 : j ≤ 5
        · rw [szvL ⟨by omega, j5⟩] at h2
          rw [if_pos j5, if_pos j5, hl _ (by omega) (by omega)]
        · rw [szvR ⟨by omega, h12⟩] at h2
          rw [if_neg j5, if_neg j5, hg _ (by omega) (by omega)]
  · unfold vL
    rw [if_neg h, if_neg h]
theorem frs_sgn {v : Vw} : ∀ n : Nat, frs v n = -5 ∨ 1 ≤ frs v n := by
  intro n
  induction n with
  | zero => exact Or.inl rfl
  | succ n ih =>
    have e : frs v (n + 1) = if frs v n = -5 then (if turnT (tuN v n) = -5 then -5 else (n : Int) + 1) else frs v n := rfl
    rw [e]
    split
    · split
      · exact Or.inl rfl
      · exact Or.inr (by omega)
    · exact ih
theorem t_would {c : sh_Cx} (hx : cx c) {G L N : Nat} (hG : dy c G 42) (hL : dy c L 12) (hN : dy c N 9) (d0 : ap G L N) {I0 I : sh_Mem} {Q : Int → sh_Mem → Prop} {v : Vw} {n : Nat} (hn : 1 ≤ n ∧ n ≤ 99) (g : Gd c.1 I0 G L N v I) (h : ∀ K, Gd c.1 I0 G L N v K → Q 1 K) : cl c mL_would [.inr 1, .inr G, .inr L, .inr N, .inl (n : Int)] I (li c Q) := by
  have fr : 119 ≤ G ∧ 119 ≤ L ∧ 119 ≤ N := ⟨hG.ge, hL.ge, hN.ge⟩
  have fl : G < c.1 ∧ L < c.1 ∧ N < c.1 := ⟨hG.lt, hL.lt, hN.lt⟩
  have h9 : 119 ≤ c.1 := by omega
  have hv := g.wf
  have hB : WB v := g.2.1.2.1
  have hm := hv.many
  have h00 := hv.2.2.2.2.2.2.2.1
  have hA5 : dy (cp (cp (cp c 42) 12) 9) c.1 42 := (dy.top hx.1 (by decide)).push.push
  have hA6 : dy (cp (cp (cp c 42) 12) 9) (cp c 42).1 12 := (dy.top (cx.push (N := 42) hx).1 (by decide)).push
  have hA7 : dy (cp (cp (cp c 42) 12) 9) (cp (cp c 42) 12).1 9 := dy.top (cx.push (N := 12) (cx.push (N := 42) hx)).1 (by decide)
  have hx2 : cx (cp (cp (cp c 42) 12) 9) := cx.push (N := 9) (cx.push (N := 12) (cx.push (N := 42) hx))
  have hG2 : dy (cp (cp (cp c 42) 12) 9) G 42 := hG.push.push.push
  have hL2 : dy (cp (cp (cp c 42) 12) 9) L 12 := hL.push.push.push
  have hN2 : dy (cp (cp (cp c 42) 12) 9) N 9 := hN.push.push.push
  have he : ext c (cp (cp (cp c 42) 12) 9) := ext.push (ext.push (ext.push ext.rf))
  have e6 : (cp c 42).1 = c.1 + 1 := rfl
  have e7 : (cp (cp c 42) 12).1 = c.1 + 2 := rfl
  have st0 : ∀ o, o < c.1 → sh_cl (sh_cl (sh_cl I c.1) (cp c 42).1) (cp (cp c 42) 12).1 o = I o := fun o ho => by
    rw [sh_cl_lt (by omega), sh_cl_lt (by omega), sh_cl_lt (by omega)]
  refine eL_would hx hG hL hN ?_
  generalize sh_cl (sh_cl (sh_cl I c.1) (cp c 42).1) (cp (cp c 42) 12).1 = I1 at *
  generalize hm0 : c.1 = m0 at *
  generalize (cp c 42).1 = A6 at *
  generalize (cp (cp c 42) 12).1 = A7 at *
  generalize cp (cp (cp c 42) 12) 9 = d at *
  have dA : ap m0 A6 A7 := ⟨by omega, by omega, by omega⟩
  have frA : 119 ≤ m0 ∧ 119 ≤ A6 ∧ 119 ≤ A7 := ⟨by omega, by omega, by omega⟩
  have key : ∀ (m j : Nat) (K : sh_Mem), j + m = n → Gd m0 I0 G L N v K → LV K m0 A6 A7 (tuN v j) → kl d (3, 63) mL_would 43 [some (.inr 1), none, none, some (.inr N), some (.inl (n : Int)), some (.inr m0), some (.inr A6), some (.inr A7), some (.inl (frs v j)), some (.inl ((j : Int) + 1))] [] K (qli c Q) := by
    intro m
    induction m with
    | zero =>
      intro j K g0 gK eA
      have ej : j = n := by omega
      subst ej
      obtain ⟨a, b, c5, d5⟩ := tuN_ok hv hB.2.1 j (by have := hB.2.2; omega)
      refine lL_would_43 hx2 hG2 hL2 hN2 he hA5 hA6 hA7 ⟨bdi (by omega), bdi (by omega), fun _ => ?_, fun q => absurd q (by omega)⟩
      refine gK.ask fr (a_ifTurns (r := tuN v j 0 2 - v 0 2) gK.ev hB hn (by decide) (fun _ => rfl) (fun q => absurd q (by decide)) (fun q => absurd q (by decide))) (fun J1 g1 => ?_)
      have eA1 : LV (mxM J1 K) m0 A6 A7 (tuN v j) := eA.same (mx_ge frA.1) (mx_ge frA.2.1) (mx_ge frA.2.2)
      refine okk (by rw [eA1.n2, g1.2.2.n2]) ?_
      refine g1.ask fr (a_ifTurns (r := tuN v j 0 1) g1.ev hB hn (by decide) (fun q => absurd q (by decide)) (fun _ => rfl) (fun q => absurd q (by decide))) (fun J2 g2 => ?_)
      have eA2 : LV (mxM J2 (mxM J1 K)) m0 A6 A7 (tuN v j) := eA1.same (mx_ge frA.1) (mx_ge frA.2.1) (mx_ge frA.2.2)
      have e8 := g2.2.2.n8
      refine ⟨by rw [e8]; exact bdi (by omega), fun q => okk ?_ ?_, fun q => okk ?_ ?_⟩
      · rw [eA2.n1 (by rw [b, ← e8]; exact q)]
      · exact g2.ask fr (a_ifTurns (r := frs v j) g2.ev hB hn (by decide) (fun q => absurd q (by decide)) (fun q => absurd q (by decide)) (fun _ => rfl)) (fun J3 g3 => okk rfl (h _ g3))
      · rcases a.2.1 with w | w
        · exact w.2
        · rw [e8] at q
          omega
      · exact g2.ask fr (a_ifTurns (r := frs v j) g2.ev hB hn (by decide) (fun q => absurd q (by decide)) (fun q => absurd q (by decide)) (fun _ => rfl)) (fun J3 g3 => okk rfl (h _ g3))
    | succ m ih =>
      intro j K g0 gK eA
      obtain ⟨a, b, c5, d5⟩ := tuN_ok hv hB.2.1 j (by have := hB.2.2; omega)
      have hfr := frs_in (v := v) j
      have hfs := frs_sgn (v := v) j
      have hft := frs_tags hv hB.2.1 j (by have := hB.2.2; omega)
      have e : tuN v (j + 1) 0 2 = tuN v j 0 2 + tgI (turnT (tuN v j)) := (turnF_ok2 a d5 (by have := hB.2.2; omega)).2.2.2.1
      have ef : frs v (j + 1) = if frs v j = -5 then (if turnT (tuN v j) = -5 then -5 else (j : Int) + 1) else frs v j := rfl
      refine lL_would_43 hx2 hG2 hL2 hN2 he hA5 hA6 hA7 ⟨bdi (by omega), bdi (by omega), fun q => absurd q (by omega), fun _ => ?_⟩
      refine t_turns hx2 hA5 hA6 hA7 dA eA a d5 (by have := hB.2.2; omega) (fun J oJ eJ => ?_)
      have gJ : Gd m0 I0 G L N v J := gK.aside fl h9 (fun o ho => oJ o (by omega) (by omega) (by omega))
      have nx := ih (j + 1) J (by omega) gJ eJ
      have t2 : J A7 2 = tuN v j 0 2 + tgI (turnT (tuN v j)) := by rw [eJ.n2]; exact e
      have t3 : J N 2 = v 0 2 := gJ.2.2.n2
      have h02 := hv.2.2.2.2.2.2.2.2
      have hB2 := hB.2
      have tb : 0 ≤ tgI (turnT (tuN v j)) ∧ tgI (turnT (tuN v j)) ≤ 1 := by
        unfold tgI
        split <;> decide
      have tw : 0 ≤ tuN v j 0 2 ∧ tuN v j 0 2 ≤ tuN v j 0 0 + 1 := a.2.2.2.2.2.2.2.2
      refine ⟨bdi (by omega), fun q => ?_, fun q => ⟨by rw [t2]; exact bdi (by omega), by rw [t3]; exact bdi (by omega), fun q2 => ?_, fun q2 => ?_⟩⟩
      · rw [ef, if_neg (by omega)] at nx
        exact nx
      · have e5 : frs v j = -5 := by omega
        have e2 := hft e5
        rw [t2, t3] at q2
        have y : turnT (tuN v j) = -5 := Classical.byContradiction fun w => by
          have : tgI (turnT (tuN v j)) = 1 := by unfold tgI; rw [if_neg w]
          omega
        rw [ef, if_pos e5, if_pos y] at nx
        rw [e5]
        exact nx
      · have e5 : frs v j = -5 := by omega
        have e2 := hft e5
        rw [t2, t3] at q2
        have y : ¬ turnT (tuN v j) = -5 := fun w => by
          have : tgI (turnT (tuN v j)) = 0 := by unfold tgI; rw [if_pos w]
          omega
        rw [ef, if_pos e5, if_neg y] at nx
        exact nx
  have e1 : LV I1 G L N v := g.2.2.same (st0 G fl.1) (st0 L fl.2.1) (st0 N fl.2.2)
  refine t_copy hx2 hG2 hA5 (by omega) (fun J1 o1 f1 => ?_)
  refine t_copy hx2 hL2 hA6 (by omega) (fun J2 o2 f2 => ?_)
  refine t_copy hx2 hN2 hA7 (by omega) (fun J3 o3 f3 => ?_)
  have low : ∀ o, o < m0 → J3 o = I o := fun o ho => by rw [o3 o (by omega), o2 o (by omega), o1 o (by omega), st0 o ho]
  refine key n 0 J3 (by omega) (g.aside fl h9 low) ?_
  have ev : vL (I G) (I L) (I N) = v := g.2.2
  show vL (J3 m0) (J3 A6) (J3 A7) = v
  rw [← ev]
  refine vL_same (fun f a b => ?_) (fun f a b => ?_) (fun f a b => ?_)
  · rw [o3 m0 (by omega), o2 m0 (by omega), f1 f a b, st0 G fl.1]
  · rw [o3 A6 (by omega), f2 f a b, o1 L (by omega), st0 L fl.2.1]
  · rw [f3 f a b, o2 N (by omega), o1 N (by omega), st0 N fl.2.2]
