/-! ===== 56: the law ===== -/
theorem t_cell {c : sh_Cx} (hx : cx c) {x : Int} {I : sh_Mem} {Q : Int → sh_Mem → Prop} (hs : 0 ≤ I 0 0 ∧ I 0 0 ≤ 260) (hb : 0 ≤ x ∧ x < 1000) (h : ∀ r, Q r I) : cl c mL_cell [.inr 0, .inl x] I (li c Q) :=
  eL_cell hx ⟨hs.1, bdi (by omega), bdi (by omega), fun _ => h _, fun q => ⟨⟨hb.1, q⟩, by omega, h _⟩⟩
theorem fit_law1 {cn : Nat × Nat} (h1 : cn.1 ≤ 100000) (h2 : cn.2 ≤ 1000000) : sh_fit mL_law mL_areShadows cn 0 := ⟨by decide +kernel, by decide +kernel, show cn.1 + 1 ≤ 600000 by omega, show cn.2 + 3 ≤ 7302250 by omega, by decide⟩
theorem fit_law2 {cn : Nat × Nat} (h1 : cn.1 ≤ 100000) (h2 : cn.2 ≤ 1000000) : sh_fit mL_law mL_areSteps (cn.1 + 1, cn.2 + 3) 0 := ⟨by decide +kernel, by decide +kernel, show cn.1 + 1 + 12 ≤ 600000 by omega, show cn.2 + 3 + 600 ≤ 7302250 by omega, by decide⟩
theorem fit_law3 {cn : Nat × Nat} (h1 : cn.1 ≤ 100000) (h2 : cn.2 ≤ 1000000) : sh_fit mL_law mL_would ((cn.1 + 1, cn.2 + 3).1 + 12, (cn.1 + 1, cn.2 + 3).2 + 600) 0 := ⟨by decide +kernel, by decide +kernel, show cn.1 + 1 + 12 + 3 ≤ 600000 by omega, show cn.2 + 3 + 600 + 63 ≤ 7302250 by omega, by decide⟩
set_option maxRecDepth 100000 in
theorem t_turnsAll {c0 c : sh_Cx} (hx : cx c) (he : ext c0 c) {G L N : Nat} (hG : dy c G 42) (hL : dy c L 12) (hN : dy c N 9) (d : ap G L N) {Q : Int → sh_Mem → Prop} (hQ : ∀ K, Q 1 K) : ∀ (n m : Nat) (cn : Nat × Nat) (K : sh_Mem) (v : Vw), m + n = 36 → cn.1 ≤ 300 + 16 * m → cn.2 ≤ 3000 + 666 * m → CI K v → LV K G L N v → AC v → (0 ≤ K 0 0 ∧ K 0 0 ≤ 260) → v 0 0 ≤ 40 * (m : Int) → (1 ≤ m → 1 ≤ v 0 6) → (v 0 6 = 0 → K N 1 = 0) → kl c cn mL_law 123 [some (.inr 0), some (.inr 1), some (.inr G), some (.inr L), some (.inr N), some (.inl 1), some (.inl (m : Int)), none] [] K (qli c0 Q) := by
  intro n
  induction n with
  | zero =>
    intro m cn K v g0 c1 c2 hI e hA hs ht h1 hz
    exact lL_law_123 hx he hG hL hN ⟨bdi (by omega), fun _ => ⟨Or.inr rfl, hQ K⟩, fun q => absurd q (by omega)⟩
  | succ n ih =>
    intro m cn K v g0 d1 d2 hI e hA hs ht h1 hz
    have c1 : cn.1 ≤ 100000 := by omega
    have c2 : cn.2 ≤ 1000000 := by omega
    refine lL_law_123 hx he hG hL hN ⟨bdi (by omega), fun q => absurd q (by omega), fun q6 => ⟨bd_lit (by decide), fun q => absurd q (by decide), fun _ => t_cell hx hs (by omega) (fun x => ⟨fun q => ?_, fun q => ?_⟩)⟩⟩
    · intro u1 hu1
      refine t_low hx (by decide) (fun kd hkd => t_acts hx hG hL hN d (bdi (by omega)) hI e hA hz (fun _ => h1 (by omega)) (by omega) (fun K1 w hW => Or.inl ⟨rfl, t_areRunners hx hG hL hN (m0 := c.1) (I0 := K1) ⟨KS.rf, hW.1, hW.2.1⟩ hW.2.2.2.1 (fun K2 g2 => Or.inl ⟨rfl, fit_law1 c1 c2, t_areShadows hx hG hL hN rfl g2 (fun K3 g3 => Or.inl ⟨rfl, fun u hu => ?_⟩)⟩)⟩))
      have h1w := hW.2.2.2.2.2
      have hvw := hW.1.2.1.1
      have hmw := hvw.many
      have nx : ∀ (cn2 : Nat × Nat) (K2 : sh_Mem), Gd c.1 K1 G L N w K2 → cn2.1 ≤ cn.1 + 16 → cn2.2 ≤ cn.2 + 666 → kl c cn2 mL_law 272 [some (.inr 0), some (.inr 1), some (.inr G), some (.inr L), some (.inr N), none, some (.inl (m : Int)), none] [] K2 (qli c0 Q) := fun cn2 K2 g2 d1 d2 => by
        have k0 : K2 0 = K 0 := (g2.1.far (Or.inl rfl)).trans hW.2.2.1
        have := ih (m + 1) cn2 K2 w (by omega) (by omega) (by omega) g2.2.1 g2.2.2 hW.2.2.2.1 (by rw [k0]; exact hs) (by have := hW.2.2.2.2.1; omega) (fun _ => h1w) (fun z => by omega)
        exact lL_law_272 hx he hG hL hN this
      rw [g3.2.2.n8]
      refine t_low hx ⟨by omega, by omega⟩ (fun r hr => fun u2 hu2 => t_low hx (by decide) (fun l hl => t_isShadow hx hG hL hN g3 hr hl (fun K4 g4 => Or.inl ⟨rfl, ⟨by omega, by omega⟩, Or.inr ⟨bdi (by omega), bd_lit (by decide)⟩, fun q => nx _ K4 g4 (by show cn.1 + 1 ≤ _; omega) (by show cn.2 + 3 ≤ _; omega), fun q => ⟨fit_law2 c1 c2, t_areSteps hx hG hL hN g4 (fun K5 g5 => Or.inl ⟨rfl, fun u3 hu3 => t_low hx (by decide) (fun t ht => ⟨fit_law3 c1 c2, ?_⟩)⟩)⟩⟩)))
      rw [show 1 + t = (((1 + t).toNat : Nat) : Int) by omega]
      exact t_would hx hG hL hN d ⟨by omega, by omega⟩ g5 (fun K6 g6 => Or.inl ⟨rfl, nx _ K6 g6 (by show cn.1 + 1 + 12 + 3 ≤ _; omega) (by show cn.2 + 3 + 600 + 63 ≤ _; omega)⟩)
    · refine t_acts hx hG hL hN d (bd_lit (by decide)) hI e hA hz (fun z => absurd rfl z) (by omega) (fun K1 w hW => Or.inl ⟨rfl, t_areRunners hx hG hL hN (m0 := c.1) (I0 := K1) ⟨KS.rf, hW.1, hW.2.1⟩ hW.2.2.2.1 (fun K2 g2 => Or.inl ⟨rfl, fit_law1 c1 c2, t_areShadows hx hG hL hN rfl g2 (fun K3 g3 => Or.inl ⟨rfl, fun u hu => ?_⟩)⟩)⟩)
      have h1w := hW.2.2.2.2.2
      have hvw := hW.1.2.1.1
      have hmw := hvw.many
      have nx : ∀ (cn2 : Nat × Nat) (K2 : sh_Mem), Gd c.1 K1 G L N w K2 → cn2.1 ≤ cn.1 + 16 → cn2.2 ≤ cn.2 + 666 → kl c cn2 mL_law 272 [some (.inr 0), some (.inr 1), some (.inr G), some (.inr L), some (.inr N), none, some (.inl (m : Int)), none] [] K2 (qli c0 Q) := fun cn2 K2 g2 d1 d2 => by
        have k0 : K2 0 = K 0 := (g2.1.far (Or.inl rfl)).trans hW.2.2.1
        have := ih (m + 1) cn2 K2 w (by omega) (by omega) (by omega) g2.2.1 g2.2.2 hW.2.2.2.1 (by rw [k0]; exact hs) (by have := hW.2.2.2.2.1; omega) (fun _ => h1w) (fun z => by omega)
        exact lL_law_272 hx he hG hL hN this
      rw [g3.2.2.n8]
      refine t_low hx ⟨by omega, by omega⟩ (fun r hr => fun u2 hu2 => t_low hx (by decide) (fun l hl => t_isShadow hx hG hL hN g3 hr hl (fun K4 g4 => Or.inl ⟨rfl, ⟨by omega, by omega⟩, Or.inr ⟨bdi (by omega), bd_lit (by decide)⟩, fun q => nx _ K4 g4 (by show cn.1 + 1 ≤ _; omega) (by show cn.2 + 3 ≤ _; omega), fun q => ⟨fit_law2 c1 c2, t_areSteps hx hG hL hN g4 (fun K5 g5 => Or.inl ⟨rfl, fun u3 hu3 => t_low hx (by decide) (fun t ht => ⟨fit_law3 c1 c2, ?_⟩)⟩)⟩⟩)))
      rw [show 1 + t = (((1 + t).toNat : Nat) : Int) by omega]
      exact t_would hx hG hL hN d ⟨by omega, by omega⟩ g5 (fun K6 g6 => Or.inl ⟨rfl, nx _ K6 g6 (by show cn.1 + 1 + 12 + 3 ≤ _; omega) (by show cn.2 + 3 + 600 + 63 ≤ _; omega)⟩)
/-! its start -/
def VM0 : Vw := (up (up (up (up (up (up (up (up (up (up (up (fun _ _ => 0) 0 1 (-5)) 1 0 3) 2 0 0) 3 0 1) 5 0 1) 2 1 1) 3 1 1) 5 1 1) 2 2 2) 3 2 1) 5 2 1)
def lampN : Nat → Vw
  | 0 => up (up (fun _ _ => 0) 0 1 (-5)) 1 0 3
  | n + 1 => up (up (up (lampN n) 2 (n : Int) (n : Int)) 3 (n : Int) 1) 5 (n : Int) 1
theorem lampN_3 : lampN 3 = VM0 := rfl
theorem VM0_wb : WB VM0 := by
  have e6 : VM0 0 6 = 0 := rfl
  refine ⟨⟨by rw [e6]; omega, Or.inl ⟨e6, rfl⟩, fun r r0 r1 => ?_, fun r s r0 r1 => ?_, fun l l0 l1 => ?_, ?_, ?_, ?_, ?_⟩, ?_, ?_⟩
  · rw [e6] at r1
    omega
  · rw [e6] at r1
    omega
  · have h3 : l = 0 ∨ l = 1 ∨ l = 2 := by omega
    rcases h3 with rfl | rfl | rfl <;> decide
  all_goals decide
theorem VM0_ac : AC VM0 := ⟨fun r hr => by
  have e6 : VM0 0 6 = 0 := rfl
  have h1 := hr.1
  have h2 := hr.2
  rw [e6] at h2
  omega, rfl⟩
theorem LV_zero {I : sh_Mem} {G L N : Nat} (hg : ∀ f, I G f = 0) (hl : ∀ f, I L f = 0) (hn : ∀ f, I N f = 0) : LV I G L N (up (fun _ _ => 0) 0 1 (-5)) := by
  unfold LV
  funext j i
  simp only [up]
  by_cases h : 0 ≤ i ∧ i < szv j
  · rw [vL_in h]
    simp only [hg, hl, hn]
    by_cases j0 : j = 0
    · by_cases i1 : i = 1 <;> simp [j0, i1]
    · simp [j0]
  · have h1 : ¬ (j = 0 ∧ i = 1) := by
      rintro ⟨rfl, rfl⟩
      exact h ⟨by decide, by decide⟩
    unfold vL
    rw [if_neg h, if_neg h1]
theorem t_lawStart {c0 c : sh_Cx} (hx : cx c) (he : ext c0 c) {G L N : Nat} (hG : dy c G 42) (hL : dy c L 12) (hN : dy c N 9) (d : ap G L N) {Q : Int → sh_Mem → Prop} (hQ : ∀ K, Q 1 K) : ∀ (n m : Nat) (K : sh_Mem), m + n = 3 → CI K VM0 → LV K G L N (lampN m) → (0 ≤ K 0 0 ∧ K 0 0 ≤ 260) → K N 1 = 0 → kl c (121, 1150) mL_law 33 [some (.inr 0), some (.inr 1), some (.inr G), some (.inr L), some (.inr N), some (.inl (m : Int)), none, none] [] K (qli c0 Q) := by
  have fr : 119 ≤ G ∧ 119 ≤ L ∧ 119 ≤ N := ⟨hG.ge, hL.ge, hN.ge⟩
  intro n
  induction n with
  | zero =>
    intro m K g0 hI e hs hz
    have em : m = 3 := by omega
    subst em
    rw [lampN_3] at e
    have hv := VM0_wb.1
    refine lL_law_33 hx he hG hL hN ⟨bd_lit (by decide), fun _ => ?_, fun q => absurd q (by decide)⟩
    refine t_areRunners hx hG hL hN (m0 := c.1) (I0 := K) ⟨KS.rf, hI, e⟩ VM0_ac (fun K2 g2 => Or.inl ⟨rfl, fit_law1 (by decide) (by decide), t_areShadows hx hG hL hN rfl g2 (fun K3 g3 => Or.inl ⟨rfl, ?_⟩)⟩)
    refine g3.ask fr (a_safest g3.ev hv) (fun J g4 => okk rfl ?_)
    have hT := tuN_ok hv VM0_wb.2.1 1 (by decide)
    have eT : tuN VM0 1 0 1 = -5 := by
      rcases hT.1.2.1 with z | z
      · exact z.2
      · have e6 : tuN VM0 1 0 6 = 0 := hT.2.1
        omega
    refine g4.ask fr (a_ifTurns (n := 1) (r := tuN VM0 1 0 1) g4.ev VM0_wb (by decide) (by decide) (fun q => absurd q (by decide)) (fun _ => rfl) (fun q => absurd q (by decide))) (fun J2 g5 => okk eT ?_)
    have k0 : mxM J2 (mxM J K3) 0 = K 0 := g5.1.far (Or.inl rfl)
    have kN : mxM J2 (mxM J K3) N = K N := g5.1.far (Or.inr ⟨fr.2.2, hN.lt⟩)
    exact t_turnsAll hx he hG hL hN d hQ 36 0 _ _ VM0 rfl (by decide) (by decide) g5.2.1 g5.2.2 VM0_ac (by rw [k0]; exact hs) (by decide) (fun q => absurd q (by decide)) (fun _ => by rw [kN]; exact hz)
  | succ n ih =>
    intro m K g0 hI e hs hz
    refine lL_law_33 hx he hG hL hN ⟨bdi (by omega), fun q => absurd q (by omega), fun _ => ⟨by omega, by omega, by omega, ?_⟩⟩
    have low : ∀ o, o < 119 → sh_u (sh_u (sh_u K L (4 * (m : Int)) (m : Int)) L (4 * (m : Int) + 1) 1) L (4 * (m : Int) + 3) 1 o = K o := fun o ho => by rw [sh_u_ne (by omega), sh_u_ne (by omega), sh_u_ne (by omega)]
    refine ih (m + 1) _ (by omega) (hI.off low) ?_ (by rw [low 0 (by decide)]; exact hs) ?_
    · exact ((e.wl d 2 (by decide) (by omega) (by omega) rfl).wl d 3 (by decide) (by omega) (by omega) rfl).wl d 5 (by decide) (by omega) (by omega) rfl
    · rw [sh_u_ne (fun z => d.2.2 z.symm), sh_u_ne (fun z => d.2.2 z.symm), sh_u_ne (fun z => d.2.2 z.symm)]
      exact hz
theorem t_law {I : sh_Mem} {Q : Int → sh_Mem → Prop} (hs : 0 ≤ I 0 0 ∧ I 0 0 ≤ 260) (hI : CI I VM0) (hQ : ∀ K, Q 1 K) : kl (119, sh_PT) (118, 1087) mL_law 8 [some (.inr 0), some (.inr 1), none, none, none, none, none, none] [] I (qli (119, sh_PT) Q) := by
  have hx : cx (119, sh_PT) := ⟨Nat.le_refl _, fun _ _ => rfl⟩
  generalize hc : ((119, sh_PT) : sh_Cx) = c at *
  have c9 : c.1 = 119 := by rw [← hc]
  have hA5 : dy (cp (cp (cp c 42) 12) 9) c.1 42 := (dy.top hx.1 (by decide)).push.push
  have hA6 : dy (cp (cp (cp c 42) 12) 9) (cp c 42).1 12 := (dy.top (cx.push (N := 42) hx).1 (by decide)).push
  have hA7 : dy (cp (cp (cp c 42) 12) 9) (cp (cp c 42) 12).1 9 := dy.top (cx.push (N := 12) (cx.push (N := 42) hx)).1 (by decide)
  have hx2 : cx (cp (cp (cp c 42) 12) 9) := cx.push (N := 9) (cx.push (N := 12) (cx.push (N := 42) hx))
  have he : ext c (cp (cp (cp c 42) 12) 9) := ext.push (ext.push (ext.push ext.rf))
  have e6 : (cp c 42).1 = c.1 + 1 := rfl
  have e7 : (cp (cp c 42) 12).1 = c.1 + 2 := rfl
  refine lL_law_8 hx ?_
  have st0 : ∀ o, o < 119 → sh_cl (sh_cl (sh_cl I c.1) (cp c 42).1) (cp (cp c 42) 12).1 o = I o := fun o ho => by
    rw [sh_cl_lt (by omega), sh_cl_lt (by omega), sh_cl_lt (by omega)]
  have z7 : ∀ f, sh_cl (sh_cl (sh_cl I c.1) (cp c 42).1) (cp (cp c 42) 12).1 (cp (cp c 42) 12).1 f = 0 := fun f => sh_cl_self
  have z6 : ∀ f, sh_cl (sh_cl (sh_cl I c.1) (cp c 42).1) (cp (cp c 42) 12).1 (cp c 42).1 f = 0 := fun f => by rw [sh_cl_lt (by omega), sh_cl_self]
  have z5 : ∀ f, sh_cl (sh_cl (sh_cl I c.1) (cp c 42).1) (cp (cp c 42) 12).1 c.1 f = 0 := fun f => by rw [sh_cl_lt (by omega), sh_cl_lt (by omega), sh_cl_self]
  generalize sh_cl (sh_cl (sh_cl I c.1) (cp c 42).1) (cp (cp c 42) 12).1 = I1 at *
  have dA : ap c.1 (cp c 42).1 (cp (cp c 42) 12).1 := ⟨by omega, by omega, by omega⟩
  have low : ∀ o, o < 119 → sh_u I1 (cp (cp c 42) 12).1 6 3 o = I o := fun o ho => by rw [sh_u_ne (by omega)]; exact st0 o ho
  refine t_lawStart hx2 he hA5 hA6 hA7 dA hQ 3 0 _ rfl (hI.off low) ?_ (by rw [low 0 (by decide)]; exact hs) ?_
  · exact (LV_zero z5 z6 z7).ws dA (i := 0) (by decide) rfl rfl
  · simp only [sh_u]
    rw [if_neg (by decide)]
    exact z7 1
