/-! ===== 44: the reference reads a thing ===== -/
def RowM (I : sh_Mem) (k : Int) (t : Th) : Prop := I 126 k = t.2.2.1 ∧ I 127 k = t.2.2.2.1 ∧ (t.2.2.1 = 46 ∨ I 128 k = t.2.2.2.2)
theorem r_direction {k : Int} {I : sh_Mem} {Q : Int → sh_Mem → Prop} {C : Int → Int} {n p : Int} (ep : I 119 11 = p) (ek : I 119 13 = k) (hk : 0 ≤ k ∧ k < 32) (ht : RX I C n) (hp : 0 ≤ p ∧ p ≤ 900) (h0 : ¬ (C p = 110 ∨ C p = 101 ∨ C p = 115 ∨ C p = 119 ∨ C p = 45) → ∀ J, RR I J k p → Q 0 J) (h1 : (C p = 110 ∨ C p = 101 ∨ C p = 115 ∨ C p = 119 ∨ C p = 45) → ∀ J, RR I J k (p + 1) → J 128 k = drv (C p) → (∀ o, o ≠ 119 → o ≠ 128 → J o = I o) → Q 1 J) : cc mX7_readsDirection [.inr 119] I (qi Q) := by
  have hb := ht.1.bd p
  have r0 : RR I I k p := by rw [← ep]; exact RR.rf
  have go : ∀ d, drv (C p) = d → kk mX7_readsDirection 54 [some (.inr 119), none] [.inl d, .inl (I 119 13), .inr 128] I (qi Q) := fun d ed => by
    rw [ek]
    have r1 : RR I (sh_u I 128 k d) k p := r0.rw (o := 128) (x := d) (by omega)
    have v1 : sh_u I 128 k d 128 k = drv (C p) := by
      rw [ed]
      simp [sh_u]
    have yes : (C p = 110 ∨ C p = 101 ∨ C p = 115 ∨ C p = 119 ∨ C p = 45) → Q 1 (sh_u (sh_u I 128 k d) 119 11 (p + 1)) := fun z => h1 z _ r1.sg (by rw [sh_u_ne (by decide)]; exact v1) (fun o a b => by rw [sh_u_ne a, sh_u_ne b])
    exact lX7_readsDirection_54 ⟨hk, r_takesP r1.2.2.1 (r1.rx ht) (by omega) (by decide) (fun z => Or.inl ⟨rfl, yes (by omega)⟩) (fun z1 => Or.inr ⟨rfl, r_takesP r1.2.2.1 (r1.rx ht) (by omega) (by decide) (fun z => Or.inl ⟨rfl, yes (by omega)⟩) (fun z2 => Or.inr ⟨rfl, r_takesP r1.2.2.1 (r1.rx ht) (by omega) (by decide) (fun z => Or.inl ⟨rfl, yes (by omega)⟩) (fun z3 => Or.inr ⟨rfl, r_takesP r1.2.2.1 (r1.rx ht) (by omega) (by decide) (fun z => Or.inl ⟨rfl, yes (by omega)⟩) (fun z4 => Or.inr ⟨rfl, r_takesP r1.2.2.1 (r1.rx ht) (by omega) (by decide) (fun z => Or.inl ⟨rfl, yes (by omega)⟩) (fun z5 => Or.inr ⟨rfl, h0 (by omega) _ r1⟩)⟩)⟩)⟩)⟩)⟩
  refine eX7_readsDirection (r_codeP ep ht (by omega) ?_)
  by_cases e : C p = -1
  · rw [if_pos e]
    exact ⟨bd_lit (by decide), fun _ => ⟨fun _ => ⟨fun _ => ⟨fun _ => go (-1) (by rw [e]; decide), fun q => absurd q (by decide)⟩, fun q => absurd q (by decide)⟩, fun q => absurd q (by decide)⟩, fun q => absurd q (by decide)⟩
  · rw [if_neg e]
    exact ⟨bdi (by omega), fun q1 => ⟨fun q2 => ⟨fun q3 => ⟨fun q4 => go (-1) (isd_drv (by omega)), fun q4 => go 3 (by rw [q4]; decide)⟩, fun q3 => go 2 (by rw [q3]; decide)⟩, fun q2 => go 1 (by rw [q2]; decide)⟩, fun q1 => go 0 (by rw [q1]; decide)⟩
theorem RR.k {I J : sh_Mem} {k p : Int} (h : RR I J k p) : J 119 13 = I 119 13 := h.2.1 13 (by decide) (by decide)
theorem r_rest {y k : Int} {I : sh_Mem} {Q : Int → sh_Mem → Prop} {C : Int → Int} {n p : Int} (ep : I 119 11 = p + 1) (ec : C p = y) (hy : y = 114 ∨ y = 100 ∨ y = 108 ∨ y = 46) (ek : I 119 13 = k) (hk : 0 ≤ k ∧ k < 32) (ht : RX I C n) (hp : 0 ≤ p ∧ p ≤ 200) (h0 : (thg C p).1 = 0 → ∀ J, RR I J k (thg C p).2.1 → Q 0 J) (h1 : (thg C p).1 = 1 → ∀ J, RR I J k (thg C p).2.1 → J 127 k = (thg C p).2.2.2.1 → (y = 46 ∨ J 128 k = (thg C p).2.2.2.2) → (thg C p).2.2.1 = y → Q 1 J) : cc mX7_readsRest [.inr 119, .inl y] I (qi Q) := by
  have hn := ht.1.1
  have r0 : RR I I k (p + 1) := by rw [← ep]; exact RR.rf
  refine eX7_readsRest ⟨bdi (by omega), fun a1 => ⟨fun a2 => ⟨fun a3 => ?_, fun a3 => ?_⟩, fun a2 => ?_⟩, fun a1 => ?_⟩
  · -- 46
    have y46 : y = 46 := by omega
    have e : thg C p = th46 C p := by unfold thg; rw [if_pos (by omega)]
    rw [e] at h0 h1
    unfold th46 at h0 h1
    have hz := nm_in (p := p + 1) (lo := 1) (hi := 99) ht.1 (by decide)
    refine r_readsP (k := k) ep (by decide) (by decide) ht (by omega) (fun z => ?_) (fun z J j1 j2 j3 => ?_)
    · rw [if_pos z] at h0
      exact lX7_readsRest_53 ⟨bd_lit (by decide), fun q => absurd rfl q, fun _ => h0 rfl I (by rw [show (nm C (p + 1) 1 99).2.1 = p + 1 by omega]; exact r0)⟩
    · rw [if_neg (by omega)] at h1
      have r1 := r0.tr j1
      have jk : J 119 13 = k := r1.k.trans ek
      refine lX7_readsRest_53 ⟨bd_lit (by decide), fun _ => ⟨by rw [jk]; exact hk, bdi (by omega), fun _ => ⟨fun _ => ?_, fun q => absurd q (by omega)⟩, fun q => absurd q (by omega)⟩, fun q => absurd q (by decide)⟩
      rw [jk]
      have r2 : RR I (sh_u J 127 k (J 119 12)) k (nm C (p + 1) 1 99).2.1 := r1.rw (by omega)
      have hb2 := ht.1.bd (nm C (p + 1) 1 99).2.1
      have fin : ∀ x, Q 1 (sh_u (sh_u J 127 k (J 119 12)) 128 k x) := fun x => h1 rfl _ (r2.rw (by omega)) (by rw [sh_u_ne (by decide), j2]; simp [sh_u]) (Or.inl y46) y46.symm
      refine r_codeP r2.2.2.1 (r2.rx ht) (by omega) ?_
      refine ⟨by split <;> exact bdi (by omega), fun q => ⟨fun _ => fin 0, fun q2 => absurd y46 q2⟩, fun q => ⟨fun _ => fin 1, fun q2 => absurd y46 q2⟩⟩
  · -- 108
    have e : thg C p = th108 C p := by unfold thg; rw [if_neg (by omega), if_neg (by omega), if_pos (by omega)]
    rw [e] at h0 h1
    unfold th108 at h0 h1
    have hz := nm_in (p := p + 1) (lo := 0) (hi := 2) ht.1 (by decide)
    refine r_readsP (k := k) ep (by decide) (by decide) ht (by omega) (fun z => ?_) (fun z J j1 j2 j3 => ?_)
    · rw [if_pos z] at h0
      exact lX7_readsRest_53 ⟨bd_lit (by decide), fun q => absurd rfl q, fun _ => h0 rfl I (by rw [show (nm C (p + 1) 0 2).2.1 = p + 1 by omega]; exact r0)⟩
    · rw [if_neg (by omega)] at h0 h1
      have r1 := r0.tr j1
      have jk : J 119 13 = k := r1.k.trans ek
      refine lX7_readsRest_53 ⟨bd_lit (by decide), fun _ => ⟨by rw [jk]; exact hk, bdi (by omega), fun _ => ⟨fun _ => ?_, fun q => absurd q (by omega)⟩, fun q => absurd q (by omega)⟩, fun q => absurd q (by decide)⟩
      rw [jk]
      have r2 : RR I (sh_u J 127 k (J 119 12)) k (nm C (p + 1) 0 2).2.1 := r1.rw (by omega)
      have v2 : sh_u J 127 k (J 119 12) 127 k = (nm C (p + 1) 0 2).2.2 := by
        rw [j2]
        simp [sh_u]
      generalize hnn : (nm C (p + 1) 0 2).2.1 = p2 at *
      have hb2 := ht.1.bd p2
      -- after the second number
      have fin : ∀ x, (C p2 = 43 → x = 1) → (¬ C p2 = 43 → x = 0) → cc mX7_takes [.inr 119, .inl 43] (sh_u (sh_u J 127 k (J 119 12)) 128 k x) (qi fun v15 I13 => ((v15 = 1 ∧ Q 1 I13) ∨ (v15 = 0 ∧ (cc mX7_takes [.inr 119, .inl 45] I13 (qi fun v18 I16 => ((v18 = 1 ∧ Q 1 I16) ∨ (v18 = 0 ∧ Q 0 I16))))))) := fun x x1 x0 => by
        have r3 : RR I (sh_u (sh_u J 127 k (J 119 12)) 128 k x) k p2 := r2.rw (by omega)
        have yes : (C p2 = 43 ∨ C p2 = 45) → Q 1 (sh_u (sh_u (sh_u J 127 k (J 119 12)) 128 k x) 119 11 (p2 + 1)) := fun w => by
          rw [if_pos w] at h1
          refine h1 rfl _ r3.sg ?_ (Or.inr ?_) (by show (108 : Int) = y; omega)
          · rw [sh_u_ne (by decide), sh_u_ne (by decide)]
            exact v2
          · rw [sh_u_ne (by decide)]
            show _ = if C p2 = 43 then (1 : Int) else 0
            by_cases w1 : C p2 = 43
            · rw [if_pos w1, ← x1 w1]
              simp [sh_u]
            · rw [if_neg w1, ← x0 w1]
              simp [sh_u]
        refine r_takesP r3.2.2.1 (r3.rx ht) (by omega) (by decide) (fun w => Or.inl ⟨rfl, yes (Or.inl w)⟩) (fun w => Or.inr ⟨rfl, r_takesP r3.2.2.1 (r3.rx ht) (by omega) (by decide) (fun w2 => Or.inl ⟨rfl, yes (Or.inr w2)⟩) (fun w2 => Or.inr ⟨rfl, ?_⟩)⟩)
        rw [if_neg (by omega)] at h0
        exact h0 rfl _ r3
      refine r_codeP r2.2.2.1 (r2.rx ht) (by omega) ?_
      by_cases w : C p2 = -1
      · rw [if_pos w]
        exact ⟨bd_lit (by decide), fun _ => ⟨fun q => absurd q (by omega), fun _ => fin 0 (fun q => by omega) (fun _ => rfl)⟩, fun q => absurd q (by decide)⟩
      · rw [if_neg w]
        exact ⟨bdi (by omega), fun q => ⟨fun q2 => absurd q2 (by omega), fun _ => fin 0 (fun q2 => absurd q2 q) (fun _ => rfl)⟩, fun q => ⟨fun q2 => absurd q2 (by omega), fun _ => fin 1 (fun _ => rfl) (fun q2 => absurd q q2)⟩⟩
  · -- 100
    have e : thg C p = th100 C p := by unfold thg; rw [if_neg (by omega), if_pos (by omega)]
    rw [e] at h0 h1
    unfold th100 at h0 h1
    have hz := nm_in (p := p + 1) (lo := 0) (hi := 5) ht.1 (by decide)
    refine r_readsP (k := k) ep (by decide) (by decide) ht (by omega) (fun z => ?_) (fun z J j1 j2 j3 => ?_)
    · rw [if_pos z] at h0
      exact lX7_readsRest_53 ⟨bd_lit (by decide), fun q => absurd rfl q, fun _ => h0 rfl I (by rw [show (nm C (p + 1) 0 5).2.1 = p + 1 by omega]; exact r0)⟩
    · rw [if_neg (by omega)] at h0 h1
      have r1 := r0.tr j1
      have jk : J 119 13 = k := r1.k.trans ek
      refine lX7_readsRest_53 ⟨bd_lit (by decide), fun _ => ⟨by rw [jk]; exact hk, bdi (by omega), fun _ => ⟨fun q => absurd a2 q, fun _ => ?_⟩, fun q => absurd q (by omega)⟩, fun q => absurd q (by decide)⟩
      rw [jk]
      have r2 : RR I (sh_u J 127 k (J 119 12)) k (nm C (p + 1) 0 5).2.1 := r1.rw (by omega)
      have v2 : sh_u J 127 k (J 119 12) 127 k = (nm C (p + 1) 0 5).2.2 := by
        rw [j2]
        simp [sh_u]
      generalize hnn : (nm C (p + 1) 0 5).2.1 = p2 at *
      refine r_direction r2.2.2.1 (r2.k.trans ek) hk (r2.rx ht) (by omega) (fun w K k1 => ⟨z01_0, ?_⟩) (fun w K k1 k2 k3 => ⟨z01_1, ?_⟩)
      · rw [if_neg w] at h0
        exact h0 rfl K (r2.tr k1)
      · rw [if_pos w] at h1
        refine h1 rfl K (r2.tr k1) ?_ (Or.inr k2) (by show (100 : Int) = y; omega)
        rw [k3 127 (by decide) (by decide)]
        exact v2
  · -- 114
    have e : thg C p = th114 C p := by unfold thg; rw [if_neg (by omega), if_neg (by omega), if_neg (by omega), if_pos (by omega)]
    rw [e] at h0 h1
    unfold th114 at h0 h1
    have hz := nm_in (p := p + 1) (lo := 0) (hi := 99) ht.1 (by decide)
    refine r_readsP (k := k) ep (by decide) (by decide) ht (by omega) (fun z => ?_) (fun z J j1 j2 j3 => ?_)
    · rw [if_pos z] at h0
      exact lX7_readsRest_53 ⟨bd_lit (by decide), fun q => absurd rfl q, fun _ => h0 rfl I (by rw [show (nm C (p + 1) 0 99).2.1 = p + 1 by omega]; exact r0)⟩
    · rw [if_neg (by omega)] at h0 h1
      have r1 := r0.tr j1
      have jk : J 119 13 = k := r1.k.trans ek
      refine lX7_readsRest_53 ⟨bd_lit (by decide), fun _ => ⟨by rw [jk]; exact hk, bdi (by omega), fun q => absurd a1 q, fun _ => ?_⟩, fun q => absurd q (by decide)⟩
      rw [jk]
      have r2 : RR I (sh_u J 127 k (J 119 12)) k (nm C (p + 1) 0 99).2.1 := r1.rw (by omega)
      have v2 : sh_u J 127 k (J 119 12) 127 k = (nm C (p + 1) 0 99).2.2 := by
        rw [j2]
        simp [sh_u]
      generalize hnn : (nm C (p + 1) 0 99).2.1 = p2 at *
      refine r_takesP r2.2.2.1 (r2.rx ht) (by omega) (by decide) (fun w => Or.inl ⟨rfl, ?_⟩) (fun w => Or.inr ⟨rfl, ?_⟩)
      · rw [if_pos w] at h0 h1
        have r3 : RR I (sh_u (sh_u J 127 k (J 119 12)) 119 11 (p2 + 1)) k (p2 + 1) := r2.sg
        have hz2 := nm_in (p := p2 + 1) (lo := 1) (hi := 5) ht.1 (by decide)
        refine r_readsP (k := k) r3.2.2.1 (by decide) (by decide) (r3.rx ht) (by omega) (fun z2 => Or.inr ⟨rfl, lX7_readsRest_102 ⟨by rw [r3.k, ek]; exact hk, z01_0, ?_⟩⟩) (fun z2 K k1 k2 k3 => Or.inl ⟨rfl, lX7_readsRest_102 ⟨by rw [(r3.tr k1).k, ek]; exact hk, z01_1, ?_⟩⟩)
        · rw [if_pos z2] at h0
          rw [r3.k, ek]
          refine h0 rfl _ ?_
          rw [show (nm C (p2 + 1) 1 5).2.1 = p2 + 1 by omega]
          exact r3.rw (by omega)
        · rw [if_neg (by omega)] at h1
          rw [(r3.tr k1).k, ek]
          refine h1 rfl _ ((r3.tr k1).rw (by omega)) ?_ (Or.inr ?_) (by show (114 : Int) = y; omega)
          · rw [sh_u_ne (by decide), k3 127 (by decide), sh_u_ne (by decide)]
            exact v2
          · rw [k2]
            simp [sh_u]
      · rw [if_neg w] at h0
        refine lX7_readsRest_102 ⟨by rw [r2.k, ek]; exact hk, z01_0, ?_⟩
        rw [r2.k, ek]
        exact h0 rfl _ (r2.rw (by omega))
/-- read up to p, with t the number of things; the row k alone changed -/
def RK (I J : sh_Mem) (k p t : Int) : Prop := (∀ o, o ≠ 119 → o ≠ 126 → o ≠ 127 → o ≠ 128 → J o = I o) ∧ (∀ f, f ≠ 11 → f ≠ 12 → f ≠ 13 → J 119 f = I 119 f) ∧ J 119 11 = p ∧ J 119 13 = t ∧ ∀ o j, (o = 126 ∨ o = 127 ∨ o = 128) → j ≠ k → J o j = I o j
theorem r_thing {k : Int} {I : sh_Mem} {Q : Int → sh_Mem → Prop} {C : Int → Int} {n p : Int} (ep : I 119 11 = p) (ek : I 119 13 = k) (hk : 0 ≤ k ∧ k < 32) (ht : RX I C n) (hp : 0 ≤ p ∧ p ≤ 200) (h0 : (thg C p).1 = 0 → ∀ J, RK I J k (thg C p).2.1 k → Q 0 J) (h1 : (thg C p).1 = 1 → ∀ J, RK I J k (thg C p).2.1 (k + 1) → RowM J k (thg C p) → Q 1 J) : cc mX7_readsThing [.inr 119] I (qi Q) := by
  have hb := ht.1.bd p
  have r0 : RR I I k p := by rw [← ep]; exact RR.rf
  have go : ∀ y, C p = y → (y = 114 ∨ y = 100 ∨ y = 108 ∨ y = 46) → kk mX7_readsThing 41 [some (.inr 119), some (.inl y), none] [] (sh_u I 119 11 (p + 1)) (qi Q) := fun y ec hy => by
    have r1 : RR I (sh_u I 119 11 (p + 1)) k (p + 1) := r0.sg
    refine lX7_readsThing_41 (r_rest r1.2.2.1 ec hy (r1.k.trans ek) hk (r1.rx ht) hp (fun z J j1 => Or.inr ⟨rfl, ?_⟩) (fun z J j1 j2 j3 j4 => Or.inl ⟨rfl, ?_, ?_⟩))
    · have r2 := r1.tr j1
      exact h0 z J ⟨r2.1, fun f a b _ => r2.2.1 f a b, r2.2.2.1, r2.k.trans ek, r2.2.2.2⟩
    · rw [(r1.tr j1).k, ek]
      exact hk
    · have r2 := r1.tr j1
      have jk : J 119 13 = k := r2.k.trans ek
      rw [jk]
      have r3 : RR I (sh_u J 126 k y) k (thg C p).2.1 := r2.rw (by omega)
      refine h1 z _ ⟨fun o a b c d => ?_, fun f a b c => ?_, ?_, by simp [sh_u], fun o j a b => ?_⟩ ⟨?_, ?_, ?_⟩
      · rw [sh_u_ne a]
        exact r3.1 o a b c d
      · rw [sh_u_nf c]
        exact r3.2.1 f a b
      · rw [sh_u_nf (by decide)]
        exact r3.2.2.1
      · rw [sh_u_ne (by omega)]
        exact r3.2.2.2 o j a b
      · rw [sh_u_ne (by decide), j4]
        simp [sh_u]
      · rw [sh_u_ne (by decide), sh_u_ne (by decide)]
        exact j2
      · rw [sh_u_ne (by decide), sh_u_ne (by decide), j4]
        exact j3
  refine eX7_readsThing (r_codeP ep ht (by omega) ?_)
  have cv : ∀ y : Int, 0 ≤ y → C p = y → (if C p = -1 then 0 else C p) = y := fun y hy e => by rw [if_neg (by omega), e]
  refine r_takesP ep ht (by omega) (by decide) (fun z => Or.inl ⟨rfl, ?_⟩) (fun z1 => Or.inr ⟨rfl, r_takesP ep ht (by omega) (by decide) (fun z => Or.inl ⟨rfl, ?_⟩) (fun z2 => Or.inr ⟨rfl, r_takesP ep ht (by omega) (by decide) (fun z => Or.inl ⟨rfl, ?_⟩) (fun z3 => Or.inr ⟨rfl, r_takesP ep ht (by omega) (by decide) (fun z => Or.inl ⟨rfl, ?_⟩) (fun z4 => Or.inr ⟨rfl, ?_⟩)⟩)⟩)⟩)
  · rw [cv 114 (by decide) z]
    exact go 114 z (by omega)
  · rw [cv 100 (by decide) z]
    exact go 100 z (by omega)
  · rw [cv 108 (by decide) z]
    exact go 108 z (by omega)
  · rw [cv 46 (by decide) z]
    exact go 46 z (by omega)
  · have e : thg C p = (0, p, 0, 0, 0) := by unfold thg; rw [if_neg (by omega), if_neg (by omega), if_neg (by omega), if_neg (by omega)]
    rw [e] at h0
    exact h0 rfl I ⟨fun _ _ _ _ _ => rfl, fun _ _ _ _ => rfl, ep, ek, fun _ _ _ _ => rfl⟩
