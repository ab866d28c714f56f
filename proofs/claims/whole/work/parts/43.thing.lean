/-! ===== 43: reading a thing, on both sides ===== -/
theorem isd_drv {c : Int} (h : ¬ (c = 110 ∨ c = 101 ∨ c = 115 ∨ c = 119)) : drv c = -1 := by
  unfold drv
  rw [if_neg (by omega), if_neg (by omega), if_neg (by omega), if_neg (by omega)]
theorem tk0 {n p q : Int} (h1 : p ≤ q) (h2 : q ≤ p + 100) : ThOk n p (0, q, 0, 0, 0) := Or.inl ⟨rfl, h1, h2⟩
theorem tk1 {n p q a b c : Int} (h1 : p + 2 ≤ q) (h2 : q ≤ n) (h : KOk (1, q, a, b, c)) : ThOk n p (1, q, a, b, c) := Or.inr ⟨rfl, ⟨h1, h2⟩, h⟩
theorem thg_ok {C : Int → Int} {n p : Int} (hC : CT C n) (hp : 0 ≤ p) : ThOk n p (thg C p) := by
  unfold thg
  split
  · have h := nm_in (p := p + 1) (lo := 1) (hi := 99) hC (by decide)
    unfold th46
    split
    · rcases h with ⟨-, h2⟩ | ⟨h1, -⟩
      · exact tk0 (by omega) (by omega)
      · omega
    · rcases h with ⟨h1, -⟩ | ⟨-, h2, h3⟩
      · omega
      · exact tk1 (by omega) (by omega) (Or.inl ⟨rfl, h3⟩)
  · split
    · have h := nm_in (p := p + 1) (lo := 0) (hi := 5) hC (by decide)
      unfold th100
      split
      · rcases h with ⟨-, h2⟩ | ⟨h1, -⟩
        · exact tk0 (by omega) (by omega)
        · omega
      · rcases h with ⟨h1, -⟩ | ⟨-, h2, h3⟩
        · omega
        · have hn := hC.1
          split
          · have := hC.lt (p := (nm C (p + 1) 0 5).2.1) (by omega)
            exact tk1 (by omega) (by omega) (Or.inr (Or.inl ⟨rfl, h3, drv_in⟩))
          · exact tk0 (by omega) (by omega)
    · split
      · have h := nm_in (p := p + 1) (lo := 0) (hi := 2) hC (by decide)
        unfold th108
        split
        · rcases h with ⟨-, h2⟩ | ⟨h1, -⟩
          · exact tk0 (by omega) (by omega)
          · omega
        · rcases h with ⟨h1, -⟩ | ⟨-, h2, h3⟩
          · omega
          · have hn := hC.1
            split
            · have := hC.lt (p := (nm C (p + 1) 0 2).2.1) (by omega)
              refine tk1 (by omega) (by omega) (Or.inr (Or.inr (Or.inl ⟨rfl, h3, ?_⟩)))
              show 0 ≤ (if _ = 43 then (1 : Int) else 0) ∧ (if _ = 43 then (1 : Int) else 0) ≤ 1
              split <;> omega
            · exact tk0 (by omega) (by omega)
      · split
        · have h := nm_in (p := p + 1) (lo := 0) (hi := 99) hC (by decide)
          unfold th114
          split
          · rcases h with ⟨-, h2⟩ | ⟨h1, -⟩
            · exact tk0 (by omega) (by omega)
            · omega
          · rcases h with ⟨h1, -⟩ | ⟨-, h2, h3⟩
            · omega
            · have hn := hC.1
              split
              · have g := nm_in (p := (nm C (p + 1) 0 99).2.1 + 1) (lo := 1) (hi := 5) hC (by decide)
                have := hC.lt (p := (nm C (p + 1) 0 99).2.1) (by omega)
                split
                · rcases g with ⟨-, g2⟩ | ⟨g1, -⟩
                  · exact tk0 (by omega) (by omega)
                  · omega
                · rcases g with ⟨g1, -⟩ | ⟨-, g2, g3⟩
                  · omega
                  · exact tk1 (by omega) (by omega) (Or.inr (Or.inr (Or.inr ⟨rfl, h3, g3⟩)))
              · exact tk0 (by omega) (by omega)
        · exact tk0 (by omega) (by omega)
/-! the class -/
theorem s_nextSignP {I : sh_Mem} {Q : Int → sh_Mem → Prop} {C : Int → Int} {n p : Int} (ep : I 109 2 = p) (ht : TX I C n) (hp : 0 ≤ p ∧ p ≤ 1000) (h : Q (C p) I) : cc mX1_nextSign [.inr 109] I (qi Q) := by
  subst ep
  exact s_nextSign ht hp h
theorem s_readNumberP {o : Nat} {k lo hi : Int} {I : sh_Mem} {Q : Int → sh_Mem → Prop} {C : Int → Int} {n p : Int} (ep : I 109 2 = p) (ho : sh_is 130 o 8 20) (ho2 : o = 112 ∨ o = 113) (hk : 0 ≤ k ∧ k < 20) (hlo : 0 ≤ lo ∧ lo ≤ 9) (hhi : 0 ≤ hi ∧ hi ≤ 99) (ht : TX I C n) (hp : 0 ≤ p ∧ p ≤ 900) (h0 : (nm C p lo hi).1 = 0 → Q 0 I) (h1 : (nm C p lo hi).1 = 1 → ∀ J, TR I J k (nm C p lo hi).2.1 → J o k = (nm C p lo hi).2.2 → (∀ o', o' ≠ o → o' ≠ 109 → J o' = I o') → Q 1 J) : cc mX1_readNumber [.inr 109, .inr o, .inl k, .inl lo, .inl hi] I (qi Q) := by
  subst ep
  exact s_readNumber ho ho2 hk hlo hhi ht hp h0 h1
theorem TR.sg {I J : sh_Mem} {k p : Int} (h : TR I J k p) : TR I (sh_u J 109 2 (J 109 2 + 1)) k (p + 1) := by
  refine ⟨fun o' a b c d => ?_, fun f a => ?_, ?_, fun o' j a b => ?_⟩
  · rw [sh_u_ne a]
    exact h.1 o' a b c d
  · rw [sh_u_nf a]
    exact h.2.1 f a
  · rw [← h.2.2.1]
    simp [sh_u]
  · rw [sh_u_ne (by omega)]
    exact h.2.2.2 o' j a b
theorem s_readSignP {x : Int} {I : sh_Mem} {Q : Int → sh_Mem → Prop} {C : Int → Int} {n p : Int} (ep : I 109 2 = p) (ht : TX I C n) (hp : 0 ≤ p ∧ p ≤ 1000) (hx : 0 ≤ x ∧ x ≤ 1000) (h1 : C p = x → Q 1 (sh_u I 109 2 (I 109 2 + 1))) (h0 : ¬ C p = x → Q 0 I) : cc mX1_readSign [.inr 109, .inl x] I (qi Q) := by
  have hb := ht.1.bd p
  exact eX1_readSign (s_nextSignP ep ht hp ⟨bdi (by omega), bdi (by omega), h1, h0⟩)
theorem s_readThing {k : Int} {I : sh_Mem} {Q : Int → sh_Mem → Prop} {C : Int → Int} {n p : Int} (ep : I 109 2 = p) (ht : TX I C n) (hp : 0 ≤ p ∧ p ≤ 100) (hk : 0 ≤ k ∧ k < 20) (h0 : (thg C p).1 = 0 → ∀ J, TR I J k (thg C p).2.1 → Q 0 J) (h1 : (thg C p).1 = 1 → ∀ J, TR I J k (thg C p).2.1 → Row J k (thg C p) → Q 1 J) : cc mX1_readThing [.inr 109, .inl k] I (qi Q) := by
  have hb := ht.1.bd p
  have hn := ht.1.1
  have r0 : TR I I k p := by rw [← ep]; exact TR.rf
  refine eX1_readThing (s_nextSignP ep ht (by omega) ⟨bdi (by omega), fun q => ?_, fun q => ?_, fun q => ?_, fun q => ?_, fun q => ?_⟩)
  · -- a full stop: turns
    have e : thg C p = th46 C p := by unfold thg; rw [if_pos q]
    rw [e] at h0 h1
    unfold th46 at h0 h1
    have r1 := r0.as (x := C p) (o := 111) (by omega)
    refine s_readAs is_111 (by decide) hk (Or.inl ⟨rfl, s_readNumberP r1.2.2.1 is_112 (by omega) hk (by decide) (by decide) (r1.tx ht) (by omega) (fun z => Or.inr ⟨rfl, ?_⟩) (fun z J j1 j2 j3 => Or.inl ⟨rfl, ?_⟩)⟩)
    · have hz := nm_in (p := p + 1) (lo := 1) (hi := 99) ht.1 (by decide)
      rw [if_pos z] at h0
      refine h0 rfl _ ?_
      rw [show (nm C (p + 1) 1 99).2.1 = p + 1 by omega]
      exact r1
    · rw [if_neg (by omega)] at h1
      refine h1 rfl J (r1.tr j1) ⟨?_, j2, Or.inl rfl⟩
      rw [j3 111 (by decide) (by decide), as_val (by omega)]
      exact q
  · have e : thg C p = th100 C p := by unfold thg; rw [if_neg (by omega), if_pos q]
    rw [e] at h0 h1
    unfold th100 at h0 h1
    have r1 := r0.as (x := C p) (o := 111) (by omega)
    have hz := nm_in (p := p + 1) (lo := 0) (hi := 5) ht.1 (by decide)
    refine s_readAs is_111 (by decide) hk (Or.inl ⟨rfl, s_readNumberP r1.2.2.1 is_112 (by omega) hk (by decide) (by decide) (r1.tx ht) (by omega) (fun z => Or.inr ⟨rfl, ?_⟩) (fun z J j1 j2 j3 => Or.inl ⟨rfl, ?_⟩)⟩)
    · rw [if_pos z] at h0
      refine h0 rfl _ ?_
      rw [show (nm C (p + 1) 0 5).2.1 = p + 1 by omega]
      exact r1
    · rw [if_neg (by omega)] at h0 h1
      have r2 := r1.tr j1
      have e111 : J 111 k = 100 := by
        rw [j3 111 (by decide) (by decide), as_val (by omega)]
        exact q
      generalize hnn : (nm C (p + 1) 0 5).2.1 = p2 at *
      generalize hvv : (nm C (p + 1) 0 5).2.2 = x2 at *
      have hb2 := ht.1.bd p2
      have yes : ∀ d, (C p2 = 110 ∨ C p2 = 101 ∨ C p2 = 115 ∨ C p2 = 119 ∨ C p2 = 45) → drv (C p2) = d → Q 1 (sh_u (sh_u J 113 k d) 109 2 (J 109 2 + 1)) := fun d z9 ed => by
        rw [if_pos z9] at h1
        refine h1 rfl _ (r2.as (by omega)) ⟨?_, ?_, Or.inr ?_⟩
        · rw [as_oth (by decide) (by decide)]
          exact e111
        · rw [as_oth (by decide) (by decide)]
          exact j2
        · rw [as_val (by omega)]
          exact ed.symm
      refine eX1_readDirection (s_nextSignP r2.2.2.1 (r2.tx ht) (by omega) ⟨bdi (by omega), fun w => ?_, fun w => ?_, fun w => ?_, fun w => ?_, fun w => ?_, fun w => ?_⟩)
      · exact s_readAs is_113 (by decide) hk ⟨z01_1, Or.inl ⟨rfl, yes (-1) (by omega) (by rw [w]; decide)⟩⟩
      · exact s_readAs is_113 (by decide) hk ⟨z01_1, Or.inl ⟨rfl, yes 1 (by omega) (by rw [w]; decide)⟩⟩
      · exact s_readAs is_113 (by decide) hk ⟨z01_1, Or.inl ⟨rfl, yes 0 (by omega) (by rw [w]; decide)⟩⟩
      · exact s_readAs is_113 (by decide) hk ⟨z01_1, Or.inl ⟨rfl, yes 2 (by omega) (by rw [w]; decide)⟩⟩
      · exact s_readAs is_113 (by decide) hk ⟨z01_1, Or.inl ⟨rfl, yes 3 (by omega) (by rw [w]; decide)⟩⟩
      · rw [if_neg (by omega)] at h0
        exact Or.inr ⟨rfl, h0 rfl J r2⟩
  · have e : thg C p = th108 C p := by unfold thg; rw [if_neg (by omega), if_neg (by omega), if_pos q]
    rw [e] at h0 h1
    unfold th108 at h0 h1
    have r1 := r0.as (x := C p) (o := 111) (by omega)
    have hz := nm_in (p := p + 1) (lo := 0) (hi := 2) ht.1 (by decide)
    refine s_readAs is_111 (by decide) hk (Or.inl ⟨rfl, s_readNumberP r1.2.2.1 is_112 (by omega) hk (by decide) (by decide) (r1.tx ht) (by omega) (fun z => Or.inr ⟨rfl, ?_⟩) (fun z J j1 j2 j3 => Or.inl ⟨rfl, ?_⟩)⟩)
    · rw [if_pos z] at h0
      refine h0 rfl _ ?_
      rw [show (nm C (p + 1) 0 2).2.1 = p + 1 by omega]
      exact r1
    · rw [if_neg (by omega)] at h0 h1
      have r2 := r1.tr j1
      have e111 : J 111 k = 108 := by
        rw [j3 111 (by decide) (by decide), as_val (by omega)]
        exact q
      generalize hnn : (nm C (p + 1) 0 2).2.1 = p2 at *
      generalize hvv : (nm C (p + 1) 0 2).2.2 = x2 at *
      have hb2 := ht.1.bd p2
      have yes : ∀ d, (C p2 = 43 ∨ C p2 = 45) → (if C p2 = 43 then (1 : Int) else 0) = d → Q 1 (sh_u (sh_u J 113 k d) 109 2 (J 109 2 + 1)) := fun d z9 ed => by
        rw [if_pos z9] at h1
        refine h1 rfl _ (r2.as (by omega)) ⟨?_, ?_, Or.inr ?_⟩
        · rw [as_oth (by decide) (by decide)]
          exact e111
        · rw [as_oth (by decide) (by decide)]
          exact j2
        · rw [as_val (by omega)]
          exact ed.symm
      refine eX1_readOnOrOff (s_nextSignP r2.2.2.1 (r2.tx ht) (by omega) ⟨bdi (by omega), fun w => ?_, fun w => ?_, fun w => ?_⟩)
      · exact s_readAs is_113 (by decide) hk ⟨z01_1, Or.inl ⟨rfl, yes 1 (by omega) (by rw [if_pos w])⟩⟩
      · exact s_readAs is_113 (by decide) hk ⟨z01_1, Or.inl ⟨rfl, yes 0 (by omega) (by rw [if_neg (by omega)])⟩⟩
      · rw [if_neg (by omega)] at h0
        exact Or.inr ⟨rfl, h0 rfl J r2⟩
  · have e : thg C p = th114 C p := by unfold thg; rw [if_neg (by omega), if_neg (by omega), if_neg (by omega), if_pos q]
    rw [e] at h0 h1
    unfold th114 at h0 h1
    have r1 := r0.as (x := C p) (o := 111) (by omega)
    have hz := nm_in (p := p + 1) (lo := 0) (hi := 99) ht.1 (by decide)
    refine s_readAs is_111 (by decide) hk (Or.inl ⟨rfl, s_readNumberP r1.2.2.1 is_112 (by omega) hk (by decide) (by decide) (r1.tx ht) (by omega) (fun z => Or.inr ⟨rfl, ?_⟩) (fun z J j1 j2 j3 => Or.inl ⟨rfl, ?_⟩)⟩)
    · rw [if_pos z] at h0
      refine h0 rfl _ ?_
      rw [show (nm C (p + 1) 0 99).2.1 = p + 1 by omega]
      exact r1
    · rw [if_neg (by omega)] at h0 h1
      have r2 := r1.tr j1
      have e111 : J 111 k = 114 := by
        rw [j3 111 (by decide) (by decide), as_val (by omega)]
        exact q
      generalize hnn : (nm C (p + 1) 0 99).2.1 = p2 at *
      generalize hvv : (nm C (p + 1) 0 99).2.2 = x2 at *
      have hb2 := ht.1.bd p2
      refine s_readSignP r2.2.2.1 (r2.tx ht) (by omega) (by decide) (fun w => Or.inl ⟨rfl, ?_⟩) (fun w => Or.inr ⟨rfl, ?_⟩)
      · rw [if_pos w] at h0 h1
        have r3 := r2.sg
        have hz2 := nm_in (p := p2 + 1) (lo := 1) (hi := 5) ht.1 (by decide)
        refine s_readNumberP r3.2.2.1 is_113 (by omega) hk (by decide) (by decide) (r3.tx ht) (by omega) (fun z2 => Or.inr ⟨rfl, ?_⟩) (fun z2 K k1 k2 k3 => Or.inl ⟨rfl, ?_⟩)
        · rw [if_pos z2] at h0
          refine h0 rfl _ ?_
          rw [show (nm C (p2 + 1) 1 5).2.1 = p2 + 1 by omega]
          exact r3
        · rw [if_neg (by omega)] at h1
          refine h1 rfl K (r3.tr k1) ⟨?_, ?_, Or.inr k2⟩
          · rw [k3 111 (by decide) (by decide), sh_u_ne (by decide)]
            exact e111
          · rw [k3 112 (by decide) (by decide), sh_u_ne (by decide)]
            exact j2
      · rw [if_neg w] at h0
        exact h0 rfl J r2
  · have e : thg C p = (0, p, 0, 0, 0) := by unfold thg; rw [if_neg (by omega), if_neg (by omega), if_neg (by omega), if_neg (by omega)]
    rw [e] at h0
    exact h0 rfl I r0
/-! the reference -/
def RX (I : sh_Mem) (C : Int → Int) (n : Int) : Prop := CT C n ∧ I 119 10 = n ∧ cd (I 125) n = C
theorem RX.of {I J : sh_Mem} {C : Int → Int} {n : Int} (h : RX I C n) (h1 : J 119 10 = I 119 10) (h2 : J 125 = I 125) : RX J C n := ⟨h.1, by rw [h1]; exact h.2.1, by rw [h2]; exact h.2.2⟩
/-- read up to p; beside it the number read and the row k alone have changed -/
def RR (I J : sh_Mem) (k p : Int) : Prop := (∀ o, o ≠ 119 → o ≠ 126 → o ≠ 127 → o ≠ 128 → J o = I o) ∧ (∀ f, f ≠ 11 → f ≠ 12 → J 119 f = I 119 f) ∧ J 119 11 = p ∧ ∀ o j, (o = 126 ∨ o = 127 ∨ o = 128) → j ≠ k → J o j = I o j
theorem RR.rf {I : sh_Mem} {k : Int} : RR I I k (I 119 11) := ⟨fun _ _ _ _ _ => rfl, fun _ _ _ => rfl, rfl, fun _ _ _ _ => rfl⟩
theorem RR.tr {I J K : sh_Mem} {k p p' : Int} (h : RR I J k p) (g : RR J K k p') : RR I K k p' := ⟨fun o a b c d => (g.1 o a b c d).trans (h.1 o a b c d), fun f a b => (g.2.1 f a b).trans (h.2.1 f a b), g.2.2.1, fun o j a b => (g.2.2.2 o j a b).trans (h.2.2.2 o j a b)⟩
theorem RR.rx {I J : sh_Mem} {k p : Int} {C : Int → Int} {n : Int} (h : RR I J k p) (ht : RX I C n) : RX J C n := ht.of (h.2.1 10 (by decide) (by decide)) (h.1 125 (by decide) (by decide) (by decide) (by decide))
theorem RR.sg {I J : sh_Mem} {k p p' : Int} (h : RR I J k p) : RR I (sh_u J 119 11 p') k p' := by
  refine ⟨fun o' a b c d => ?_, fun f a b => ?_, by simp [sh_u], fun o' j a b => ?_⟩
  · rw [sh_u_ne a]
    exact h.1 o' a b c d
  · rw [sh_u_nf a]
    exact h.2.1 f a b
  · rw [sh_u_ne (by omega)]
    exact h.2.2.2 o' j a b
theorem RR.nu {I J : sh_Mem} {k p x : Int} (h : RR I J k p) : RR I (sh_u J 119 12 x) k p := by
  refine ⟨fun o' a b c d => ?_, fun f a b => ?_, by rw [← h.2.2.1]; simp [sh_u], fun o' j a b => ?_⟩
  · rw [sh_u_ne a]
    exact h.1 o' a b c d
  · rw [sh_u_nf b]
    exact h.2.1 f a b
  · rw [sh_u_ne (by omega)]
    exact h.2.2.2 o' j a b
theorem RR.rw {I J : sh_Mem} {k p x : Int} {o : Nat} (h : RR I J k p) (ho : o = 126 ∨ o = 127 ∨ o = 128) : RR I (sh_u J o k x) k p := by
  refine ⟨fun o' a b c d => ?_, fun f a b => ?_, ?_, fun o' j a b => ?_⟩
  · rw [sh_u_ne (by omega)]
    exact h.1 o' a b c d
  · rw [sh_u_ne (by omega)]
    exact h.2.1 f a b
  · rw [sh_u_ne (by omega)]
    exact h.2.2.1
  · have e : sh_u J o k x o' j = J o' j := by simp [sh_u, b]
    rw [e]
    exact h.2.2.2 o' j a b
theorem r_codeP {I : sh_Mem} {Q : Int → sh_Mem → Prop} {C : Int → Int} {n p : Int} (ep : I 119 11 = p) (ht : RX I C n) (hp : 0 ≤ p ∧ p ≤ 1000) (h : Q (if C p = -1 then 0 else C p) I) : cc mX7_code [.inr 119] I (qi Q) := by
  subst ep
  obtain ⟨h1, h2, h3⟩ := ht
  have hn := h1.1
  have hc := h1.2 (I 119 11)
  refine eX7_code ⟨bdi (by omega), bdi (by omega), fun q => ?_, fun q => ⟨by omega, ?_⟩⟩
  · rw [if_pos (hc.1 (by omega))] at h
    exact h
  · rw [if_neg (by have := hc.2 (by omega); omega), ← h3] at h
    unfold cd at h
    rw [if_pos (by omega)] at h
    exact h
theorem sh_u_id {I : sh_Mem} {o : Nat} {f x : Int} (h : I o f = x) : sh_u I o f x = I := by
  funext a b
  unfold sh_u
  by_cases e : a = o ∧ b = f
  · rw [if_pos e, e.1, e.2, h]
  · rw [if_neg e]
theorem r_takesP {x : Int} {I : sh_Mem} {Q : Int → sh_Mem → Prop} {C : Int → Int} {n p : Int} (ep : I 119 11 = p) (ht : RX I C n) (hp : 0 ≤ p ∧ p ≤ 1000) (hx : 0 ≤ x ∧ x ≤ 1000) (h1 : C p = x → Q 1 (sh_u I 119 11 (p + 1))) (h0 : ¬ C p = x → Q 0 I) : cc mX7_takes [.inr 119, .inl x] I (qi Q) := by
  subst ep
  have ht2 := ht
  obtain ⟨g1, g2, g3⟩ := ht2
  have hn := g1.1
  have hc := g1.2 (I 119 11)
  have no : ¬ C (I 119 11) = x → kk mX7_takes 29 [some (.inr 119), none, none] [.inl 0] I (qi Q) := fun q => by
    refine lX7_takes_29 ⟨bd_lit (by decide), fun _ => ⟨z01_0, ?_⟩, fun q => absurd rfl q⟩
    rw [sh_u_id (by omega)]
    exact h0 q
  refine eX7_takes ⟨bdi (by omega), bdi (by omega), fun q => no (by have := hc.1 (by omega); omega), fun q => ⟨by omega, ?_⟩⟩
  have e : C (I 119 11) = I 125 (I 119 11) := by
    rw [← g3]
    unfold cd
    rw [if_pos (by omega)]
  have := hc.2 (by omega)
  rw [← e]
  exact ⟨bdi (by omega), bdi (by omega), fun q2 => no q2, fun q2 => lX7_takes_29 ⟨bd_lit (by decide), fun q3 => absurd q3 (by decide), fun _ => ⟨z01_1, h1 q2⟩⟩⟩
theorem r_isDigitP {I : sh_Mem} {Q : Int → sh_Mem → Prop} {C : Int → Int} {n p : Int} (ep : I 119 11 = p) (ht : RX I C n) (hp : 0 ≤ p ∧ p ≤ 1000) (h1 : (48 ≤ C p ∧ C p ≤ 57) → Q 1 I) (h0 : ¬ (48 ≤ C p ∧ C p ≤ 57) → Q 0 I) : cc mX7_isDigit [.inr 119] I (qi Q) := by
  subst ep
  obtain ⟨g1, g2, g3⟩ := ht
  have hn := g1.1
  have hc := g1.2 (I 119 11)
  refine eX7_isDigit ⟨bdi (by omega), bdi (by omega), fun q => h0 (by have := hc.1 (by omega); omega), fun q => ⟨by omega, ?_⟩⟩
  have e : C (I 119 11) = I 125 (I 119 11) := by
    rw [← g3]
    unfold cd
    rw [if_pos (by omega)]
  have := hc.2 (by omega)
  rw [← e]
  exact s_in (bdi (by omega)) (bd_lit (by decide)) (bd_lit (by decide)) (fun q => Or.inl ⟨rfl, h1 q⟩) (fun q => Or.inr ⟨rfl, h0 q⟩)
theorem r_readsP {lo hi k : Int} {I : sh_Mem} {Q : Int → sh_Mem → Prop} {C : Int → Int} {n p : Int} (ep : I 119 11 = p) (hlo : 0 ≤ lo ∧ lo ≤ 9) (hhi : 0 ≤ hi ∧ hi ≤ 99) (ht : RX I C n) (hp : 0 ≤ p ∧ p ≤ 900) (h0 : (nm C p lo hi).1 = 0 → Q 0 I) (h1 : (nm C p lo hi).1 = 1 → ∀ J, RR I J k (nm C p lo hi).2.1 → J 119 12 = (nm C p lo hi).2.2 → (∀ o, o ≠ 119 → J o = I o) → Q 1 J) : cc mX7_reads [.inr 119, .inl lo, .inl hi] I (qi Q) := by
  have no : (¬ (48 ≤ C p ∧ C p ≤ 57) ∨ ¬ (lo ≤ C p - 48 ∧ C p - 48 ≤ hi)) → Q 0 I := fun z => h0 (by unfold nm; rw [if_pos z])
  refine eX7_reads (r_isDigitP ep ht (by omega) (fun d => Or.inl ⟨rfl, r_codeP ep ht (by omega) ?_⟩) (fun d => Or.inr ⟨rfl, no (Or.inl d)⟩))
  rw [if_neg (by omega)]
  refine s_in (bdi (by omega)) (bdi (by omega)) (bdi (by omega)) (fun z => Or.inl ⟨rfl, r_codeP ep ht (by omega) ?_⟩) (fun z => Or.inr ⟨rfl, no (Or.inr z)⟩)
  rw [if_neg (by omega), ep]
  have hf : ¬ (¬ (48 ≤ C p ∧ C p ≤ 57) ∨ ¬ (lo ≤ C p - 48 ∧ C p - 48 ≤ hi)) := by omega
  have r0 : RR I I k p := by rw [← ep]; exact RR.rf
  have r1 : RR I (sh_u (sh_u I 119 12 (C p - 48)) 119 11 (p + 1)) k (p + 1) := r0.nu.sg
  have v1 : sh_u (sh_u I 119 12 (C p - 48)) 119 11 (p + 1) 119 12 = C p - 48 := by simp [sh_u]
  have one : (C p - 48 ≤ 0 ∨ ¬ (48 ≤ C (p + 1) ∧ C (p + 1) ≤ 57) ∨ hi < (C p - 48) * 10 + (C (p + 1) - 48)) → Q 1 (sh_u (sh_u I 119 12 (C p - 48)) 119 11 (p + 1)) := fun z => by
    have en : nm C p lo hi = (1, p + 1, C p - 48) := by unfold nm; rw [if_neg hf, if_pos z]
    rw [en] at h1
    exact h1 rfl _ r1 v1 (fun o ho => by rw [sh_u_ne ho, sh_u_ne ho])
  refine lX7_reads_45 ⟨by rw [v1]; exact bdi (by omega), fun q => ?_, fun q => ?_⟩
  · rw [v1] at q
    exact one (Or.inl q)
  · rw [v1] at q
    refine r_isDigitP r1.2.2.1 (r1.rx ht) (by omega) (fun d2 => Or.inl ⟨rfl, r_codeP r1.2.2.1 (r1.rx ht) (by omega) ?_⟩) (fun d2 => Or.inr ⟨rfl, one (Or.inr (Or.inl d2))⟩)
    rw [if_neg (by omega), v1]
    refine ⟨bdi (by omega), bdi (by omega), fun q2 => one (Or.inr (Or.inr (by omega))), fun q2 => r_codeP r1.2.2.1 (r1.rx ht) (by omega) ?_⟩
    rw [if_neg (by omega), r1.2.2.1]
    have r2 : RR I (sh_u (sh_u (sh_u (sh_u I 119 12 (C p - 48)) 119 11 (p + 1)) 119 12 (10 * (C p - 48) + C (p + 1) - 48)) 119 11 (p + 1 + 1)) k (p + 1 + 1) := r1.nu.sg
    have v2 : sh_u (sh_u (sh_u (sh_u I 119 12 (C p - 48)) 119 11 (p + 1)) 119 12 (10 * (C p - 48) + C (p + 1) - 48)) 119 11 (p + 1 + 1) 119 12 = 10 * (C p - 48) + C (p + 1) - 48 := by simp [sh_u]
    have two : Q 1 (sh_u (sh_u (sh_u (sh_u I 119 12 (C p - 48)) 119 11 (p + 1)) 119 12 (10 * (C p - 48) + C (p + 1) - 48)) 119 11 (p + 1 + 1)) := by
      have en : nm C p lo hi = (1, p + 2, (C p - 48) * 10 + (C (p + 1) - 48)) := by unfold nm; rw [if_neg hf, if_neg (by omega)]
      rw [en] at h1
      refine h1 rfl _ ?_ ?_ (fun o ho => by rw [sh_u_ne ho, sh_u_ne ho, sh_u_ne ho, sh_u_ne ho])
      · rw [show p + 2 = p + 1 + 1 by omega]
        exact r2
      · rw [v2]
        show _ = (C p - 48) * 10 + (C (p + 1) - 48)
        omega
    refine lX7_reads_45 ⟨by rw [v2]; exact bdi (by omega), fun q3 => two, fun q3 => r_isDigitP r2.2.2.1 (r2.rx ht) (by omega) (fun d3 => Or.inl ⟨rfl, r_codeP r2.2.2.1 (r2.rx ht) (by omega) ?_⟩) (fun d3 => Or.inr ⟨rfl, two⟩)⟩
    rw [if_neg (by omega), v2]
    exact ⟨bdi (by omega), bdi (by omega), fun _ => two, fun q4 => absurd q4 (by omega)⟩
