/-! ===== 24: the class's tellings of shadows ===== -/
theorem al_back {c d j k : Int} (hd : 0 ≤ d ∧ d < 4) : al (al c d j) (op d) k = al c d (j - k) := by
  rcases dir4 hd with rfl | rfl | rfl | rfl <;> simp [al, op] <;> omega
theorem di_self {c d : Int} : di c c d = 0 := by
  unfold di
  split
  · split <;> omega
  · split
    · split <;> omega
    · split
      · split <;> omega
      · split <;> omega
def hs (v : Vw) (r : Int) : Prop := ∃ l, (0 ≤ l ∧ l < 3) ∧ 0 < ln v r l
def ish (v : Vw) (r c : Int) : Prop := ∃ l, (0 ≤ l ∧ l < 3) ∧ shd v r l c
/-- where the runner stands in whose shadow c is -/
theorem shd_back {v : Vw} {r l c : Int} (hv : WF v) (hr : isr v r) (hl : 0 ≤ l ∧ l < 3) (hc : 0 ≤ c ∧ c < 100) (h : shd v r l c) : ∃ j, 1 ≤ j ∧ j ≤ ln v r l ∧ v 6 r = al c (v 2 l) j ∧ j ≤ te c (v 2 l) := by
  obtain ⟨j, h1, h2, h3⟩ := (shd_iff hv hr hl hc).mp h
  have hcr := hv.cell hr.1 hr.2
  have hw := (hv.lampw hl).1
  have hln := ln_in hv hr hl
  have e : al (al (v 6 r) (aw v l) j) (v 2 l) j = v 6 r := by
    have h9 := al_back (c := v 6 r) (d := aw v l) (j := j) (k := j) aw_in
    unfold aw at h9 ⊢
    rw [op_op hw] at h9
    rw [h9, show j - j = 0 by omega, al0]
  rw [h3] at e
  have hj : di c (v 6 r) (v 2 l) = j := by
    have h9 := di_op (d := aw v l) hcr hc aw_in
    unfold aw at h9 h3 hln
    rw [op_op hw] at h9
    rw [h9, ← h3, di_al hcr op_in ⟨by omega, by omega⟩]
  refine ⟨j, h1, h2, e.symm, ?_⟩
  rw [← hj]
  exact (al_di hc hcr hw (by omega)).1
theorem shd_front {v : Vw} {r l c j : Int} (hv : WF v) (hr : isr v r) (hl : 0 ≤ l ∧ l < 3) (hc : 0 ≤ c ∧ c < 100) (hj : 1 ≤ j) (hjt : j ≤ te c (v 2 l)) (e : v 6 r = al c (v 2 l) j) (hfree : ∀ k, 1 ≤ k → k < j → st v (al c (v 2 l) k) = -5) (hcap : v 5 l = 1 ∧ j ≤ v 7 r * v 3 l) : shd v r l c := by
  have hcr := hv.cell hr.1 hr.2
  have hw := (hv.lampw hl).1
  have hdi : di (v 6 r) c (aw v l) = j := by
    unfold aw
    rw [di_op hc hcr hw, e, di_al hc hw ⟨by omega, hjt⟩]
  have h1 := al_di hcr hc (aw_in (v := v) (l := l)) (by omega)
  rw [hdi] at h1
  have hm : j ≤ mx v r l := by
    unfold mx
    rw [if_pos hcap.1]
    omega
  refine ⟨by omega, ?_⟩
  rw [hdi]
  rcases Int.lt_or_le (ln v r l) j with hlt | hle
  · exfalso
    have hs := ln_spec hv hr hl
    have h2 := hs.2.2 (by omega)
    apply h2.2
    have e2 : al (v 6 r) (aw v l) (ln v r l) = al c (v 2 l) (j - ln v r l) := by
      rw [e]
      exact al_back hw
    rw [e2]
    exact hfree _ (by omega) (by omega)
  · exact hle
def ShIs (v : Vw) (c l x : Int) : Prop := (x = -5 ∧ ∀ r, isr v r → ¬ shd v r l c) ∨ (isr v x ∧ shd v x l c)
theorem s_shadowEnd {b : Nat} {r l : Int} {I : sh_Mem} {Q : Int → sh_Mem → Prop} (hb : sh_isP b) (hv : WF (vP I b)) (hr : isr (vP I b) r) (hl : 0 ≤ l ∧ l < 3) (h0 : ln (vP I b) r l = 0 → Q (-5) I) (h1 : 1 ≤ ln (vP I b) r l → Q (al (vP I b 6 r) (aw (vP I b) l) (ln (vP I b) r l)) I) : cc mX4_shadowEnd [.inr b, .inl r, .inl l] I (qi Q) := by
  have hm := hv.many
  have hln := ln_in hv hr hl
  have hr0 := hr
  unfold isr at hr0
  refine eX4_shadowEnd hb (s_shadowLength hb hv (bdi (by omega)) (bdi (by omega)) (fun q => absurd ⟨hr, hl⟩ q) (fun _ => ⟨bdi (by omega), fun q => h0 q, fun q => s_has hb hv (bdi (by omega)) (fun _ => Or.inl ⟨rfl, s_isLamp (bdi (by omega)) (fun _ => Or.inl ⟨rfl, by omega, by omega, ?_⟩) (fun q => absurd hl q)⟩) (fun q => absurd hr q)⟩))
  rw [rP2 (I := I) (b := b) hl, rP6 (I := I) (b := b) (i := r) (by omega)]
  exact s_opposite (hv.lampw hl).1 (s_cellAlong op_in (h1 (by omega)))
theorem s_hasShadow {b : Nat} {r : Int} {I : sh_Mem} {Q : Int → sh_Mem → Prop} (hb : sh_isP b) (hv : WF (vP I b)) (hr : isr (vP I b) r) (h1 : hs (vP I b) r → Q 1 I) (h0 : ¬ hs (vP I b) r → Q 0 I) : cc mX4_hasShadow [.inr b, .inl r] I (qi Q) := by
  have hm := hv.many
  have hr0 := hr
  unfold isr at hr0
  refine eX4_hasShadow hb ?_
  have key : ∀ (n : Nat) (y : Int), 0 ≤ y → y + (n : Int) = 3 → (∀ l, 0 ≤ l → l < y → ¬ 0 < ln (vP I b) r l) → kk mX4_hasShadow 2 [some (.inr b), some (.inl r), some (.inl y)] [] I (qi Q) := by
    intro n
    induction n with
    | zero => exact fun y g0 g1 g2 => lX4_hasShadow_2 hb ⟨bdi (by omega), fun q => h0 (fun ⟨l, q1, q2⟩ => g2 l q1.1 (by omega) q2), fun q => absurd q (by omega)⟩
    | succ n ih =>
      intro y g0 g1 g2
      have hln := ln_in hv hr (l := y) (by omega)
      refine lX4_hasShadow_2 hb ⟨bdi (by omega), fun q => absurd q (by omega), fun q => s_shadowLength hb hv (bdi (by omega)) (bdi (by omega)) (fun q => absurd ⟨hr, by omega⟩ q) (fun _ => ⟨bdi (by omega), fun q2 => ih (y + 1) (by omega) (by omega) (fun l l1 l2 => ?_), fun q2 => h1 ⟨y, by omega, q2⟩⟩)⟩
      by_cases e : l = y
      · rw [e]
        omega
      · exact g2 l l1 (by omega)
  exact key 3 0 (by omega) (by omega) (fun l a b => absurd b (by omega))
theorem s_isInShadow {b : Nat} {c r l : Int} {I : sh_Mem} {Q : Int → sh_Mem → Prop} (hb : sh_isP b) (hv : WF (vP I b)) (hc : 0 ≤ c ∧ c < 100) (hr : isr (vP I b) r) (hl : 0 ≤ l ∧ l < 3) (h1 : shd (vP I b) r l c → Q 1 I) (h0 : ¬ shd (vP I b) r l c → Q 0 I) : cc mX4_isInShadow [.inr b, .inl c, .inl r, .inl l] I (qi Q) := by
  have hm := hv.many
  have hln := ln_in hv hr hl
  have hr0 := hr
  unfold isr at hr0
  have hcr := hv.cell hr.1 hr.2
  have hdb := di_bd (d := aw (vP I b) l) hcr hc
  refine eX4_isInShadow hb (s_has hb hv (bdi (by omega)) (fun _ => Or.inl ⟨rfl, s_isLamp (bdi (by omega)) (fun _ => Or.inl ⟨rfl, by omega, hl, ?_⟩) (fun q => absurd hl q)⟩) (fun q => absurd hr q))
  rw [rP2 (I := I) (b := b) hl, rP6 (I := I) (b := b) (i := r) (by omega)]
  refine s_opposite (hv.lampw hl).1 ?_
  rw [show op (vP I b 2 l) = aw (vP I b) l from rfl]
  refine s_distanceAlong hcr hc aw_in ?_
  exact ⟨bdi (by omega), fun q => h0 (fun z => by have := z.1; omega), fun q => s_shadowLength hb hv (bdi (by omega)) (bdi (by omega)) (fun q => absurd ⟨hr, hl⟩ q) (fun _ => ⟨bdi (by omega), fun q2 => h0 (fun z => by have := z.2; omega), fun q2 => h1 ⟨q, q2⟩⟩)⟩
theorem s_shadowerOf {b : Nat} {c l : Int} {I : sh_Mem} {Q : Int → sh_Mem → Prop} (hb : sh_isP b) (hv : WF (vP I b)) (hc : 0 ≤ c ∧ c < 100) (hl : 0 ≤ l ∧ l < 3) (h : ∀ x, ShIs (vP I b) c l x → Q x I) : cc mX4_shadowerOf [.inr b, .inl c, .inl l] I (qi Q) := by
  have hm := hv.many
  have hw := hv.lampw hl
  have e5 := rP5 (I := I) (b := b) hl
  refine eX4_shadowerOf hb (s_isCell (bdi (by omega)) (fun _ => Or.inl ⟨rfl, s_isLamp (bdi (by omega)) (fun _ => Or.inl ⟨rfl, hl, bdi (by omega), fun q => ?_, fun q => h _ (Or.inl ⟨rfl, fun r hr hs => ?_⟩)⟩) (fun q => absurd hl q)⟩) (fun q => absurd hc q))
  · rw [rP2 (I := I) (b := b) hl]
    refine s_cellsToEdge hc hw.1 ?_
    have hte := te_in (d := vP I b 2 l) hc
    have hon : vP I b 5 l = 1 := by omega
    have key : ∀ (n : Nat) (y : Int), 1 ≤ y → y + (n : Int) = te c (vP I b 2 l) + 1 → (∀ k, 1 ≤ k → k < y → st (vP I b) (al c (vP I b 2 l) k) = -5) → kk mX4_shadowerOf 49 [some (.inr b), some (.inl c), some (.inl l), some (.inl (vP I b 2 l)), some (.inl (te c (vP I b 2 l))), some (.inl y), none] [] I (qi Q) := by
      intro n
      induction n with
      | zero =>
        intro y g0 g1 g2
        refine lX4_shadowerOf_49 hb ⟨bdi (by omega), bdi (by omega), fun q => h _ (Or.inl ⟨rfl, fun r hr hs => ?_⟩), fun q => absurd q (by omega)⟩
        obtain ⟨j, j1, j2, j3, j4⟩ := shd_back hv hr hl hc hs
        have h9 := g2 j j1 (by omega)
        rw [← j3, st_is hv hr rfl] at h9
        have := hr.1
        omega
      | succ n ih =>
        intro y g0 g1 g2
        have hal := al_in (k := y) hc hw.1 ⟨by omega, by omega⟩
        have hsb := st_bd hv (al c (vP I b 2 l) y)
        refine lX4_shadowerOf_49 hb ⟨bdi (by omega), bdi (by omega), fun q => absurd q (by omega), fun q => s_cellAlong hw.1 (s_standingOn hb hv (bdi (by omega)) (s_has hb hv (bdi (by omega)) (fun hr => Or.inl ⟨rfl, ?_⟩) (fun hr => Or.inr ⟨rfl, ih (y + 1) (by omega) (by omega) (fun k k1 k2 => ?_)⟩)))⟩
        · generalize hx : st (vP I b) (al c (vP I b 2 l) y) = x at *
          have hne : ¬ st (vP I b) (al c (vP I b 2 l) y) = -5 := by have := hr.1; omega
          have hcx := (st_ne hv hne).2
          rw [hx] at hcx
          have hr0 := hr
          unfold isr at hr0
          have hmu := mul_bd (hv.run hr.1 hr.2).2.1 hw.2.1
          rw [rP7 (I := I) (b := b) (i := x) (by omega), rP3 (I := I) (b := b) hl]
          refine ⟨by omega, hl, bdi (by omega), fun q2 => h _ (Or.inl ⟨rfl, fun s hs hsh => ?_⟩), fun q2 => h _ (Or.inr ⟨hr, shd_front hv hr hl hc g0 (by omega) hcx g2 ⟨hon, q2⟩⟩)⟩
          obtain ⟨j, j1, j2, j3, j4⟩ := shd_back hv hs hl hc hsh
          rcases Int.lt_trichotomy j y with h9 | h9 | h9
          · have h8 := g2 j j1 h9
            rw [← j3, st_is hv hs rfl] at h8
            have := hs.1
            omega
          · subst h9
            have e9 : s = x := hv.apart hs.1 hs.2 hr.1 hr.2 (j3.trans hcx.symm)
            subst e9
            have h8 := (ln_spec hv hs hl).1.2
            unfold mx at h8
            rw [if_pos hon] at h8
            omega
          · have h8 := (ln_spec hv hs hl).2.1 (j - y) (by omega) (by omega)
            have e9 : al (vP I b 6 s) (aw (vP I b) l) (j - y) = vP I b 6 x := by
              rw [j3, hcx]
              unfold aw
              rw [al_back hw.1]
              congr 1
              omega
            rw [e9, st_is hv hr rfl] at h8
            omega
        · by_cases e : k = y
          · rw [e]
            rcases st_spec hv (al c (vP I b 2 l) y) with h9 | h9
            · exact h9.1
            · exact absurd h9.1 hr
          · exact g2 k k1 (by omega)
    exact key (te c (vP I b 2 l)).toNat 1 (by omega) (by omega) (fun k a b => absurd b (by omega))
  · have h8 := (ln_spec hv hr hl).1
    have hon : ¬ vP I b 5 l = 1 := by omega
    unfold mx at h8
    rw [if_neg hon] at h8
    have := hs.1
    have := hs.2
    omega
theorem ShIs.bd {v : Vw} {c l x : Int} (hv : WF v) (h : ShIs v c l x) : -5 ≤ x ∧ x < 6 := by
  have hm := hv.many
  rcases h with ⟨h, -⟩ | ⟨h, -⟩
  · omega
  · unfold isr at h
    omega
/-- who is tagged now -/
def CaN (v : Vw) (n x : Int) : Prop := (x = -5 ∧ ∀ r, isr v r → v 9 r = 0 → ∀ l, 0 ≤ l → l < n → ¬ shd v r l (v 6 (v 0 1))) ∨ (isr v x ∧ v 9 x = 0 ∧ (∃ l, (0 ≤ l ∧ l < n) ∧ shd v x l (v 6 (v 0 1))) ∧ ∀ r, isr v r → v 9 r = 0 → ∀ l, 0 ≤ l → l < n → shd v r l (v 6 (v 0 1)) → x ≤ r)
def CaIs (v : Vw) (x : Int) : Prop := (v 0 6 = 0 ∧ x = -5) ∨ (¬ v 0 6 = 0 ∧ CaN v 3 x)
theorem CaIs_uniq {v : Vw} {x y : Int} (h1 : CaIs v x) (h2 : CaIs v y) : x = y := by
  rcases h1 with ⟨a1, a2⟩ | ⟨a1, a2⟩ <;> rcases h2 with ⟨b1, b2⟩ | ⟨b1, b2⟩
  · omega
  · exact absurd a1 b1
  · exact absurd b1 a1
  · rcases a2 with ⟨c1, c2⟩ | ⟨c1, c2, ⟨l, c3, c4⟩, c5⟩ <;> rcases b2 with ⟨d1, d2⟩ | ⟨d1, d2, ⟨k, d3, d4⟩, d5⟩
    · omega
    · exact absurd d4 (c2 y d1 d2 k d3.1 d3.2)
    · exact absurd c4 (d2 x c1 c2 l c3.1 c3.2)
    · have h3 := c5 y d1 d2 k d3.1 d3.2 d4
      have h4 := d5 x c1 c2 l c3.1 c3.2 c4
      omega
noncomputable def ca (v : Vw) : Int := Classical.epsilon (fun x => CaIs v x)
theorem ca_is {v : Vw} {x : Int} (h : CaIs v x) : ca v = x := CaIs_uniq (Classical.epsilon_spec (p := fun x => CaIs v x) ⟨x, h⟩) h
theorem s_firstCaught {b : Nat} {I : sh_Mem} {Q : Int → sh_Mem → Prop} (hb : sh_isP b) (hv : WF (vP I b)) (h : CaIs (vP I b) (ca (vP I b)) → Q (ca (vP I b)) I) : cc mX4_firstCaught [.inr b] I (qi Q) := by
  have hm := hv.many
  have e1 : I (b + 1) 8 = vP I b 0 1 := rP0_1
  have hcb := hv.2.1
  have fin : ∀ x, CaIs (vP I b) x → Q x I := fun x hx => by
    have e := ca_is hx
    rw [e] at h
    exact h hx
  refine eX4_firstCaught hb (s_has hb hv (bdi (by omega)) (fun hc => Or.inl ⟨rfl, ?_⟩) (fun hc => Or.inr ⟨rfl, fin _ (Or.inl ⟨?_, rfl⟩)⟩))
  · rw [e1] at hc ⊢
    have hc0 := hc
    unfold isr at hc0
    have hcc := hv.cell hc.1 hc.2
    rw [rP6 (I := I) (b := b) (i := vP I b 0 1) (by omega)]
    refine ⟨by omega, ?_⟩
    have key : ∀ (n : Nat) (y x : Int), 0 ≤ y → y + (n : Int) = 3 → CaN (vP I b) y x → kk mX4_firstCaught 41 [some (.inr b), some (.inl (vP I b 6 (vP I b 0 1))), some (.inl x), some (.inl y), none] [] I (qi Q) := by
      intro n
      induction n with
      | zero =>
        intro y x g0 g1 g2
        have : y = 3 := by omega
        subst this
        exact lX4_firstCaught_41 hb ⟨bdi (by omega), fun q => fin _ (Or.inr ⟨by omega, g2⟩), fun q => absurd q (by omega)⟩
      | succ n ih =>
        intro y x g0 g1 g2
        have hxb : -5 ≤ x ∧ x < 6 := by
          rcases g2 with ⟨z, -⟩ | ⟨z, -⟩
          · omega
          · unfold isr at z
            omega
        refine lX4_firstCaught_41 hb ⟨bdi (by omega), fun q => absurd q (by omega), fun q => s_shadowerOf hb hv hcc (by omega) (fun s hs => ?_)⟩
        have hsb := hs.bd hv
        -- a lamp that brings nobody new
        have skip : (∀ r, isr (vP I b) r → vP I b 9 r = 0 → shd (vP I b) r y (vP I b 6 (vP I b 0 1)) → ¬ x = -5 ∧ x ≤ r) → CaN (vP I b) (y + 1) x := by
          intro hsk
          rcases g2 with ⟨z1, z2⟩ | ⟨z1, z2, ⟨l, z3, z4⟩, z5⟩
          · refine Or.inl ⟨z1, fun r hr hr9 l l1 l2 hsd => ?_⟩
            by_cases e : l = y
            · subst e
              exact (hsk r hr hr9 hsd).1 z1
            · exact z2 r hr hr9 l l1 (by omega) hsd
          · refine Or.inr ⟨z1, z2, ⟨l, by omega, z4⟩, fun r hr hr9 l l1 l2 hsd => ?_⟩
            by_cases e : l = y
            · subst e
              exact (hsk r hr hr9 hsd).2
            · exact z5 r hr hr9 l l1 (by omega) hsd
        have take : isr (vP I b) s → shd (vP I b) s y (vP I b 6 (vP I b 0 1)) → vP I b 9 s = 0 → (x = -5 ∨ s < x) → CaN (vP I b) (y + 1) s := by
          intro h1 h2 h3 h4
          refine Or.inr ⟨h1, h3, ⟨y, by omega, h2⟩, fun r hr hr9 l l1 l2 hsd => ?_⟩
          by_cases e : l = y
          · subst e
            have := shd_one hv hr h1 (by omega) hcc hsd h2
            omega
          · rcases g2 with ⟨z1, z2⟩ | ⟨z1, z2, -, z5⟩
            · exact absurd hsd (z2 r hr hr9 l l1 (by omega))
            · have := z5 r hr hr9 l l1 (by omega) hsd
              have := z1.1
              omega
        refine s_has hb hv (bdi (by omega)) (fun hss => Or.inl ⟨rfl, ?_⟩) (fun hss => Or.inr ⟨rfl, ih (y + 1) x (by omega) (by omega) (skip (fun r hr hr9 hsd => ?_))⟩)
        · have hss0 := hss
          unfold isr at hss0
          have hsh : shd (vP I b) s y (vP I b 6 (vP I b 0 1)) := by
            rcases hs with ⟨z, -⟩ | ⟨-, z⟩
            · omega
            · exact z
          have hres := (hv.run hss.1 hss.2).2.2.2
          rw [rP9 (I := I) (b := b) (i := s) (by omega)]
          refine ⟨by omega, bdi (by omega), fun q2 => ih (y + 1) x (by omega) (by omega) (skip (fun r hr hr9 hsd => ?_)), fun q2 => ⟨bdi (by omega), fun q3 => ih (y + 1) s (by omega) (by omega) (take hss hsh q2 (Or.inl q3)), fun q3 => ⟨bdi (by omega), fun q4 => ih (y + 1) x (by omega) (by omega) (skip (fun r hr hr9 hsd => ?_)), fun q4 => ih (y + 1) s (by omega) (by omega) (take hss hsh q2 (Or.inr q4))⟩⟩⟩
          · have := shd_one hv hr hss (by omega) hcc hsd hsh
            subst this
            exact absurd hr9 q2
          · have := shd_one hv hr hss (by omega) hcc hsd hsh
            subst this
            exact ⟨q3, q4⟩
        · rcases hs with ⟨-, z⟩ | ⟨z, -⟩
          · exact absurd hsd (z r hr)
          · exact absurd z hss
    exact key 3 0 (-5) (by omega) (by omega) (Or.inl ⟨rfl, fun r _ _ l l1 l2 => absurd l2 (by omega)⟩)
  · rw [e1] at hc
    unfold isr at hc
    omega
theorem s_catcherStands {b : Nat} {r : Int} {I : sh_Mem} {Q : Int → sh_Mem → Prop} (hb : sh_isP b) (hv : WF (vP I b)) (hr : isr (vP I b) r) (h1 : ish (vP I b) r (vP I b 6 (vP I b 0 1)) → Q 1 I) (h0 : ¬ ish (vP I b) r (vP I b 6 (vP I b 0 1)) → Q 0 I) : cc mX4_catcherStandsInShadowOf [.inr b, .inl r] I (qi Q) := by
  have hm := hv.many
  have e1 : I (b + 1) 8 = vP I b 0 1 := rP0_1
  have hcb := hv.2.1
  have hr0 := hr
  unfold isr at hr0
  have hc : isr (vP I b) (vP I b 0 1) := by unfold isr; omega
  refine eX4_catcherStandsInShadowOf hb (s_has hb hv (bdi (by omega)) (fun _ => Or.inl ⟨rfl, ?_⟩) (fun q => absurd (by rw [e1]; exact hc) q))
  rw [e1]
  have hcc := hv.cell hc.1 hc.2
  rw [rP6 (I := I) (b := b) (i := vP I b 0 1) (by omega)]
  refine ⟨by omega, ?_⟩
  have key : ∀ (n : Nat) (y : Int), 0 ≤ y → y + (n : Int) = 3 → (∀ l, 0 ≤ l → l < y → ¬ shd (vP I b) r l (vP I b 6 (vP I b 0 1))) → kk mX4_catcherStandsInShadowOf 37 [some (.inr b), some (.inl r), some (.inl (vP I b 6 (vP I b 0 1))), some (.inl y)] [] I (qi Q) := by
    intro n
    induction n with
    | zero => exact fun y g0 g1 g2 => lX4_catcherStandsInShadowOf_37 hb ⟨bdi (by omega), fun q => h0 (fun ⟨l, q1, q2⟩ => g2 l q1.1 (by omega) q2), fun q => absurd q (by omega)⟩
    | succ n ih =>
      intro y g0 g1 g2
      refine lX4_catcherStandsInShadowOf_37 hb ⟨bdi (by omega), fun q => absurd q (by omega), fun q => s_isInShadow hb hv hcc hr (by omega) (fun q2 => Or.inl ⟨rfl, h1 ⟨y, by omega, q2⟩⟩) (fun q2 => Or.inr ⟨rfl, ih (y + 1) (by omega) (by omega) (fun l l1 l2 => ?_)⟩)⟩
      by_cases e : l = y
      · rw [e]
        exact q2
      · exact g2 l l1 (by omega)
  exact key 3 0 (by omega) (by omega) (fun l a b => absurd b (by omega))
