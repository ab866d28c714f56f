/-! ===== 25: the reference's tellings of shadows; its row is the object 120, its scratch the fields 7 and 8 of 119 and the row 124 ===== -/
def MT (I I' : sh_Mem) : Prop := (∀ o, o ≠ 119 → o ≠ 120 → o ≠ 124 → I' o = I o) ∧ ∀ f, f ≠ 7 → f ≠ 8 → I' 119 f = I 119 f
def MS (I I' : sh_Mem) : Prop := MT I I' ∧ I' 120 = I 120
theorem MT.rf {I : sh_Mem} : MT I I := ⟨fun _ _ _ _ => rfl, fun _ _ _ => rfl⟩
theorem MS.rf {I : sh_Mem} : MS I I := ⟨MT.rf, rfl⟩
theorem MT.tr {I J K : sh_Mem} (h : MT I J) (g : MT J K) : MT I K := ⟨fun o a b c => (g.1 o a b c).trans (h.1 o a b c), fun f a b => (g.2 f a b).trans (h.2 f a b)⟩
theorem MS.tr {I J K : sh_Mem} (h : MS I J) (g : MS J K) : MS I K := ⟨h.1.tr g.1, g.2.trans h.2⟩
theorem MT.u119 {I J : sh_Mem} {f x : Int} (h : MT I J) (hf : f = 7 ∨ f = 8) : MT I (sh_u J 119 f x) := ⟨fun o a b c => by rw [sh_u_ne a]; exact h.1 o a b c, fun g a b => by
  have : ¬ g = f := by omega
  simp only [sh_u, this, and_false, if_false]
  exact h.2 g a b⟩
theorem MS.u119 {I J : sh_Mem} {f x : Int} (h : MS I J) (hf : f = 7 ∨ f = 8) : MS I (sh_u J 119 f x) := ⟨h.1.u119 hf, by rw [sh_u_ne (by decide)]; exact h.2⟩
theorem MT.u124 {I J : sh_Mem} {f x : Int} (h : MT I J) : MT I (sh_u J 124 f x) := ⟨fun o a b c => by rw [sh_u_ne c]; exact h.1 o a b c, fun g a b => by rw [sh_u_ne (by decide)]; exact h.2 g a b⟩
theorem MS.u124 {I J : sh_Mem} {f x : Int} (h : MS I J) : MS I (sh_u J 124 f x) := ⟨h.1.u124, by rw [sh_u_ne (by decide)]; exact h.2⟩
theorem MT.u120 {I J : sh_Mem} {f x : Int} (h : MT I J) : MT I (sh_u J 120 f x) := ⟨fun o a b c => by rw [sh_u_ne b]; exact h.1 o a b c, fun g a b => by rw [sh_u_ne (by decide)]; exact h.2 g a b⟩
theorem MT.o120 {I J K : sh_Mem} (h : MT I J) (hk : ∀ o, o ≠ 120 → K o = J o) : MT I K := ⟨fun o a b c => (hk o b).trans (h.1 o a b c), fun g a b => by rw [hk 119 (by decide)]; exact h.2 g a b⟩
theorem MS.v {I J : sh_Mem} {v : Vw} (h : MS I J) (ev : vM (I 120) = v) : vM (J 120) = v := by rw [h.2]; exact ev
/-- the runner at whom a shadow ends -/
noncomputable def en (v : Vw) (r l : Int) : Int := if 1 ≤ ln v r l then st v (al (v 6 r) (aw v l) (ln v r l)) else -5
theorem r_follow {r l : Int} {I : sh_Mem} {Q : sh_Mem → Prop} {v : Vw} (ev : vM (I 120) = v) (hv : WF v) (hr : isr v r) (hl : 0 ≤ l ∧ l < 3) (h : ∀ J, MS I J → J 119 7 = ln v r l → J 119 8 = en v r l → (∀ k, 0 ≤ k → k < ln v r l → J 124 k = al (v 6 r) (aw v l) (k + 1)) → Q J) : cc mX7_follow [.inr 119, .inl r, .inl l] I (qv Q) := by
  have hm := hv.many
  have hr0 := hr
  unfold isr at hr0
  have hw := hv.lampw hl
  have hru := hv.run hr.1 hr.2
  have hmx := mx_in hv hr hl
  have hmu := mul_bd hru.2.1 hw.2.1
  have hte := te_in (d := aw v l) hru.1
  -- the loop
  have key : ∀ (n : Nat) (k y3 : Int) (J : sh_Mem), 0 ≤ k → k + (n : Int) = mx v r l → y3 = (if v 5 l = 1 then v 7 r * v 3 l else 0) → MS I J → J 119 7 = k → J 119 8 = (if 1 ≤ k then st v (al (v 6 r) (aw v l) k) else -5) → (∀ j, 1 ≤ j → j < k → st v (al (v 6 r) (aw v l) j) = -5) → (∀ j, 0 ≤ j → j < k → J 124 j = al (v 6 r) (aw v l) (j + 1)) → kk mX7_follow 47 [some (.inr 119), none, some (.inl l), some (.inl y3), some (.inl (al (v 6 r) (aw v l) k))] [] J (qv Q) := by
    intro n
    induction n with
    | zero =>
      intro k y3 J g0 g1 g2 g3 g4 g5 g6 g7
      have hk : k = mx v r l := by omega
      have hal := al_in (k := k) hru.1 (aw_in (v := v) (l := l)) ⟨g0, by omega⟩
      have eln : ln v r l = k := ln_is hv hr hl ⟨⟨g0, by omega⟩, g6, fun q => absurd q (by omega)⟩
      have done : ∀ K, MS I K → K 119 7 = k → K 119 8 = J 119 8 → K 124 = J 124 → Q K := fun K z1 z2 z3 z4 => h K z1 (by rw [eln]; exact z2) (by rw [z3, g5, en, eln]) (fun j j1 j2 => by rw [z4]; exact g7 j j1 (by omega))
      have hsb := st_bd hv (al (v 6 r) (aw v l) k)
      have hy3 : 0 ≤ y3 ∧ y3 ≤ 20 := by
        rw [g2]
        split <;> omega
      refine lX7_follow_47 ⟨bdi (by omega), bdi (by omega), fun q => done J g3 g4 rfl rfl, fun q => ⟨by rw [g5]; split <;> exact bdi (by omega), fun q2 => done J g3 g4 rfl rfl, fun q2 => ⟨bdi (by omega), fun q3 => absurd q3 (by omega), fun q3 => ?_⟩⟩⟩
      -- the edge is reached
      have hkt : te (v 6 r) (aw v l) = k := by
        have h9 := hk
        unfold mx at h9
        rw [← g2] at h9
        omega
      refine r_ofLamp 2 (g3.v ev) hl (by decide) rfl ⟨by omega, ?_⟩
      rw [show (v 2 l + 2) % 4 = aw v l from rfl]
      refine r_next hal aw_in ?_
      rw [nx_al hru.1 aw_in ⟨g0, by omega⟩, if_neg (by omega)]
      refine ⟨bd_lit (by decide), fun _ => ?_, fun q4 => absurd rfl q4⟩
      exact lX7_follow_47 ⟨bdi (by omega), bdi (by omega), fun q => done J g3 g4 rfl rfl, fun q => ⟨by rw [g5]; split <;> exact bdi (by omega), fun q2 => done J g3 g4 rfl rfl, fun q2 => ⟨bd_lit (by decide), fun _ => done J g3 g4 rfl rfl, fun q3 => absurd rfl q3⟩⟩⟩
    | succ n ih =>
      intro k y3 J g0 g1 g2 g3 g4 g5 g6 g7
      have hal := al_in (k := k) hru.1 (aw_in (v := v) (l := l)) ⟨g0, by omega⟩
      have hal1 := al_in (k := k + 1) hru.1 (aw_in (v := v) (l := l)) ⟨by omega, by omega⟩
      have hsb := st_bd hv (al (v 6 r) (aw v l) k)
      have hmx1 : mx v r l ≤ y3 := by
        unfold mx
        rw [g2]
        omega
      have hy3 : 0 ≤ y3 ∧ y3 ≤ 20 := by
        rw [g2]
        split <;> omega
      refine lX7_follow_47 ⟨bdi (by omega), bdi (by omega), fun q => absurd q (by omega), fun q => ⟨by rw [g5]; split <;> exact bdi (by omega), fun q2 => ?_, fun q2 => ⟨bdi (by omega), fun q3 => absurd q3 (by omega), fun q3 => ?_⟩⟩⟩
      · rw [g5] at q2
        have hk1 : 1 ≤ k := by
          rcases Int.lt_or_le 0 k with z | z
          · omega
          · rw [if_neg (by omega)] at q2
            exact absurd rfl q2
        rw [if_pos hk1] at q2
        have eln : ln v r l = k := ln_is hv hr hl ⟨⟨g0, by omega⟩, g6, fun _ => ⟨hk1, q2⟩⟩
        exact h J g3 (by rw [eln]; exact g4) (by rw [g5, en, eln]) (fun j j1 j2 => g7 j j1 (by omega))
      · refine r_ofLamp 2 (g3.v ev) hl (by decide) rfl ⟨by omega, ?_⟩
        rw [show (v 2 l + 2) % 4 = aw v l from rfl]
        refine r_next hal aw_in ?_
        rw [nx_al hru.1 aw_in ⟨g0, by omega⟩, if_pos (by omega)]
        refine ⟨bdi (by omega), fun q4 => absurd q4 (by omega), fun _ => ⟨by omega, ?_⟩⟩
        rw [g4]
        have hJ1 : MS I (sh_u (sh_u J 124 k (al (v 6 r) (aw v l) (k + 1))) 119 7 (k + 1)) := (g3.u124).u119 (Or.inl rfl)
        refine r_runnerAt (hJ1.v ev) hv (bdi (by omega)) ?_
        refine ih (k + 1) y3 _ (by omega) (by omega) g2 (hJ1.u119 (Or.inr rfl)) (by simp [sh_u]) ?_ (fun j j1 j2 => ?_) (fun j j1 j2 => ?_)
        · rw [if_pos (by omega)]
          simp [sh_u]
        · by_cases e : j = k
          · subst e
            rw [g5] at q2
            rwa [if_pos (by omega)] at q2
          · exact g6 j j1 (by omega)
        · by_cases e : j = k
          · subst e
            simp [sh_u]
          · have h9 := g7 j j1 (by omega)
            simp [sh_u, e, h9]
  refine eX7_follow ?_
  have hJ0 : MS I (sh_u (sh_u I 119 7 0) 119 8 (-5)) := (MS.rf.u119 (Or.inl rfl)).u119 (Or.inr rfl)
  have start : ∀ y3, y3 = (if v 5 l = 1 then v 7 r * v 3 l else 0) → kk mX7_follow 47 [some (.inr 119), none, some (.inl l), some (.inl y3), some (.inl (v 6 r))] [] (sh_u (sh_u I 119 7 0) 119 8 (-5)) (qv Q) := by
    intro y3 hy
    have h9 := key (mx v r l).toNat 0 y3 _ (by omega) (by omega) hy hJ0 (by simp [sh_u]) (by simp [sh_u]) (fun j a b => absurd b (by omega)) (fun j a b => absurd b (by omega))
    rwa [al0] at h9
  refine r_ofLamp 5 (hJ0.v ev) hl (by decide) rfl ⟨bdi (by omega), fun q => r_of 6 (hJ0.v ev) (by omega) (by decide) rfl (start 0 (by rw [if_neg q])), fun q => r_of 7 (hJ0.v ev) (by omega) (by decide) rfl (r_ofLamp 3 (hJ0.v ev) hl (by decide) rfl (r_of 6 (hJ0.v ev) (by omega) (by decide) rfl (start _ (by rw [if_pos q]))))⟩
theorem r_isShaded {r l c : Int} {I : sh_Mem} {Q : Int → sh_Mem → Prop} {v : Vw} (ev : vM (I 120) = v) (hv : WF v) (hr : isr v r) (hl : 0 ≤ l ∧ l < 3) (hc : 0 ≤ c ∧ c < 100) (h1 : shd v r l c → ∀ J, MS I J → Q 1 J) (h0 : ¬ shd v r l c → ∀ J, MS I J → Q 0 J) : cc mX7_isShaded [.inr 119, .inl r, .inl l, .inl c] I (qi Q) := by
  have hln := ln_in hv hr hl
  refine eX7_isShaded (r_follow ev hv hr hl (fun J hJ e7 e8 e124 => ?_))
  have hru := hv.run hr.1 hr.2
  have key : ∀ (n : Nat) (y z : Int), 0 ≤ y → y + (n : Int) = ln v r l → ((z = 1 ∧ shd v r l c) ∨ (z = 0 ∧ ∀ k, 0 ≤ k → k < y → ¬ al (v 6 r) (aw v l) (k + 1) = c)) → kk mX7_isShaded 12 [some (.inr 119), none, none, some (.inl c), some (.inl z), some (.inl y)] [] J (qi Q) := by
    intro n
    induction n with
    | zero =>
      intro y z g0 g1 g2
      refine lX7_isShaded_12 ⟨bdi (by omega), bdi (by omega), fun q => ?_, fun q => absurd q (by omega)⟩
      rcases g2 with ⟨z1, z2⟩ | ⟨z1, z2⟩
      · subst z1
        exact ⟨z01_1, h1 z2 J hJ⟩
      · subst z1
        refine ⟨z01_0, h0 (fun hs => ?_) J hJ⟩
        obtain ⟨k, k1, k2, k3⟩ := (shd_iff hv hr hl hc).mp hs
        exact z2 (k - 1) (by omega) (by omega) (by rw [show k - 1 + 1 = k by omega]; exact k3)
    | succ n ih =>
      intro y z g0 g1 g2
      have ey := e124 y g0 (by omega)
      have hal := al_in (k := y + 1) hru.1 (aw_in (v := v) (l := l)) ⟨by omega, by omega⟩
      refine lX7_isShaded_12 ⟨bdi (by omega), bdi (by omega), fun q => absurd q (by omega), fun q => ⟨?_, fun q2 => ih (y + 1) 1 (by omega) (by omega) (Or.inl ⟨rfl, ?_⟩), fun q2 => ⟨by omega, bdi (by omega), bdi (by omega), fun q3 => ih (y + 1) 0 (by omega) (by omega) (Or.inr ⟨rfl, fun k k1 k2 => ?_⟩), fun q3 => ih (y + 1) 1 (by omega) (by omega) (Or.inl ⟨rfl, ?_⟩)⟩⟩⟩
      · rcases g2 with ⟨z1, -⟩ | ⟨z1, -⟩ <;> exact bdi (by omega)
      · rcases g2 with ⟨z1, z2⟩ | ⟨z1, -⟩
        · exact z2
        · exact absurd z1 q2
      · rcases g2 with ⟨z1, -⟩ | ⟨-, z2⟩
        · omega
        · by_cases e : k = y
          · rw [e, ← ey]
            exact q3
          · exact z2 k k1 (by omega)
      · exact (shd_iff hv hr hl hc).mpr ⟨y + 1, by omega, by omega, by rw [← ey]; exact q3⟩
  exact key (ln v r l).toNat 0 0 (by omega) (by omega) (Or.inr ⟨rfl, fun k a b => absurd b (by omega)⟩)
theorem r_isInShadowOf {r c : Int} {I : sh_Mem} {Q : Int → sh_Mem → Prop} {v : Vw} (ev : vM (I 120) = v) (hv : WF v) (hr : isr v r) (hc : 0 ≤ c ∧ c < 100) (h1 : ish v r c → ∀ J, MS I J → Q 1 J) (h0 : ¬ ish v r c → ∀ J, MS I J → Q 0 J) : cc mX7_isInShadowOf [.inr 119, .inl r, .inl c] I (qi Q) := by
  refine eX7_isInShadowOf ?_
  have key : ∀ (n : Nat) (y z : Int) (J : sh_Mem), 0 ≤ y → y + (n : Int) = 3 → MS I J → ((z = 1 ∧ ish v r c) ∨ (z = 0 ∧ ∀ l, 0 ≤ l → l < y → ¬ shd v r l c)) → kk mX7_isInShadowOf 5 [some (.inr 119), some (.inl r), some (.inl c), some (.inl z), some (.inl y)] [] J (qi Q) := by
    intro n
    induction n with
    | zero =>
      intro y z J g0 g1 hJ g2
      refine lX7_isInShadowOf_5 ⟨bdi (by omega), fun q => ?_, fun q => absurd q (by omega)⟩
      rcases g2 with ⟨z1, z2⟩ | ⟨z1, z2⟩
      · subst z1
        exact ⟨z01_1, h1 z2 J hJ⟩
      · subst z1
        exact ⟨z01_0, h0 (fun ⟨l, l1, l2⟩ => z2 l l1.1 (by omega) l2) J hJ⟩
    | succ n ih =>
      intro y z J g0 g1 hJ g2
      refine lX7_isInShadowOf_5 ⟨bdi (by omega), fun q => absurd q (by omega), fun q => ⟨?_, fun q2 => ih (y + 1) 1 J (by omega) (by omega) hJ (Or.inl ⟨rfl, ?_⟩), fun q2 => r_isShaded (hJ.v ev) hv hr (by omega) hc (fun hs K hK => Or.inl ⟨rfl, ih (y + 1) 1 K (by omega) (by omega) (hJ.tr hK) (Or.inl ⟨rfl, y, by omega, hs⟩)⟩) (fun hs K hK => Or.inr ⟨rfl, ih (y + 1) 0 K (by omega) (by omega) (hJ.tr hK) (Or.inr ⟨rfl, fun l l1 l2 => ?_⟩)⟩)⟩⟩
      · rcases g2 with ⟨z1, -⟩ | ⟨z1, -⟩ <;> exact bdi (by omega)
      · rcases g2 with ⟨z1, z2⟩ | ⟨z1, -⟩
        · exact z2
        · exact absurd z1 q2
      · rcases g2 with ⟨z1, -⟩ | ⟨-, z2⟩
        · omega
        · by_cases e : l = y
          · rw [e]
            exact hs
          · exact z2 l l1 (by omega)
  exact key 3 0 0 I (by omega) (by omega) MS.rf (Or.inr ⟨rfl, fun l a b => absurd b (by omega)⟩)
theorem r_hasShadow {r : Int} {I : sh_Mem} {Q : Int → sh_Mem → Prop} {v : Vw} (ev : vM (I 120) = v) (hv : WF v) (hr : isr v r) (h1 : hs v r → ∀ J, MS I J → Q 1 J) (h0 : ¬ hs v r → ∀ J, MS I J → Q 0 J) : cc mX7_hasShadow [.inr 119, .inl r] I (qi Q) := by
  refine eX7_hasShadow ?_
  have key : ∀ (n : Nat) (y z : Int) (J : sh_Mem), 0 ≤ y → y + (n : Int) = 3 → MS I J → ((z = 1 ∧ hs v r) ∨ (z = 0 ∧ ∀ l, 0 ≤ l → l < y → ¬ 0 < ln v r l)) → kk mX7_hasShadow 4 [some (.inr 119), some (.inl r), some (.inl z), some (.inl y)] [] J (qi Q) := by
    intro n
    induction n with
    | zero =>
      intro y z J g0 g1 hJ g2
      refine lX7_hasShadow_4 ⟨bdi (by omega), fun q => ?_, fun q => absurd q (by omega)⟩
      rcases g2 with ⟨z1, z2⟩ | ⟨z1, z2⟩
      · subst z1
        exact ⟨z01_1, h1 z2 J hJ⟩
      · subst z1
        exact ⟨z01_0, h0 (fun ⟨l, l1, l2⟩ => z2 l l1.1 (by omega) l2) J hJ⟩
    | succ n ih =>
      intro y z J g0 g1 hJ g2
      have hln := ln_in hv hr (l := y) (by omega)
      refine lX7_hasShadow_4 ⟨bdi (by omega), fun q => absurd q (by omega), fun q => r_follow (hJ.v ev) hv hr (by omega) (fun K hK e7 _ _ => ⟨?_, fun q2 => ih (y + 1) 1 K (by omega) (by omega) (hJ.tr hK) (Or.inl ⟨rfl, ?_⟩), fun q2 => ⟨bdi (by omega), fun q3 => ih (y + 1) 0 K (by omega) (by omega) (hJ.tr hK) (Or.inr ⟨rfl, fun l l1 l2 => ?_⟩), fun q3 => ih (y + 1) 1 K (by omega) (by omega) (hJ.tr hK) (Or.inl ⟨rfl, y, by omega, by omega⟩)⟩⟩)⟩
      · rcases g2 with ⟨z1, -⟩ | ⟨z1, -⟩ <;> exact bdi (by omega)
      · rcases g2 with ⟨z1, z2⟩ | ⟨z1, -⟩
        · exact z2
        · exact absurd z1 q2
      · rcases g2 with ⟨z1, -⟩ | ⟨-, z2⟩
        · omega
        · by_cases e : l = y
          · rw [e]
            omega
          · exact z2 l l1 (by omega)
  exact key 3 0 0 I (by omega) (by omega) MS.rf (Or.inr ⟨rfl, fun l a b => absurd b (by omega)⟩)
theorem r_tagNow {I : sh_Mem} {Q : Int → sh_Mem → Prop} {v : Vw} (ev : vM (I 120) = v) (hv : WF v) (h : CaIs v (ca v) → ∀ J, MS I J → Q (ca v) J) : cc mX7_tagNow [.inr 119] I (qi Q) := by
  have hm := hv.many
  have hcb := hv.2.1
  have fin : ∀ x, CaIs v x → ∀ J, MS I J → Q x J := fun x hx => by
    have e := ca_is hx
    rw [e] at h
    exact h hx
  have e6 : I 120 20 = v 0 6 := by rw [← ev]; rfl
  refine eX7_tagNow ?_
  rw [e6]
  have key : ∀ (n : Nat) (y x : Int) (J : sh_Mem), y + 1 = (n : Int) → y < v 0 6 → MS I J → ((x = -5 ∧ ∀ r, isr v r → y < r → v 9 r = 0 → ¬ ish v r (v 6 (v 0 1))) ∨ (isr v x ∧ v 9 x = 0 ∧ ish v x (v 6 (v 0 1)) ∧ ∀ r, isr v r → y < r → v 9 r = 0 → ish v r (v 6 (v 0 1)) → x ≤ r)) → kk mX7_tagNow 13 [some (.inr 119), some (.inl x), some (.inl y), none] [] J (qi Q) := by
    intro n
    induction n with
    | zero =>
      intro y x J g0 g1 hJ g2
      refine lX7_tagNow_13 ⟨bdi (by omega), fun q => fin x ?_ J hJ, fun q => absurd q (by omega)⟩
      by_cases hz : v 0 6 = 0
      · refine Or.inl ⟨hz, ?_⟩
        rcases g2 with ⟨z1, -⟩ | ⟨z1, -⟩
        · exact z1
        · unfold isr at z1
          omega
      · refine Or.inr ⟨hz, ?_⟩
        rcases g2 with ⟨z1, z2⟩ | ⟨z1, z2, ⟨l, z3, z4⟩, z5⟩
        · exact Or.inl ⟨z1, fun r hr hr9 l l1 l2 hsd => z2 r hr (by have := hr.1; omega) hr9 ⟨l, ⟨l1, l2⟩, hsd⟩⟩
        · exact Or.inr ⟨z1, z2, ⟨l, z3, z4⟩, fun r hr hr9 l l1 l2 hsd => z5 r hr (by have := hr.1; omega) hr9 ⟨l, ⟨l1, l2⟩, hsd⟩⟩
    | succ n ih =>
      intro y x J g0 g1 hJ g2
      have hy : isr v y := ⟨by omega, g1⟩
      have hc : isr v (v 0 1) := by unfold isr; omega
      have hcc := hv.cell hc.1 hc.2
      have hc0 := hc
      unfold isr at hc0
      have e1 : J 120 1 = v 0 1 := by rw [hJ.2, ← ev]; rfl
      have skip : ∀ K, MS I K → (v 9 y = 0 → ¬ ish v y (v 6 (v 0 1))) → kk mX7_tagNow 59 [some (.inr 119), some (.inl x), some (.inl y), none] [] K (qi Q) := by
        intro K hK hno
        refine lX7_tagNow_59 (ih (y + (-1)) x K (by omega) (by omega) hK ?_)
        rcases g2 with ⟨z1, z2⟩ | ⟨z1, z2, z3, z5⟩
        · refine Or.inl ⟨z1, fun r hr r1 hr9 => ?_⟩
          by_cases e : r = y
          · rw [e]
            exact hno (by rw [← e]; exact hr9)
          · exact z2 r hr (by omega) hr9
        · refine Or.inr ⟨z1, z2, z3, fun r hr r1 hr9 hsd => ?_⟩
          by_cases e : r = y
          · rw [e] at hsd hr9
            exact absurd hsd (hno hr9)
          · exact z5 r hr (by omega) hr9 hsd
      have hr9 := (hv.run hy.1 hy.2).2.2.2
      refine lX7_tagNow_13 ⟨bdi (by omega), fun q => absurd q (by omega), fun q => ⟨bdi (by omega), fun q2 => skip J hJ (fun _ ⟨l, l1, l2⟩ => ?_), fun q2 => r_of 9 (hJ.v ev) (by omega) (by decide) rfl ⟨bdi (by omega), fun q3 => skip J hJ (fun z => absurd z q3), fun q3 => ?_⟩⟩⟩
      · have h9 := l2.1
        rw [e1] at q2
        rw [q2, di_self] at h9
        omega
      · rw [e1]
        refine r_of 6 (hJ.v ev) (by omega) (by decide) rfl (r_isInShadowOf (hJ.v ev) hv hy hcc (fun hs K hK => Or.inl ⟨rfl, ih (y + (-1)) y K (by omega) (by omega) (hJ.tr hK) (Or.inr ⟨hy, q3, hs, fun r hr r1 hr9 hsd => by omega⟩)⟩) (fun hs K hK => Or.inr ⟨rfl, skip K (hJ.tr hK) (fun _ => hs)⟩))
  exact key (v 0 6).toNat (v 0 6 - 1) (-5) I (by omega) (by omega) MS.rf (Or.inl ⟨rfl, fun r hr r1 => by have := hr.2; omega⟩)
