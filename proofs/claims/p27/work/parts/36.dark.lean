/-! ===== 36: counting; the cells in shadows ===== -/
noncomputable def cntN (P : Int → Prop) : Nat → Int
  | 0 => 0
  | n + 1 => cntN P n + @ite Int (P (n : Int)) (Classical.propDecidable _) 1 0
theorem cntN_yes {P : Int → Prop} {n : Nat} (h : P (n : Int)) : cntN P (n + 1) = cntN P n + 1 := by
  simp only [cntN, if_pos h]
theorem cntN_no {P : Int → Prop} {n : Nat} (h : ¬ P (n : Int)) : cntN P (n + 1) = cntN P n := by
  simp only [cntN, if_neg h, Int.add_zero]
theorem cntN_in {P : Int → Prop} : ∀ n : Nat, 0 ≤ cntN P n ∧ cntN P n ≤ (n : Int) := by
  intro n
  induction n with
  | zero => exact ⟨Int.le_refl _, Int.le_refl _⟩
  | succ n ih =>
    by_cases h : P (n : Int)
    · rw [cntN_yes h]
      omega
    · rw [cntN_no h]
      omega
theorem cntN_congr {P P' : Int → Prop} : ∀ n : Nat, (∀ k, 0 ≤ k → k < (n : Int) → (P k ↔ P' k)) → cntN P n = cntN P' n := by
  intro n
  induction n with
  | zero => exact fun _ => rfl
  | succ n ih =>
    intro h
    have h1 := ih (fun k a b => h k a (by omega))
    have h2 := h (n : Int) (by omega) (by omega)
    by_cases e : P (n : Int)
    · rw [cntN_yes e, cntN_yes (h2.1 e), h1]
    · rw [cntN_no e, cntN_no (fun q => e (h2.2 q)), h1]
theorem cntN_pos {P : Int → Prop} : ∀ n : Nat, 0 < cntN P n ↔ ∃ k, (0 ≤ k ∧ k < (n : Int)) ∧ P k := by
  intro n
  induction n with
  | zero => exact ⟨fun h => absurd h (by simp [cntN]), fun ⟨k, h, _⟩ => by simp at h; omega⟩
  | succ n ih =>
    have hb := cntN_in (P := P) n
    by_cases e : P (n : Int)
    · rw [cntN_yes e]
      exact ⟨fun _ => ⟨(n : Int), by omega, e⟩, fun _ => by omega⟩
    · rw [cntN_no e, ih]
      refine ⟨fun ⟨k, h1, h2⟩ => ⟨k, by omega, h2⟩, fun ⟨k, h1, h2⟩ => ⟨k, ⟨h1.1, ?_⟩, h2⟩⟩
      by_cases z : k = (n : Int)
      · rw [z] at h2
        exact absurd h2 e
      · omega
/-! the class's board -/
def DkIs (I : sh_Mem) (P : Int → Prop) : Prop := ∀ c, 0 ≤ c → c < 100 → (I 115 c = 1 ∧ P c) ∨ (I 115 c = 0 ∧ ¬ P c)
theorem DkIs.congr {I : sh_Mem} {P P' : Int → Prop} (h : DkIs I P) (e : ∀ c, 0 ≤ c → c < 100 → (P c ↔ P' c)) : DkIs I P' := fun c c0 c1 => by
  rcases h c c0 c1 with ⟨h1, h2⟩ | ⟨h1, h2⟩
  · exact Or.inl ⟨h1, (e c c0 c1).1 h2⟩
  · exact Or.inr ⟨h1, fun q => h2 ((e c c0 c1).2 q)⟩
theorem s_clearB {I : sh_Mem} {Q : sh_Mem → Prop} (h : ∀ J, (∀ o, o ≠ 114 → o ≠ 115 → o ≠ 116 → J o = I o) → (∀ c, 0 ≤ c → c < 100 → J 115 c = 0 ∧ J 116 c = 0) → J 114 4 = 0 → Q J) : cc mX0_clear [.inr 114] I (qv Q) := by
  refine eX0_clear ?_
  have key : ∀ (n : Nat) (k : Int) (J : sh_Mem), 0 ≤ k → k + (n : Int) = 100 → (∀ o, o ≠ 114 → o ≠ 115 → o ≠ 116 → J o = I o) → (∀ j, 0 ≤ j → j < k → J 115 j = 0 ∧ J 116 j = 0) → J 114 4 = 0 → kk mX0_clear 7 [some (.inr 114), some (.inl k)] [] J (qv Q) := by
    intro n
    induction n with
    | zero =>
      intro k J k0 g0 g1 g2 g3
      exact lX0_clear_7 ⟨bdi (by omega), fun _ => h J g1 (fun j a b => g2 j a (by omega)) g3, fun q => absurd q (by omega)⟩
    | succ n ih =>
      intro k J k0 g0 g1 g2 g3
      refine lX0_clear_7 ⟨bdi (by omega), fun q => absurd q (by omega), fun q => ⟨by omega, ih (k + 1) _ (by omega) (by omega) (fun o h1 h2 h3 => by rw [sh_u_ne h3, sh_u_ne h2]; exact g1 o h1 h2 h3) (fun j j1 j2 => ?_) (by rw [sh_u_ne (by decide), sh_u_ne (by decide)]; exact g3)⟩⟩
      by_cases e : j = k
      · subst e
        simp [sh_u]
      · have := g2 j j1 (by omega)
        simp [sh_u, e, this.1, this.2]
  exact key 100 0 _ (by omega) (by omega) (fun o h1 h2 h3 => sh_u_ne h1) (fun j a b => absurd b (by omega)) (by simp [sh_u])
theorem s_darken {c : Int} {I : sh_Mem} {Q : sh_Mem → Prop} (hc : 0 ≤ c ∧ c < 100) (h : Q (sh_u I 115 c 1)) : cc mX0_darken [.inr 114, .inl c] I (qv Q) :=
  eX0_darken (s_isCell (bdi (by omega)) (fun _ => Or.inl ⟨rfl, hc, h⟩) (fun q => absurd hc q))
theorem s_darkenShadow {b : Nat} {r l : Int} {I : sh_Mem} {Q : sh_Mem → Prop} {P : Int → Prop} {v : Vw} (hb : sh_isP b) (ev : vP I b = v) (hv : WF v) (hr : isr v r) (hl : 0 ≤ l ∧ l < 3) (hP : DkIs I P) (h : ∀ J, (∀ o, o ≠ 115 → J o = I o) → DkIs J (fun c => P c ∨ shd v r l c) → Q J) : cc mX4_darkenShadow [.inr b, .inl r, .inl l, .inr 114] I (qv Q) := by
  subst ev
  have hm := hv.many
  have hc := hv.cell hr.1 hr.2
  have hli := ln_in hv hr hl
  have haw : 0 ≤ aw (vP I b) l ∧ aw (vP I b) l < 4 := aw_in
  have key : ∀ (n : Nat) (k : Int) (J : sh_Mem), 1 ≤ k → k + (n : Int) = ln (vP I b) r l + 1 → (∀ o, o ≠ 115 → J o = I o) → DkIs J (fun c => P c ∨ ∃ j, 1 ≤ j ∧ j < k ∧ al (vP I b 6 r) (aw (vP I b) l) j = c) → kk mX4_darkenShadow 60 [none, none, none, some (.inr 114), some (.inl (ln (vP I b) r l)), some (.inl (vP I b 6 r)), some (.inl (aw (vP I b) l)), some (.inl k)] [] J (qv Q) := by
    intro n
    induction n with
    | zero =>
      intro k J k0 g0 g1 g2
      refine lX4_darkenShadow_60 hb ⟨bdi (by omega), bdi (by omega), fun _ => h J g1 (g2.congr fun c c0 c1 => ?_), fun q => absurd q (by omega)⟩
      rw [shd_iff hv hr hl ⟨c0, c1⟩]
      refine ⟨fun q => q.elim Or.inl (fun ⟨j, a, b', e⟩ => Or.inr ⟨j, a, by omega, e⟩), fun q => q.elim Or.inl (fun ⟨j, a, b', e⟩ => Or.inr ⟨j, a, by omega, e⟩)⟩
    | succ n ih =>
      intro k J k0 g0 g1 g2
      have hal := al_in (k := k) hc haw (by omega)
      refine lX4_darkenShadow_60 hb ⟨bdi (by omega), bdi (by omega), fun q => absurd q (by omega), fun q => s_cellAlong haw (s_darken hal (ih (k + 1) _ (by omega) (by omega) (fun o ho => by rw [sh_u_ne ho]; exact g1 o ho) (fun c c0 c1 => ?_)))⟩
      by_cases e : c = al (vP I b 6 r) (aw (vP I b) l) k
      · refine Or.inl ⟨by rw [e]; simp [sh_u], Or.inr ⟨k, k0, by omega, e.symm⟩⟩
      · have e9 : sh_u J 115 (al (vP I b 6 r) (aw (vP I b) l) k) 1 115 c = J 115 c := by simp [sh_u, e]
        rw [e9]
        rcases g2 c c0 c1 with ⟨h1, h2⟩ | ⟨h1, h2⟩
        · exact Or.inl ⟨h1, h2.elim Or.inl (fun ⟨j, a, b', e⟩ => Or.inr ⟨j, a, by omega, e⟩)⟩
        · refine Or.inr ⟨h1, fun q => h2 (q.elim Or.inl (fun ⟨j, a, b', e'⟩ => Or.inr ⟨j, a, ?_, e'⟩))⟩
          by_cases z : j = k
          · rw [z] at e'
            exact absurd e'.symm e
          · omega
  have e10 := rP2 (I := I) (b := b) (i := l) (by omega)
  have e6 := rP6 (I := I) (b := b) (i := r) (by have := hr.1; have := hr.2; omega)
  refine eX4_darkenShadow hb (s_shadowLength hb hv (bdi (by have := hr.1; have := hr.2; omega)) (bdi (by omega)) (fun q => absurd ⟨hr, hl.1, hl.2⟩ q) (fun _ => ⟨bdi (by omega), fun q => ?_, fun q => s_has hb hv (bdi (by have := hr.1; have := hr.2; omega)) (fun _ => Or.inl ⟨rfl, s_isLamp (bdi (by omega)) (fun _ => Or.inl ⟨rfl, ?_, by omega, ?_⟩) (fun q => absurd hl q)⟩) (fun q => absurd hr q)⟩))
  · refine h I (fun _ _ => rfl) (hP.congr fun c c0 c1 => ⟨Or.inl, fun q => q.elim id (fun z => ?_)⟩)
    have := z.1
    have := z.2
    omega
  · have := hr.1
    have := hr.2
    omega
  · rw [e10]
    have hw := (hv.lampw hl).1
    refine s_opposite hw ?_
    rw [e6]
    exact key (ln (vP I b) r l).toNat 1 I (by omega) (by omega) (fun _ _ => rfl) (hP.congr fun c c0 c1 => ⟨Or.inl, fun q => q.elim id (fun ⟨j, a, b', _⟩ => absurd a (by omega))⟩)
theorem s_darkenShadowsOf {b : Nat} {r : Int} {I : sh_Mem} {Q : sh_Mem → Prop} {P : Int → Prop} {v : Vw} (hb : sh_isP b) (ev : vP I b = v) (hv : WF v) (hr : isr v r) (hP : DkIs I P) (h : ∀ J, (∀ o, o ≠ 115 → J o = I o) → DkIs J (fun c => P c ∨ ish v r c) → Q J) : cc mX4_darkenShadowsOf [.inr b, .inl r, .inr 114] I (qv Q) := by
  refine eX4_darkenShadowsOf hb ?_
  have hpb : b + 15 ≤ 109 := (isP_lt hb).2.1
  have key : ∀ (n : Nat) (k : Int) (J : sh_Mem), 0 ≤ k → k + (n : Int) = 3 → (∀ o, o ≠ 115 → J o = I o) → DkIs J (fun c => P c ∨ ∃ l, (0 ≤ l ∧ l < k) ∧ shd v r l c) → kk mX4_darkenShadowsOf 2 [some (.inr b), some (.inl r), some (.inr 114), some (.inl k)] [] J (qv Q) := by
    intro n
    induction n with
    | zero =>
      intro k J k0 g0 g1 g2
      refine lX4_darkenShadowsOf_2 hb ⟨bdi (by omega), fun _ => h J g1 (g2.congr fun c c0 c1 => ?_), fun q => absurd q (by omega)⟩
      have e3 : k = 3 := by omega
      rw [e3]
      exact Iff.rfl
    | succ n ih =>
      intro k J k0 g0 g1 g2
      have eJ : vP J b = v := by rw [← ev]; exact vP_same fun o h1 h2 => g1 o (by omega)
      refine lX4_darkenShadowsOf_2 hb ⟨bdi (by omega), fun q => absurd q (by omega), fun q => s_darkenShadow hb eJ hv hr ⟨k0, q⟩ g2 (fun K k1 k2 => ih (k + 1) K (by omega) (by omega) (fun o ho => (k1 o ho).trans (g1 o ho)) (k2.congr fun c c0 c1 => ⟨fun z => ?_, fun z => ?_⟩))⟩
      · rcases z with (z | ⟨l, hl, z⟩) | z
        · exact Or.inl z
        · exact Or.inr ⟨l, by omega, z⟩
        · exact Or.inr ⟨k, by omega, z⟩
      · rcases z with z | ⟨l, hl, z⟩
        · exact Or.inl (Or.inl z)
        · by_cases e : l = k
          · rw [e] at z
            exact Or.inr z
          · exact Or.inl (Or.inr ⟨l, by omega, z⟩)
  exact key 3 0 I (by omega) (by omega) (fun _ _ => rfl) (hP.congr fun c c0 c1 => ⟨Or.inl, fun q => q.elim id (fun ⟨j, a, _⟩ => absurd a (by omega))⟩)
theorem s_darkCells {I : sh_Mem} {Q : Int → sh_Mem → Prop} {P : Int → Prop} (hP : DkIs I P) (h : Q (cntN P 100) I) : cc mX0_darkCells [.inr 114] I (qi Q) := by
  refine eX0_darkCells ?_
  have key : ∀ (n k : Nat), k + n = 100 → kk mX0_darkCells 4 [some (.inr 114), some (.inl (cntN P k)), some (.inl (k : Int))] [] I (qi Q) := by
    intro n
    induction n with
    | zero =>
      intro k g0
      have : k = 100 := by omega
      subst this
      exact lX0_darkCells_4 ⟨bdi (by omega), fun _ => h, fun q => absurd q (by omega)⟩
    | succ n ih =>
      intro k g0
      have hk := hP (k : Int) (by omega) (by omega)
      refine lX0_darkCells_4 ⟨bdi (by omega), fun q => absurd q (by omega), fun q => ⟨by omega, bdi (by omega), fun q2 => ?_, fun q2 => ?_⟩⟩
      · have hn : ¬ P (k : Int) := by
          rcases hk with ⟨h1, -⟩ | ⟨-, h2⟩
          · omega
          · exact h2
        have := ih (k + 1) (by omega)
        rw [cntN_no hn] at this
        exact this
      · have hn : P (k : Int) := by
          rcases hk with ⟨-, h2⟩ | ⟨h1, -⟩
          · exact h2
          · omega
        have := ih (k + 1) (by omega)
        rw [cntN_yes hn] at this
        exact this
  exact key 100 0 (by omega)
/-- a cell in a chosen shadow -/
def sel (x y r l : Int) : Prop := (x = -5 ∨ x = r) ∧ (y = -5 ∨ y = l)
def pr (v : Vw) (c x y : Int) (k : Int) : Prop := sel x y (k / 3) (k % 3) ∧ shd v (k / 3) (k % 3) c
noncomputable def pc (v : Vw) (c x y : Int) (n : Nat) : Int := cntN (pr v c x y) n
noncomputable def dkn (v : Vw) (x y : Int) : Int := cntN (fun c => 0 < pc v c x y (3 * v 0 6).toNat) 100
theorem pc_iff {v : Vw} {c x y : Int} (hv : WF v) : 0 < pc v c x y (3 * v 0 6).toNat ↔ ∃ r l, isr v r ∧ (0 ≤ l ∧ l < 3) ∧ sel x y r l ∧ shd v r l c := by
  have hm := hv.many
  unfold pc
  rw [cntN_pos]
  constructor
  · rintro ⟨k, hk, h1, h2⟩
    refine ⟨k / 3, k % 3, ⟨by omega, by omega⟩, by omega, h1, h2⟩
  · rintro ⟨r, l, hr, hl, h1, h2⟩
    have := hr.1
    have := hr.2
    have e1 : (3 * r + l) / 3 = r := by omega
    have e2 : (3 * r + l) % 3 = l := by omega
    exact ⟨3 * r + l, by omega, by unfold pr; rw [e1, e2]; exact ⟨h1, h2⟩⟩
def BO (I J : sh_Mem) : Prop := ∀ o, (o < 114 ∨ 119 ≤ o) → J o = I o
theorem BO.same {I J : sh_Mem} (h : BO I J) : CSame I J := fun o f q => by rw [h o (by omega)]
theorem BO.vP {I J : sh_Mem} {b : Nat} (h : BO I J) (hb : sh_isP b) : vP J b = vP I b := vP_same fun o h1 h2 => h o (by have := (isP_lt hb).2.1; omega)
theorem s_cellsOf {r : Int} {I : sh_Mem} {Q : Int → sh_Mem → Prop} {v : Vw} (ev : vP I oP = v) (hv : WF v) (hr : isr v r) (h : ∀ J, BO I J → Q (dkn v r (-5)) J) : cc mX6_cellsInShadowsOf [.inr 1, .inl r] I (qi Q) := by
  refine eX6_cellsInShadowsOf (s_clearB (fun J j1 j2 j3 => ?_))
  have oJ : BO I J := fun o q => j1 o (by omega) (by omega) (by omega)
  have d0 : DkIs J (fun _ => False) := fun c c0 c1 => Or.inr ⟨(j2 c c0 c1).1, id⟩
  refine s_darkenShadowsOf isP_oP ((oJ.vP isP_oP).trans ev) hv hr d0 (fun K k1 k2 => s_darkCells (k2.congr (P' := fun c => 0 < pc v c r (-5) (3 * v 0 6).toNat) fun c c0 c1 => ?_) (h K (fun o q => (k1 o (by omega)).trans (oJ o q))))
  rw [pc_iff hv]
  constructor
  · rintro (z | ⟨l, hl, z⟩)
    · exact z.elim
    · exact ⟨r, l, hr, hl, ⟨Or.inr rfl, Or.inl rfl⟩, z⟩
  · rintro ⟨s, l, hs, hl, ⟨z1, -⟩, z⟩
    have e : r = s := by
      have := hr.1
      omega
    subst e
    exact Or.inr ⟨l, hl, z⟩
theorem s_cellsBy {l : Int} {I : sh_Mem} {Q : Int → sh_Mem → Prop} {v : Vw} (ev : vP I oP = v) (hv : WF v) (hl : 0 ≤ l ∧ l < 3) (h : ∀ J, BO I J → Q (dkn v (-5) l) J) : cc mX6_cellsInShadowsBy [.inr 1, .inl l] I (qi Q) := by
  have hm := hv.many
  have key : ∀ (n : Nat) (k : Int) (J : sh_Mem), 0 ≤ k → k + (n : Int) = v 0 6 → BO I J → DkIs J (fun c => ∃ r, (0 ≤ r ∧ r < k) ∧ shd v r l c) → kk mX6_cellsInShadowsBy 9 [some (.inr 1), some (.inl l), some (.inl k)] [] J (qi Q) := by
    intro n
    induction n with
    | zero =>
      intro k J k0 g0 g1 g2
      have eJ : vP J oP = v := (g1.vP isP_oP).trans ev
      have e6 : J (oP + 1) 7 = v 0 6 := by rw [rP0_6 (I := J) (b := oP), eJ]
      refine lX6_cellsInShadowsBy_9 ⟨bdi (by omega), bdi (by omega), fun _ => s_darkCells (g2.congr (P' := fun c => 0 < pc v c (-5) l (3 * v 0 6).toNat) fun c c0 c1 => ?_) (h J g1), fun q => absurd q (by omega)⟩
      rw [pc_iff hv]
      constructor
      · rintro ⟨r, hr, z⟩
        exact ⟨r, l, ⟨hr.1, by omega⟩, hl, ⟨Or.inl rfl, Or.inr rfl⟩, z⟩
      · rintro ⟨s, m, hs, hm', ⟨-, z1⟩, z⟩
        have e : l = m := by omega
        subst e
        have := hs.1
        have := hs.2
        exact ⟨s, by omega, z⟩
    | succ n ih =>
      intro k J k0 g0 g1 g2
      have eJ : vP J oP = v := (g1.vP isP_oP).trans ev
      have e6 : J (oP + 1) 7 = v 0 6 := by rw [rP0_6 (I := J) (b := oP), eJ]
      refine lX6_cellsInShadowsBy_9 ⟨bdi (by omega), bdi (by omega), fun q => absurd q (by omega), fun q => s_darkenShadow isP_oP eJ hv ⟨k0, by omega⟩ hl g2 (fun K k1 k2 => ih (k + 1) K (by omega) (by omega) (fun o ho => (k1 o (by omega)).trans (g1 o ho)) (k2.congr fun c c0 c1 => ⟨fun z => ?_, fun z => ?_⟩))⟩
      · rcases z with ⟨r, hr, z⟩ | z
        · exact ⟨r, by omega, z⟩
        · exact ⟨k, by omega, z⟩
      · rcases z with ⟨r, hr, z⟩
        by_cases e : r = k
        · rw [e] at z
          exact Or.inr z
        · exact Or.inl ⟨r, by omega, z⟩
  refine eX6_cellsInShadowsBy (s_clearB (fun J j1 j2 j3 => ?_))
  exact key (v 0 6).toNat 0 J (by omega) (by omega) (fun o q => j1 o (by omega) (by omega) (by omega)) (fun c c0 c1 => Or.inr ⟨(j2 c c0 c1).1, fun ⟨r, hr, _⟩ => by omega⟩)
theorem s_cellsAny {I : sh_Mem} {Q : Int → sh_Mem → Prop} {v : Vw} (ev : vP I oP = v) (hv : WF v) (h : ∀ J, BO I J → Q (dkn v (-5) (-5)) J) : cc mX6_cellsInAnyShadow [.inr 1] I (qi Q) := by
  have hm := hv.many
  have key : ∀ (n : Nat) (k : Int) (J : sh_Mem), 0 ≤ k → k + (n : Int) = v 0 6 → BO I J → DkIs J (fun c => ∃ r, (0 ≤ r ∧ r < k) ∧ ish v r c) → kk mX6_cellsInAnyShadow 9 [some (.inr 1), some (.inl k)] [] J (qi Q) := by
    intro n
    induction n with
    | zero =>
      intro k J k0 g0 g1 g2
      have eJ : vP J oP = v := (g1.vP isP_oP).trans ev
      have e6 : J (oP + 1) 7 = v 0 6 := by rw [rP0_6 (I := J) (b := oP), eJ]
      refine lX6_cellsInAnyShadow_9 ⟨bdi (by omega), bdi (by omega), fun _ => s_darkCells (g2.congr (P' := fun c => 0 < pc v c (-5) (-5) (3 * v 0 6).toNat) fun c c0 c1 => ?_) (h J g1), fun q => absurd q (by omega)⟩
      rw [pc_iff hv]
      constructor
      · rintro ⟨r, hr, l, hl, z⟩
        exact ⟨r, l, ⟨hr.1, by omega⟩, hl, ⟨Or.inl rfl, Or.inl rfl⟩, z⟩
      · rintro ⟨s, m, hs, hm', -, z⟩
        have := hs.1
        have := hs.2
        exact ⟨s, by omega, m, hm', z⟩
    | succ n ih =>
      intro k J k0 g0 g1 g2
      have eJ : vP J oP = v := (g1.vP isP_oP).trans ev
      have e6 : J (oP + 1) 7 = v 0 6 := by rw [rP0_6 (I := J) (b := oP), eJ]
      refine lX6_cellsInAnyShadow_9 ⟨bdi (by omega), bdi (by omega), fun q => absurd q (by omega), fun q => s_darkenShadowsOf isP_oP eJ hv ⟨k0, by omega⟩ g2 (fun K k1 k2 => ih (k + 1) K (by omega) (by omega) (fun o ho => (k1 o (by omega)).trans (g1 o ho)) (k2.congr fun c c0 c1 => ⟨fun z => ?_, fun z => ?_⟩))⟩
      · rcases z with ⟨r, hr, z⟩ | z
        · exact ⟨r, by omega, z⟩
        · exact ⟨k, by omega, z⟩
      · rcases z with ⟨r, hr, z⟩
        by_cases e : r = k
        · rw [e] at z
          exact Or.inr z
        · exact Or.inl ⟨r, by omega, z⟩
  refine eX6_cellsInAnyShadow (s_clearB (fun J j1 j2 j3 => ?_))
  exact key (v 0 6).toNat 0 J (by omega) (by omega) (fun o q => j1 o (by omega) (by omega) (by omega)) (fun c c0 c1 => Or.inr ⟨(j2 c c0 c1).1, fun ⟨r, hr, _⟩ => by omega⟩)
