/-! ===== 22: small methods ===== -/
theorem s_isCell {x : Int} {I : sh_Mem} {Q : Int → sh_Mem → Prop} (hx : sh_Bd x) (h1 : 0 ≤ x ∧ x < 100 → Q 1 I) (h0 : ¬ (0 ≤ x ∧ x < 100) → Q 0 I) : cc mX6_isCell [.inl x] I (qi Q) :=
  eX6_isCell ⟨hx, fun q => h0 (by omega), fun q => ⟨fun q2 => h0 (by omega), fun q2 => h1 (by omega)⟩⟩
theorem s_isLamp {x : Int} {I : sh_Mem} {Q : Int → sh_Mem → Prop} (hx : sh_Bd x) (h1 : 0 ≤ x ∧ x < 3 → Q 1 I) (h0 : ¬ (0 ≤ x ∧ x < 3) → Q 0 I) : cc mX6_isLamp [.inl x] I (qi Q) :=
  eX6_isLamp ⟨hx, fun q => h0 (by omega), fun q => ⟨fun q2 => h0 (by omega), fun q2 => h1 (by omega)⟩⟩
theorem s_opposite {x : Int} {I : sh_Mem} {Q : Int → sh_Mem → Prop} (hx : 0 ≤ x ∧ x < 4) (h : Q (op x) I) : cc mX6_opposite [.inl x] I (qi Q) :=
  eX6_opposite ⟨by omega, h⟩
theorem s_cellsToEdge {c d : Int} {I : sh_Mem} {Q : Int → sh_Mem → Prop} (hc : 0 ≤ c ∧ c < 100) (hd : 0 ≤ d ∧ d < 4) (h : Q (te c d) I) : cc mX6_cellsToEdge [.inl c, .inl d] I (qi Q) := by
  refine eX6_cellsToEdge ⟨bdi (by omega), fun q => ⟨by omega, ?_⟩, fun q => ⟨by omega, ?_⟩, fun q => ⟨by omega, ?_⟩, fun q => ⟨by omega, ?_⟩, fun q => absurd q (by omega)⟩ <;> subst q <;> exact h
theorem s_cellAlong {c d k : Int} {I : sh_Mem} {Q : Int → sh_Mem → Prop} (hd : 0 ≤ d ∧ d < 4) (h : Q (al c d k) I) : cc mX6_cellAlong [.inl c, .inl d, .inl k] I (qi Q) := by
  refine eX6_cellAlong ⟨bdi (by omega), fun q => ?_, fun q => ?_, fun q => ?_, fun q => ?_, fun q => absurd q (by omega)⟩ <;> subst q <;> exact h
theorem s_distanceAlong {a c d : Int} {I : sh_Mem} {Q : Int → sh_Mem → Prop} (ha : 0 ≤ a ∧ a < 100) (hc : 0 ≤ c ∧ c < 100) (hd : 0 ≤ d ∧ d < 4) (h : Q (di a c d) I) : cc mX6_distanceAlong [.inl a, .inl c, .inl d] I (qi Q) := by
  refine eX6_distanceAlong ⟨by omega, by omega, bdi (by omega), fun q => ⟨bdi (by omega), fun q2 => ?_, fun q2 => ?_⟩, fun q => ⟨bdi (by omega), fun q2 => ?_, fun q2 => ?_⟩, fun q => ⟨bdi (by omega), fun q2 => ?_, fun q2 => ?_⟩, fun q => ⟨bdi (by omega), fun q2 => ?_, fun q2 => ?_⟩, fun q => absurd q (by omega)⟩ <;> subst q <;> simp only [di] at h <;> simp [q2] at h ⊢ <;> exact h
theorem s_replace {o N : Nat} {i x lo hi : Int} {I : sh_Mem} {Q : Int → sh_Mem → Prop} (ho : sh_is 130 o 8 N) (hN : N < 2147483648) (hi0 : sh_Bd i) (hx : sh_Bd x) (hlo : sh_Bd lo) (hhi : sh_Bd hi) (hI : 0 ≤ i → i < (N : Int) → sh_Bd (I o i))
    (h1 : ¬ (0 ≤ i ∧ i < (N : Int)) → Q (-1) I) (h2 : 0 ≤ i ∧ i < (N : Int) → ¬ (lo ≤ x ∧ x ≤ hi) → Q (-2) I) (h3 : 0 ≤ i ∧ i < (N : Int) → lo ≤ x ∧ x ≤ hi → I o i = x → Q (-5) I) (h4 : 0 ≤ i ∧ i < (N : Int) → lo ≤ x ∧ x ≤ hi → ¬ I o i = x → Q (I o i) (sh_u I o i x)) : cc mX6_replace [.inr o, .inl i, .inl x, .inl lo, .inl hi] I (qi Q) :=
  eX6_replace ho hN ⟨hi0, fun q => h1 (by omega), fun q => ⟨bdi (by omega), fun q2 => ⟨hx, hlo, fun q3 => h2 ⟨q, q2⟩ (by omega), fun q3 => ⟨hhi, fun q4 => ⟨⟨q, q2⟩, hI q q2, fun q5 => h4 ⟨q, q2⟩ ⟨q3, q4⟩ q5, fun q5 => h3 ⟨q, q2⟩ ⟨q3, q4⟩ q5⟩, fun q4 => h2 ⟨q, q2⟩ (by omega)⟩⟩, fun q2 => h1 (by omega)⟩⟩
theorem s_copyRow {o1 o2 N : Nat} {I : sh_Mem} {Q : sh_Mem → Prop} (ho1 : sh_is 130 o1 8 N) (ho2 : sh_is 130 o2 8 N) (hN : N < 1000) (h : Q (sh_cpy I o1 o2 0 0 (N : Int))) : cc mX6_copyRow [.inr o1, .inr o2] I (qv Q) := by
  have e : min (N : Int) (N : Int) = (N : Int) := by omega
  refine eX6_copyRow ho1 (by omega) ho2 (by omega) ⟨bdi (by omega), bdi (by omega), ?_⟩
  rw [e]
  exact ⟨by omega, h⟩
theorem s_has {b : Nat} {x : Int} {I : sh_Mem} {Q : Int → sh_Mem → Prop} (hb : sh_isP b) (hv : WF (vP I b)) (hx : sh_Bd x) (h1 : isr (vP I b) x → Q 1 I) (h0 : ¬ isr (vP I b) x → Q 0 I) : cc mX5_has [.inr (b + 1), .inl x] I (qi Q) := by
  have hm := hv.many
  have e6 : I (b + 1) 7 = vP I b 0 6 := rP0_6
  exact eX5_has hb ⟨hx, fun q => h0 (by unfold isr; omega), fun q => ⟨bdi (by omega), fun q2 => h0 (by unfold isr; omega), fun q2 => ⟨fun q3 => h0 (by unfold isr; omega), fun q3 => h1 (by unfold isr; omega)⟩⟩⟩
theorem s_standingOn {b : Nat} {x : Int} {I : sh_Mem} {Q : Int → sh_Mem → Prop} (hb : sh_isP b) (hv : WF (vP I b)) (hx : sh_Bd x) (h : Q (st (vP I b) x) I) : cc mX5_standingOn [.inr (b + 1), .inl x] I (qi Q) := by
  have hm := hv.many
  have e6 : I (b + 1) 7 = vP I b 0 6 := rP0_6
  refine eX5_standingOn hb ?_
  have key : ∀ (n : Nat) (y : Int), 0 ≤ y → y + (n : Int) = vP I b 0 6 → (∀ r, 0 ≤ r → r < y → ¬ vP I b 6 r = x) → kk mX5_standingOn 2 [some (.inr (b + 1)), some (.inl x), some (.inl y)] [] I (qi Q) := by
    intro n
    induction n with
    | zero =>
      intro y h0 hn hr
      refine lX5_standingOn_2 hb ⟨bdi (by omega), bdi (by omega), fun q => ?_, fun q => absurd q (by omega)⟩
      rwa [← st_none hv (c := x) (fun r hr2 => hr r hr2.1 (by unfold isr at hr2; omega))]
    | succ n ih =>
      intro y h0 hn hr
      have ec := rP6 (I := I) (b := b) (i := y) (by omega)
      have hc := hv.cell (r := y) h0 (by omega)
      refine lX5_standingOn_2 hb ⟨bdi (by omega), bdi (by omega), fun q => absurd q (by omega), fun q => ⟨fun q9 => absurd q9 (by omega), fun q9 => ⟨by omega, bdi (by omega), hx, fun q2 => ih (y + 1) (by omega) (by omega) (fun r hr1 hr2 => ?_), fun q2 => ?_⟩⟩⟩
      · by_cases e : r = y
        · rw [e, ← ec]
          exact q2
        · exact hr r hr1 (by omega)
      · rwa [st_is hv (c := x) (r := y) ⟨h0, by omega⟩ (by rw [← ec]; exact q2)] at h
  exact key (vP I b 0 6).toNat 0 (by omega) (by omega) (fun r h1 h2 => absurd h2 (by omega))
/-! the reference's small methods: its row is the object 120 -/
theorem s_in {x lo hi : Int} {I : sh_Mem} {Q : Int → sh_Mem → Prop} (hx : sh_Bd x) (hlo : sh_Bd lo) (hhi : sh_Bd hi) (h1 : lo ≤ x ∧ x ≤ hi → Q 1 I) (h0 : ¬ (lo ≤ x ∧ x ≤ hi) → Q 0 I) : cc mX7_in [.inl x, .inl lo, .inl hi] I (qi Q) :=
  eX7_in ⟨hx, hlo, fun q => h0 (by omega), fun q => ⟨hhi, fun q2 => h0 (by omega), fun q2 => h1 (by omega)⟩⟩
theorem z01_0 : sh_01 0 := Or.inl rfl
theorem z01_1 : sh_01 1 := Or.inr rfl
theorem r_isCell {x : Int} {I : sh_Mem} {Q : Int → sh_Mem → Prop} (hx : sh_Bd x) (h1 : 0 ≤ x ∧ x < 100 → Q 1 I) (h0 : ¬ (0 ≤ x ∧ x < 100) → Q 0 I) : cc mX7_isCell [.inl x] I (qi Q) :=
  eX7_isCell (s_in hx (bd_lit (by decide)) (bd_lit (by decide)) (fun q => ⟨z01_1, h1 (by omega)⟩) (fun q => ⟨z01_0, h0 (by omega)⟩))
theorem r_isLamp {x : Int} {I : sh_Mem} {Q : Int → sh_Mem → Prop} (hx : sh_Bd x) (h1 : 0 ≤ x ∧ x < 3 → Q 1 I) (h0 : ¬ (0 ≤ x ∧ x < 3) → Q 0 I) : cc mX7_isLamp [.inl x] I (qi Q) :=
  eX7_isLamp (s_in hx (bd_lit (by decide)) (bd_lit (by decide)) (fun q => ⟨z01_1, h1 (by omega)⟩) (fun q => ⟨z01_0, h0 (by omega)⟩))
theorem r_isRunner {x : Int} {I : sh_Mem} {Q : Int → sh_Mem → Prop} {v : Vw} (ev : vM (I 120) = v) (hv : WF v) (hx : sh_Bd x) (h1 : isr v x → Q 1 I) (h0 : ¬ isr v x → Q 0 I) : cc mX7_isRunner [.inr 119, .inl x] I (qi Q) := by
  subst ev
  have hm := hv.many
  have e6 : I 120 20 = vM (I 120) 0 6 := rM0_6
  exact eX7_isRunner (s_in hx (bd_lit (by decide)) (bdi (by omega)) (fun q => ⟨z01_1, h1 (by unfold isr; omega)⟩) (fun q => ⟨z01_0, h0 (by unfold isr; omega)⟩))
theorem rMr {R : Int → Int} {r : Int} {w : Nat} (h : 0 ≤ r ∧ r < 6) (hw : w < 7) : R ((21 + 7 * r) + (w : Int)) = vM R (w + 6) r := by
  have hz : szv (w + 6) = 6 := by
    unfold szv
    rw [if_neg (by omega), if_neg (by omega), if_neg (by omega), if_pos (by omega)]
  have e : lmi (w + 6) r = 21 + 7 * r + (w : Int) := by
    unfold lmi
    rw [if_neg (by omega), if_neg (by omega), if_neg (by omega)]
    omega
  simp only [vM, hz]
  rw [if_pos h, e]
theorem rMl {R : Int → Int} {l : Int} {w : Nat} (h : 0 ≤ l ∧ l < 3) (hw : w < 4) : R ((8 + 4 * l) + (w : Int)) = vM R (w + 2) l := by
  have hz : szv (w + 2) = 3 := by
    unfold szv
    rw [if_neg (by omega), if_neg (by omega), if_pos (by omega)]
  have e : lmi (w + 2) l = 8 + 4 * l + (w : Int) := by
    unfold lmi
    rw [if_neg (by omega), if_neg (by omega), if_pos (by omega)]
    omega
  simp only [vM, hz]
  rw [if_pos h, e]
theorem wMr {I : sh_Mem} {r x : Int} {w : Nat} (h : 0 ≤ r ∧ r < 6) (hw : w < 7) : vM (sh_u I 120 ((21 + 7 * r) + (w : Int)) x 120) = up (vM (I 120)) (w + 6) r x := by
  have hz : szv (w + 6) = 6 := by
    unfold szv
    rw [if_neg (by omega), if_neg (by omega), if_neg (by omega), if_pos (by omega)]
  have e : lmi (w + 6) r = 21 + 7 * r + (w : Int) := by
    unfold lmi
    rw [if_neg (by omega), if_neg (by omega), if_neg (by omega)]
    omega
  exact vM_u (by rw [hz]; exact h) e.symm
theorem wMl {I : sh_Mem} {l x : Int} {w : Nat} (h : 0 ≤ l ∧ l < 3) (hw : w < 4) : vM (sh_u I 120 ((8 + 4 * l) + (w : Int)) x 120) = up (vM (I 120)) (w + 2) l x := by
  have hz : szv (w + 2) = 3 := by
    unfold szv
    rw [if_neg (by omega), if_neg (by omega), if_pos (by omega)]
  have e : lmi (w + 2) l = 8 + 4 * l + (w : Int) := by
    unfold lmi
    rw [if_neg (by omega), if_neg (by omega), if_pos (by omega)]
    omega
  exact vM_u (by rw [hz]; exact h) e.symm
theorem r_of {r z : Int} (j : Nat) {I : sh_Mem} {Q : Int → sh_Mem → Prop} {v : Vw} (ev : vM (I 120) = v) (hr : 0 ≤ r ∧ r < 6) (hj : 6 ≤ j ∧ j ≤ 12) (hz : (j : Int) - 6 = z) (h : Q (v j r) I) : cc mX7_of [.inr 119, .inl r, .inl z] I (qi Q) := by
  subst ev
  obtain ⟨w, rfl⟩ : ∃ w, j = w + 6 := ⟨j - 6, by omega⟩
  have e : (w : Int) = z := by omega
  subst e
  refine eX7_of ⟨by omega, ?_⟩
  rw [rMr (R := I 120) hr (by omega)]
  exact h
theorem r_ofLamp {r z : Int} (j : Nat) {I : sh_Mem} {Q : Int → sh_Mem → Prop} {v : Vw} (ev : vM (I 120) = v) (hr : 0 ≤ r ∧ r < 3) (hj : 2 ≤ j ∧ j ≤ 5) (hz : (j : Int) - 2 = z) (h : Q (v j r) I) : cc mX7_ofLamp [.inr 119, .inl r, .inl z] I (qi Q) := by
  subst ev
  obtain ⟨w, rfl⟩ : ∃ w, j = w + 2 := ⟨j - 2, by omega⟩
  have e : (w : Int) = z := by omega
  subst e
  refine eX7_ofLamp ⟨by omega, ?_⟩
  rw [rMl (R := I 120) hr (by omega)]
  exact h
theorem r_put {r z x : Int} (j : Nat) {I : sh_Mem} {Q : sh_Mem → Prop} {v : Vw} (ev : vM (I 120) = v) (hr : 0 ≤ r ∧ r < 6) (hj : 6 ≤ j ∧ j ≤ 12) (hz : (j : Int) - 6 = z) (h : ∀ I', vM (I' 120) = up v j r x → (∀ o, o ≠ 120 → I' o = I o) → Q I') : cc mX7_put [.inr 119, .inl r, .inl z, .inl x] I (qv Q) := by
  subst ev
  obtain ⟨w, rfl⟩ : ∃ w, j = w + 6 := ⟨j - 6, by omega⟩
  have e : (w : Int) = z := by omega
  subst e
  exact eX7_put ⟨by omega, h _ (wMr hr (by omega)) (fun o ho => sh_u_ne ho)⟩
theorem r_putLamp {r z x : Int} (j : Nat) {I : sh_Mem} {Q : sh_Mem → Prop} {v : Vw} (ev : vM (I 120) = v) (hr : 0 ≤ r ∧ r < 3) (hj : 2 ≤ j ∧ j ≤ 5) (hz : (j : Int) - 2 = z) (h : ∀ I', vM (I' 120) = up v j r x → (∀ o, o ≠ 120 → I' o = I o) → Q I') : cc mX7_putLamp [.inr 119, .inl r, .inl z, .inl x] I (qv Q) := by
  subst ev
  obtain ⟨w, rfl⟩ : ∃ w, j = w + 2 := ⟨j - 2, by omega⟩
  have e : (w : Int) = z := by omega
  subst e
  exact eX7_putLamp ⟨by omega, h _ (wMl hr (by omega)) (fun o ho => sh_u_ne ho)⟩
theorem r_next {c d : Int} {I : sh_Mem} {Q : Int → sh_Mem → Prop} (hc : 0 ≤ c ∧ c < 100) (hd : 0 ≤ d ∧ d < 4) (h : Q (nx c d) I) : cc mX7_next [.inl c, .inl d] I (qi Q) := by
  unfold nx at h
  refine eX7_next ⟨bdi (by omega), fun q => ⟨bdi (by omega), fun q2 => ?_, fun q2 => ?_⟩, fun q => ⟨by omega, bdi (by omega), fun q2 => ?_, fun q2 => ?_⟩, fun q => ⟨bdi (by omega), fun q2 => ?_, fun q2 => ?_⟩, fun q => ⟨by omega, bdi (by omega), fun q2 => ?_, fun q2 => ?_⟩⟩
  · rwa [if_pos q, if_neg (by omega)] at h
  · rwa [if_pos q, if_pos (by omega)] at h
  · rwa [if_neg (by omega), if_pos q, if_neg (by omega)] at h
  · rwa [if_neg (by omega), if_pos q, if_pos (by omega)] at h
  · rwa [if_neg (by omega), if_neg (by omega), if_pos q, if_neg (by omega)] at h
  · rwa [if_neg (by omega), if_neg (by omega), if_pos q, if_pos (by omega)] at h
  · rwa [if_neg (by omega), if_neg (by omega), if_neg (by omega), if_neg (by omega)] at h
  · rwa [if_neg (by omega), if_neg (by omega), if_neg (by omega), if_pos (by omega)] at h
theorem r_runnerAt {x : Int} {I : sh_Mem} {Q : Int → sh_Mem → Prop} {v : Vw} (ev : vM (I 120) = v) (hv : WF v) (hx : sh_Bd x) (h : Q (st v x) I) : cc mX7_runnerAt [.inr 119, .inl x] I (qi Q) := by
  subst ev
  have hm := hv.many
  have e6 : I 120 20 = vM (I 120) 0 6 := rM0_6
  refine eX7_runnerAt ?_
  have key : ∀ (n k : Nat), (k : Int) + (n : Int) = vM (I 120) 0 6 → kk mX7_runnerAt 5 [some (.inr 119), some (.inl x), some (.inl (stn (vM (I 120)) x k)), some (.inl (k : Int))] [] I (qi Q) := by
    intro n
    induction n with
    | zero =>
      intro k hn
      refine lX7_runnerAt_5 ⟨bdi (by omega), bdi (by omega), fun q => ?_, fun q => absurd q (by omega)⟩
      have ek : (vM (I 120) 0 6).toNat = k := by omega
      rwa [st, ek] at h
    | succ n ih =>
      intro k hn
      have hc := hv.cell (r := (k : Int)) (by omega) (by omega)
      refine lX7_runnerAt_5 ⟨bdi (by omega), bdi (by omega), fun q => absurd q (by omega), fun q => r_of 6 rfl (by omega) (by decide) rfl ⟨bdi (by omega), hx, fun q2 => ?_, fun q2 => ?_⟩⟩
      · have h9 := ih (k + 1) (by omega)
        rw [stn, if_neg q2] at h9
        exact h9
      · have h9 := ih (k + 1) (by omega)
        rw [stn, if_pos q2] at h9
        exact h9
  exact key (vM (I 120) 0 6).toNat 0 (by omega)
