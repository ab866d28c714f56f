/-! ===== 22: small methods ===== -/
theorem s_isCell {x : Int} {I : sh_Mem} {Q : Int → sh_Mem → Prop} (hx : sh_Bd x) (h1 : 0 ≤ x ∧ x < 100 → Q 1 I) (h0 : ¬ (0 ≤ x ∧ x < 100) → Q 0 I) : cc mX6_isCell [.inl x] I (qi Q) :=
  eX6_isCell ⟨hx, fun q => h0 (by omega), fun q => ⟨fun q2 => h0 (by omega), fun q2 => h1 (by omega)⟩⟩
theorem s_isLamp {x : Int} {I : sh_Mem} {Q : Int → sh_Mem → Prop} (hx : sh_Bd x) (h1 : 0 ≤ x ∧ x < 3 → Q 1 I) (h0 : ¬ (0 ≤ x ∧ x < 3) → Q 0 I) : cc mX6_isLamp [.inl x] I (qi Q) :=
  eX6_isLamp ⟨hx, fun q => h0 (by omega), fun q => ⟨fun q2 => h0 (by omega), fun q2 => h1 (by omega)⟩⟩
theorem s_opposite {x : Int} {I : sh_Mem} {Q : Int → sh_Mem → Prop} (hx : 0 ≤ x ∧ x < 4) (h : Q (op x) I) : cc mX6_opposite [.inl x] I (qi Q) :=
  eX6_opposite ⟨by omega, h⟩
theorem s_cellsToEdge {c d : Int} {I : sh_Mem} {Q : Int → sh_Mem → Prop} (hc : 0 ≤ c ∧ c < 100) (hd : 0 ≤ d ∧ d < 4) (h : Q (te c d) I) : cc mX6_cellsToEdge [.inl c, .inl d] I (qi Q) := by
  refine eX6_cellsToEdge ⟨bdi (by omega), fun q => ⟨by omega, ?_⟩, fun q => ⟨by omega, ?_⟩, fun q => ⟨by omega, ?_⟩, fun q => ⟨by omega, ?_⟩, fun q => absurd q (by omega)⟩ <;> subst q <;> exact h
theorem s_cellAlong {c d k : Int} {I : sh_Mem} {Q : Int → sh_Mem → Prop} (hd : 0 ≤ d ∧ d < 4) (h : Q (al c d k) I) : cc mX6_cellAlong [.inl c, .inl d, .inl k] I (qi Q) := by
  refine eX6_cellAlong ⟨bdi (by omega), fun q => ?_, fun q => ?_, fun q => ?_, fun q => ?_, fun q => absurd q (by omega)⟩ <;> subst q <;> exact h
theorem s_distanceAlong {a c d : Int} {I : sh_Mem} {Q : Int → sh_Mem → Prop} (ha : 0 ≤ a ∧ a < 100) (hc : 0 ≤ c ∧ c < 100) (hd : 0 ≤ d ∧ d < 4) (h : Q (di a c d) I) : cc mX6_distanceAlong [.inl a, .inl c, .inl d] I (qi Q) := by
  refine eX6_distanceAlong ⟨by omega, by omega, bdi (by omega), fun q => ⟨bdi (by omega), fun q2 => ?_, fun q2 => ?_⟩, fun q => ⟨bdi (by omega), fun q2 => ?_, fun q2 => ?_⟩, fun q => ⟨bdi (by omega), fun q2 => ?_, fun q2 => ?_⟩, fun q => ⟨bdi (by omega), fun q2 => ?_, fun q2 => ?_⟩, fun q => absurd q (by omega)⟩ <;> subst q <;> simp only [di] at h <;> simp [q2] at h ⊢ <;> exact h
theorem s_replace {o N : Nat} {i x lo hi : Int} {I : sh_Mem} {Q : Int → sh_Mem → Prop} (ho : sh_is 119 o 8 N) (hN : N < 2147483648) (hi0 : sh_Bd i) (hx : sh_Bd x) (hlo : sh_Bd lo) (hhi : sh_Bd hi) (hI : 0 ≤ i → i < (N : Int) → sh_Bd (I o i))
    (h1 : ¬ (0 ≤ i ∧ i < (N : Int)) → Q (-1) I) (h2 : 0 ≤ i ∧ i < (N : Int) → ¬ (lo ≤ x ∧ x ≤ hi) → Q (-2) I) (h3 : 0 ≤ i ∧ i < (N : Int) → lo ≤ x ∧ x ≤ hi → I o i = x → Q (-5) I) (h4 : 0 ≤ i ∧ i < (N : Int) → lo ≤ x ∧ x ≤ hi → ¬ I o i = x → Q (I o i) (sh_u I o i x)) : cc mX6_replace [.inr o, .inl i, .inl x, .inl lo, .inl hi] I (qi Q) :=
  eX6_replace ho hN ⟨hi0, fun q => h1 (by omega), fun q => ⟨bdi (by omega), fun q2 => ⟨hx, hlo, fun q3 => h2 ⟨q, q2⟩ (by omega), fun q3 => ⟨hhi, fun q4 => ⟨⟨q, q2⟩, hI q q2, fun q5 => h4 ⟨q, q2⟩ ⟨q3, q4⟩ q5, fun q5 => h3 ⟨q, q2⟩ ⟨q3, q4⟩ q5⟩, fun q4 => h2 ⟨q, q2⟩ (by omega)⟩⟩, fun q2 => h1 (by omega)⟩⟩
theorem s_copyRow {o1 o2 N : Nat} {I : sh_Mem} {Q : sh_Mem → Prop} (ho1 : sh_is 119 o1 8 N) (ho2 : sh_is 119 o2 8 N) (hN : N < 1000) (h : Q (sh_cpy I o1 o2 0 0 (N : Int))) : cc mX6_copyRow [.inr o1, .inr o2] I (qv Q) := by
  have e : min (N : Int) (N : Int) = (N : Int) := by omega
  refine eX6_copyRow ho1 (by omega) ho2 (by omega) ⟨bdi (by omega), bdi (by omega), ?_⟩
  rw [e]
  exact ⟨by omega, h⟩
theorem s_has {b : Nat} {x : Int} {I : sh_Mem} {Q : Int → sh_Mem → Prop} (hb : sh_isP b) (hv : WF (vP I b)) (hx : sh_Bd x) (h1 : isr (vP I b) x → Q 1 I) (h0 : ¬ isr (vP I b) x → Q 0 I) : cc mX5_has [.inr (b + 1), .inl x] I (qi Q) := by
  have hm := hv.many
  have e6 : I (b + 1) 7 = vP I b 0 6 := rP0_6
  exact eX5_has hb ⟨hx, fun q => h0 (by unfold isr; omega), fun q => ⟨bdi (by omega), fun q2 => h0 (by unfold isr; omega), fun q2 => ⟨fun q3 => h0 (by unfold isr; omega), fun q3 => h1 (by unfold isr; omega)⟩⟩⟩
theorem s_standingOn {b : Nat} {x : Int} {I : sh_Mem} {Q : Int → sh_Mem → Prop} (hb : sh_isP b) (hv : WF (vP I b)) (hx : sh_Bd x) (h : Q (st (vP I b) x) I) : cc mX5_standingOn [.inr (b + 1), .inl x] I (qi Q) := by
  have hm := hv.many
  have e6 : I (b + 1) 7 = vP I b 0 6 := rP0_6
  refine eX5_standingOn hb ?_
  have key : ∀ (n : Nat) (y : Int), 0 ≤ y → y + (n : Int) = vP I b 0 6 → (∀ r, 0 ≤ r → r < y → ¬ vP I b 6 r = x) → kk mX5_standingOn 2 [some (.inr (b + 1)), some (.inl x), some (.inl y)] [] I (qi Q) := by
    intro n
    induction n with
    | zero =>
      intro y h0 hn hr
      refine lX5_standingOn_2 hb ⟨bdi (by omega), bdi (by omega), fun q => ?_, fun q => absurd q (by omega)⟩
      rwa [← st_none hv (c := x) (fun r hr2 => hr r hr2.1 (by unfold isr at hr2; omega))]
    | succ n ih =>
      intro y h0 hn hr
      have ec := rP6 (I := I) (b := b) (i := y) (by omega)
      have hc := hv.cell (r := y) h0 (by omega)
      refine lX5_standingOn_2 hb ⟨bdi (by omega), bdi (by omega), fun q => absurd q (by omega), fun q => ⟨fun q9 => absurd q9 (by omega), fun q9 => ⟨by omega, bdi (by omega), hx, fun q2 => ih (y + 1) (by omega) (by omega) (fun r hr1 hr2 => ?_), fun q2 => ?_⟩⟩⟩
      · by_cases e : r = y
        · rw [e, ← ec]
          exact q2
        · exact hr r hr1 (by omega)
      · rwa [st_is hv (c := x) (r := y) ⟨h0, by omega⟩ (by rw [← ec]; exact q2)] at h
  exact key (vP I b 0 6).toNat 0 (by omega) (by omega) (fun r h1 h2 => absurd h2 (by omega))
theorem z01_0 : sh_01 0 := Or.inl rfl
theorem z01_1 : sh_01 1 := Or.inr rfl
theorem rMr {R : Int → Int} {r : Int} {w : Nat} (h : 0 ≤ r ∧ r < 6) (hw : w < 7) : R ((21 + 7 * r) + (w : Int)) = vM R (w + 6) r := by
  have hz : szv (w + 6) = 6 := by
    unfold szv
    rw [if_neg (by omega), if_neg (by omega), if_neg (by omega), if_pos (by omega)]
  have e : lmi (w + 6) r = 21 + 7 * r + (w : Int) := by
    unfold lmi
    rw [if_neg (by omega), if_neg (by omega), if_neg (by omega)]
    omega
  simp only [vM, hz]
  rw [if_pos h, e]
theorem rMl {R : Int → Int} {l : Int} {w : Nat} (h : 0 ≤ l ∧ l < 3) (hw : w < 4) : R ((8 + 4 * l) + (w : Int)) = vM R (w + 2) l := by
  have hz : szv (w + 2) = 3 := by
    unfold szv
    rw [if_neg (by omega), if_neg (by omega), if_pos (by omega)]
  have e : lmi (w + 2) l = 8 + 4 * l + (w : Int) := by
    unfold lmi
    rw [if_neg (by omega), if_neg (by omega), if_pos (by omega)]
    omega
  simp only [vM, hz]
  rw [if_pos h, e]
theorem wMr {I : sh_Mem} {r x : Int} {w : Nat} (h : 0 ≤ r ∧ r < 6) (hw : w < 7) : vM (sh_u I 120 ((21 + 7 * r) + (w : Int)) x 120) = up (vM (I 120)) (w + 6) r x := by
  have hz : szv (w + 6) = 6 := by
    unfold szv
    rw [if_neg (by omega), if_neg (by omega), if_neg (by omega), if_pos (by omega)]
  have e : lmi (w + 6) r = 21 + 7 * r + (w : Int) := by
    unfold lmi
    rw [if_neg (by omega), if_neg (by omega), if_neg (by omega)]
    omega
  exact vM_u (by rw [hz]; exact h) e.symm
theorem wMl {I : sh_Mem} {l x : Int} {w : Nat} (h : 0 ≤ l ∧ l < 3) (hw : w < 4) : vM (sh_u I 120 ((8 + 4 * l) + (w : Int)) x 120) = up (vM (I 120)) (w + 2) l x := by
  have hz : szv (w + 2) = 3 := by
    unfold szv
    rw [if_neg (by omega), if_neg (by omega), if_pos (by omega)]
  have e : lmi (w + 2) l = 8 + 4 * l + (w : Int) := by
    unfold lmi
    rw [if_neg (by omega), if_neg (by omega), if_pos (by omega)]
    omega
  exact vM_u (by rw [hz]; exact h) e.symm
