/-! ===== 38: more questions, and the text ===== -/
theorem sh_first {v : Vw} {c l x y : Int} (hv : WF v) (hc : 0 ≤ c ∧ c < 100) (hl : 0 ≤ l ∧ l < 3) (g0 : 1 ≤ y) (hy : y ≤ te c (v 2 l)) (g2 : ∀ k, 1 ≤ k → k < y → st v (al c (v 2 l) k) = -5) (hr : isr v x) (hcx : v 6 x = al c (v 2 l) y) : (v 5 l = 1 ∧ y ≤ v 7 x * v 3 l → shd v x l c) ∧ (¬ (v 5 l = 1 ∧ y ≤ v 7 x * v 3 l) → ∀ s, isr v s → ¬ shd v s l c) := by
  have hw := hv.lampw hl
  refine ⟨fun q => shd_front hv hr hl hc g0 hy hcx g2 q, fun q s hs hsh => q ?_⟩
  obtain ⟨j, j1, j2, j3, j4⟩ := shd_back hv hs hl hc hsh
  have hmu := mul_bd (hv.run hr.1 hr.2).2.1 hw.2.1
  rcases Int.lt_trichotomy j y with h9 | h9 | h9
  · have h8 := g2 j j1 h9
    rw [← j3, st_is hv hs rfl] at h8
    have := hs.1
    omega
  · subst h9
    have e9 : s = x := hv.apart hs.1 hs.2 hr.1 hr.2 (j3.trans hcx.symm)
    subst e9
    have h8 := (ln_spec hv hs hl).1.2
    unfold mx at h8
    by_cases hon : v 5 l = 1
    · rw [if_pos hon] at h8
      exact ⟨hon, by omega⟩
    · rw [if_neg hon] at h8
      omega
  · have h8 := (ln_spec hv hs hl).2.1 (j - y) (by omega) (by omega)
    have e9 : al (v 6 s) (aw v l) (j - y) = v 6 x := by
      rw [j3, hcx]
      unfold aw
      rw [al_back hw.1]
      congr 1
      omega
    rw [e9, st_is hv hr rfl] at h8
    have := hr.1
    omega
theorem sh_none {v : Vw} {c l : Int} (hv : WF v) (hc : 0 ≤ c ∧ c < 100) (hl : 0 ≤ l ∧ l < 3) (g2 : ∀ k, 1 ≤ k → k ≤ te c (v 2 l) → st v (al c (v 2 l) k) = -5) : ∀ s, isr v s → ¬ shd v s l c := fun s hs hsh => by
  obtain ⟨j, j1, j2, j3, j4⟩ := shd_back hv hs hl hc hsh
  have h9 := g2 j j1 j4
  rw [← j3, st_is hv hs rfl] at h9
  have := hs.1
  omega
def lkd (v : Vw) (c l : Int) : Prop := ∃ r, isr v r ∧ shd v r l c
def nsh (v : Vw) (r : Int) : Prop := ¬ hs v r
theorem s_without {I : sh_Mem} {Q : Int → sh_Mem → Prop} {v : Vw} (ev : vP I oP = v) (hv : WF v) (h : Q (cntN (nsh v) (v 0 6).toNat) I) : cc mX4_runnersWithoutShadow [.inr oP] I (qi Q) := by
  subst ev
  have hm := hv.many
  have e6 : I (oP + 1) 7 = vP I oP 0 6 := rP0_6
  have key : ∀ (n k : Nat), (k : Int) + (n : Int) = vP I oP 0 6 → kk mX4_runnersWithoutShadow 4 [some (.inr oP), some (.inl (cntN (nsh (vP I oP)) k)), some (.inl (k : Int))] [] I (qi Q) := by
    intro n
    induction n with
    | zero =>
      intro k g
      refine lX4_runnersWithoutShadow_4 isP_oP ⟨bdi (by omega), bdi (by omega), fun _ => ?_, fun q => absurd q (by omega)⟩
      rw [show k = (vP I oP 0 6).toNat by omega]
      exact h
    | succ n ih =>
      intro k g
      refine lX4_runnersWithoutShadow_4 isP_oP ⟨bdi (by omega), bdi (by omega), fun q => absurd q (by omega), fun q => s_hasShadow isP_oP hv ⟨by omega, by omega⟩ (fun z => Or.inl ⟨rfl, ?_⟩) (fun z => Or.inr ⟨rfl, ?_⟩)⟩
      · have := ih (k + 1) (by omega)
        rw [cntN_no (fun q => q z)] at this
        exact this
      · have := ih (k + 1) (by omega)
        rw [cntN_yes z] at this
        exact this
  exact eX4_runnersWithoutShadow isP_oP (key (vP I oP 0 6).toNat 0 (by omega))
/-! what turns would bring -/
noncomputable def frs (v : Vw) : Nat → Int
  | 0 => -5
  | n + 1 => if frs v n = -5 then (if turnT (tuN v n) = -5 then -5 else (n : Int) + 1) else frs v n
theorem frs_in {v : Vw} : ∀ n : Nat, -5 ≤ frs v n ∧ frs v n ≤ (n : Int) := by
  intro n
  induction n with
  | zero => simp [frs]
  | succ n ih =>
    unfold frs
    split
    · split <;> omega
    · omega
theorem frs_tags {v : Vw} (hv : WF v) (ht : v 0 2 ≤ v 0 0) : ∀ n : Nat, v 0 0 + (n : Int) < 150000 → frs v n = -5 → tuN v n 0 2 = v 0 2 := by
  intro n
  induction n with
  | zero => exact fun _ _ => rfl
  | succ n ih =>
    intro hn h
    obtain ⟨a, b, c, d⟩ := tuN_ok hv ht n (by omega)
    have e : tuN v (n + 1) 0 2 = tuN v n 0 2 + tgI (turnT (tuN v n)) := (turnF_ok2 a d (by omega)).2.2.2.1
    unfold frs at h
    by_cases z : frs v n = -5
    · rw [if_pos z] at h
      have h1 := ih (by omega) z
      by_cases y : turnT (tuN v n) = -5
      · rw [e, h1]
        unfold tgI
        rw [if_pos y]
        omega
      · rw [if_neg y] at h
        omega
    · rw [if_neg z] at h
      exact absurd h z
