/-! ===== 23: shadows ===== -/
def aw (v : Vw) (l : Int) : Int := op (v 2 l)
def mx (v : Vw) (r l : Int) : Int := min (if v 5 l = 1 then v 7 r * v 3 l else 0) (te (v 6 r) (aw v l))
def lnF (v : Vw) (c d m : Int) : Nat → Int → Int
  | 0, k => k
  | n + 1, k => if k < m ∧ (k = 0 ∨ st v (al c d k) = -5) then lnF v c d m n (k + 1) else k
/-- how many cells a shadow has -/
def ln (v : Vw) (r l : Int) : Int := lnF v (v 6 r) (aw v l) (mx v r l) (mx v r l).toNat 0
def LenIs (v : Vw) (c d m n : Int) : Prop := (0 ≤ n ∧ n ≤ m) ∧ (∀ k, 1 ≤ k → k < n → st v (al c d k) = -5) ∧ (n < m → 1 ≤ n ∧ ¬ st v (al c d n) = -5)
theorem mul_bd {a b : Int} (ha : 1 ≤ a ∧ a ≤ 5) (hb : 1 ≤ b ∧ b ≤ 4) : 1 ≤ a * b ∧ a * b ≤ 20 := by
  have h : b = 1 ∨ b = 2 ∨ b = 3 ∨ b = 4 := by omega
  rcases h with rfl | rfl | rfl | rfl <;> omega
theorem aw_in {v : Vw} {l : Int} : 0 ≤ aw v l ∧ aw v l < 4 := op_in
theorem mx_in {v : Vw} {r l : Int} (hv : WF v) (hr : isr v r) (hl : 0 ≤ l ∧ l < 3) : 0 ≤ mx v r l ∧ mx v r l ≤ te (v 6 r) (aw v l) ∧ mx v r l ≤ 9 := by
  have h1 := te_in (d := aw v l) (hv.cell hr.1 hr.2)
  have h2 := mul_bd (hv.run hr.1 hr.2).2.1 (hv.lampw hl).2.1
  unfold mx
  split <;> omega
theorem lnF_spec {v : Vw} {c d m : Int} : ∀ (n : Nat) (k : Int), 0 ≤ k → k ≤ m → m - k ≤ (n : Int) → (∀ j, 1 ≤ j → j < k → st v (al c d j) = -5) → LenIs v c d m (lnF v c d m n k) := by
  intro n
  induction n with
  | zero =>
    intro k h0 h1 h2 h3
    exact ⟨⟨h0, h1⟩, h3, fun h => by unfold lnF at h; omega⟩
  | succ n ih =>
    intro k h0 h1 h2 h3
    unfold lnF
    by_cases h : k < m ∧ (k = 0 ∨ st v (al c d k) = -5)
    · rw [if_pos h]
      refine ih (k + 1) (by omega) (by omega) (by omega) (fun j a b => ?_)
      by_cases e : j = k
      · rcases h.2 with h4 | h4
        · omega
        · rw [e]
          exact h4
      · exact h3 j a (by omega)
    · rw [if_neg h]
      refine ⟨⟨h0, h1⟩, h3, fun h4 => ?_⟩
      have h5 : ¬ (k = 0 ∨ st v (al c d k) = -5) := fun q => h ⟨h4, q⟩
      exact ⟨by omega, fun q => h5 (Or.inr q)⟩
theorem len_uniq {v : Vw} {c d m n n' : Int} (h : LenIs v c d m n) (h' : LenIs v c d m n') : n = n' := by
  have key : ∀ a b : Int, LenIs v c d m a → LenIs v c d m b → ¬ a < b := by
    intro a b ha hb hlt
    have h1 := ha.2.2 (by have := hb.1.2; omega)
    exact h1.2 (hb.2.1 a h1.1 hlt)
  have h1 := key n n' h h'
  have h2 := key n' n h' h
  omega
theorem ln_spec {v : Vw} {r l : Int} (hv : WF v) (hr : isr v r) (hl : 0 ≤ l ∧ l < 3) : LenIs v (v 6 r) (aw v l) (mx v r l) (ln v r l) := by
  have hm := mx_in hv hr hl
  exact lnF_spec _ _ (by omega) (by omega) (by omega) (fun j a b => by omega)
theorem ln_is {v : Vw} {r l n : Int} (hv : WF v) (hr : isr v r) (hl : 0 ≤ l ∧ l < 3) (h : LenIs v (v 6 r) (aw v l) (mx v r l) n) : ln v r l = n := len_uniq (ln_spec hv hr hl) h
theorem ln_in {v : Vw} {r l : Int} (hv : WF v) (hr : isr v r) (hl : 0 ≤ l ∧ l < 3) : 0 ≤ ln v r l ∧ ln v r l ≤ te (v 6 r) (aw v l) ∧ ln v r l ≤ 9 := by
  have h1 := (ln_spec hv hr hl).1
  have h2 := mx_in hv hr hl
  omega
/-- the cell c is in the shadow of the runner r by the lamp l -/
def shd (v : Vw) (r l c : Int) : Prop := 0 < di (v 6 r) c (aw v l) ∧ di (v 6 r) c (aw v l) ≤ ln v r l
theorem shd_iff {v : Vw} {r l c : Int} (hv : WF v) (hr : isr v r) (hl : 0 ≤ l ∧ l < 3) (hc : 0 ≤ c ∧ c < 100) : shd v r l c ↔ ∃ k, 1 ≤ k ∧ k ≤ ln v r l ∧ al (v 6 r) (aw v l) k = c := by
  have hcr := hv.cell hr.1 hr.2
  have hln := ln_in hv hr hl
  constructor
  · intro h
    exact ⟨_, h.1, h.2, (al_di hcr hc aw_in h.1).2⟩
  · rintro ⟨k, h1, h2, rfl⟩
    unfold shd
    rw [di_al hcr aw_in ⟨by omega, by omega⟩]
    exact ⟨by omega, h2⟩
/-- the runner in whose shadow by the lamp l the cell c is -/
theorem shd_one {v : Vw} {r s l c : Int} (hv : WF v) (hr : isr v r) (hs : isr v s) (hl : 0 ≤ l ∧ l < 3) (hc : 0 ≤ c ∧ c < 100) (h1 : shd v r l c) (h2 : shd v s l c) : r = s := by
  have key : ∀ r s, isr v r → isr v s → shd v r l c → shd v s l c → ¬ di (v 6 r) c (aw v l) < di (v 6 s) c (aw v l) := by
    intro r s hr hs h1 h2 hlt
    have hcr := hv.cell hr.1 hr.2
    have hcs := hv.cell hs.1 hs.2
    have a1 := al_di hcr hc aw_in h1.1
    have a2 := al_di hcs hc aw_in h2.1
    -- r stands between s and c
    have e : al (v 6 s) (aw v l) (di (v 6 s) c (aw v l) - di (v 6 r) c (aw v l)) = v 6 r := by
      generalize di (v 6 r) c (aw v l) = x at *
      generalize di (v 6 s) c (aw v l) = y at *
      have b1 := a1.2
      have b2 := a2.2
      unfold al at b1 b2 ⊢
      split at b1
      · rename_i hd
        rw [if_pos hd] at b2 ⊢
        omega
      · rename_i hd
        rw [if_neg hd] at b2 ⊢
        split at b1
        · rename_i hd
          rw [if_pos hd] at b2 ⊢
          omega
        · rename_i hd
          rw [if_neg hd] at b2 ⊢
          split at b1
          · rename_i hd
            rw [if_pos hd] at b2 ⊢
            omega
          · rename_i hd
            rw [if_neg hd] at b2 ⊢
            omega
    have h3 := (ln_spec hv hs hl).2.1 (di (v 6 s) c (aw v l) - di (v 6 r) c (aw v l)) (by omega) (by have := h2.2; have := h1.1; omega)
    rw [e, st_is hv hr rfl] at h3
    have := hr.1
    omega
  have hcr := hv.cell hr.1 hr.2
  have hcs := hv.cell hs.1 hs.2
  have k1 := key r s hr hs h1 h2
  have k2 := key s r hs hr h2 h1
  have a1 := al_di hcr hc aw_in h1.1
  have a2 := al_di hcs hc aw_in h2.1
  have e : di (v 6 r) c (aw v l) = di (v 6 s) c (aw v l) := by omega
  rw [e] at a1
  refine hv.apart hr.1 hr.2 hs.1 hs.2 ?_
  have b1 := a1.2
  have b2 := a2.2
  generalize di (v 6 s) c (aw v l) = y at *
  unfold al at b1 b2
  split at b1
  · rename_i hd
    rw [if_pos hd] at b2
    omega
  · rename_i hd
    rw [if_neg hd] at b2
    split at b1
    · rename_i hd
      rw [if_pos hd] at b2
      omega
    · rename_i hd
      rw [if_neg hd] at b2
      split at b1
      · rename_i hd
        rw [if_pos hd] at b2
        omega
      · rename_i hd
        rw [if_neg hd] at b2
        omega
/-! the class -/
theorem s_shadowLength {b : Nat} {r l : Int} {I : sh_Mem} {Q : Int → sh_Mem → Prop} (hb : sh_isP b) (hv : WF (vP I b)) (hr : sh_Bd r) (hl : sh_Bd l) (h0 : ¬ (isr (vP I b) r ∧ 0 ≤ l ∧ l < 3) → Q 0 I) (h1 : isr (vP I b) r ∧ 0 ≤ l ∧ l < 3 → Q (ln (vP I b) r l) I) : cc mX4_shadowLength [.inr b, .inl r, .inl l] I (qi Q) := by
  have hm := hv.many
  have e6 : I (b + 1) 7 = vP I b 0 6 := rP0_6
  refine eX4_shadowLength hb (s_has hb hv hr (fun hr => ?_) (fun q => Or.inr ⟨rfl, h0 (fun z => q z.1)⟩))
  refine Or.inl ⟨rfl, s_isLamp hl (fun hl => ?_) (fun q => Or.inr ⟨rfl, h0 (fun z => q z.2)⟩)⟩
  replace h1 := h1 ⟨hr, hl⟩
  clear h0
  have hr0 := hr
  unfold isr at hr0
  have hw := hv.lampw hl
  have hru := hv.run hr.1 hr.2
  have e5 := rP5 (I := I) (b := b) hl
  have e2 := rP2 (I := I) (b := b) hl
  have e3 := rP3 (I := I) (b := b) hl
  have ec := rP6 (I := I) (b := b) (i := r) (by omega)
  have eh := rP7 (I := I) (b := b) (i := r) (by omega)
  have hls := ln_spec hv hr hl
  have hlm := mx_in hv hr hl
  refine Or.inl ⟨rfl, by omega, bdi (by omega), fun q => ⟨by omega, ?_⟩, fun q => ?_⟩
  · rw [e2, ec]
    refine s_opposite (by omega) (s_cellsToEdge (by omega) op_in ?_)
    rw [eh, e3]
    have hmu := mul_bd hru.2.1 hw.2.1
    have hte := te_in (d := op (vP I b 2 l)) hru.1
    refine ⟨bdi (by omega), bdi (by omega), ?_⟩
    have hon : vP I b 5 l = 1 := by omega
    have emx : min (vP I b 7 r * vP I b 3 l) (te (vP I b 6 r) (op (vP I b 2 l))) = mx (vP I b) r l := by
      unfold mx
      rw [if_pos hon]
      rfl
    rw [emx]
    show kk mX4_shadowLength 89 [some (.inr b), none, none, some (.inl (vP I b 6 r)), some (.inl (aw (vP I b) l)), some (.inl (mx (vP I b) r l)), some (.inl 0), none] [] I (qi Q)
    have key : ∀ (n : Nat) (y z : Int), 0 ≤ y → y + (n : Int) = vP I b 0 6 → 0 ≤ z → z ≤ mx (vP I b) r l → (z < mx (vP I b) r l → 1 ≤ z ∧ ¬ st (vP I b) (al (vP I b 6 r) (aw (vP I b) l) z) = -5) →
        (∀ s, 0 ≤ s → s < y → ∀ k, 1 ≤ k → k < z → ¬ vP I b 6 s = al (vP I b 6 r) (aw (vP I b) l) k) → kk mX4_shadowLength 89 [some (.inr b), none, none, some (.inl (vP I b 6 r)), some (.inl (aw (vP I b) l)), some (.inl z), some (.inl y), none] [] I (qi Q) := by
      intro n
      induction n with
      | zero =>
        intro y z g0 g1 g2 g3 g4 g5
        refine lX4_shadowLength_89 hb ⟨bdi (by omega), bdi (by omega), fun q => ?_, fun q => absurd q (by omega)⟩
        rwa [ln_is hv hr hl (n := z) ⟨⟨g2, g3⟩, fun k k1 k2 => st_none hv (fun s hs => g5 s hs.1 (by have := hs.2; omega) k k1 k2), g4⟩] at h1
      | succ n ih =>
        intro y z g0 g1 g2 g3 g4 g5
        have hy : isr (vP I b) y := ⟨g0, by omega⟩
        have hcy := hv.cell hy.1 hy.2
        have ey := rP6 (I := I) (b := b) (i := y) (by omega)
        have hdb := di_bd (d := aw (vP I b) l) hru.1 hcy
        refine lX4_shadowLength_89 hb ⟨bdi (by omega), bdi (by omega), fun q => absurd q (by omega), fun q => ⟨fun q9 => absurd q9 (by omega), fun q9 => ⟨by omega, ?_⟩⟩⟩
        rw [ey]
        refine s_distanceAlong hru.1 hcy aw_in ⟨bdi (by omega), fun q2 => ih (y + 1) z (by omega) (by omega) g2 g3 g4 (fun s s1 s2 k k1 k2 => ?_), fun q2 => ⟨bdi (by omega), fun q3 => ih (y + 1) z (by omega) (by omega) g2 g3 g4 (fun s s1 s2 k k1 k2 => ?_), fun q3 => ih (y + 1) _ (by omega) (by omega) (by omega) (by omega) (fun _ => ?_) (fun s s1 s2 k k1 k2 => ?_)⟩⟩
        · by_cases es : s = y
          · subst es
            intro e9
            rw [e9, di_al hru.1 aw_in ⟨by omega, by omega⟩] at q2
            omega
          · exact g5 s s1 (by omega) k k1 k2
        · by_cases es : s = y
          · subst es
            intro e9
            rw [e9, di_al hru.1 aw_in ⟨by omega, by omega⟩] at q3
            omega
          · exact g5 s s1 (by omega) k k1 k2
        · refine ⟨by omega, ?_⟩
          rw [(al_di hru.1 hcy aw_in q2).2, st_is hv hy rfl]
          omega
        · by_cases es : s = y
          · subst es
            intro e9
            have h9 := di_al (k := k) hru.1 (aw_in (v := vP I b) (l := l)) ⟨by omega, by have := (al_di hru.1 hcy aw_in q2).1; omega⟩
            rw [← e9] at h9
            omega
          · exact g5 s s1 (by omega) k k1 (by omega)
    exact key (vP I b 0 6).toNat 0 _ (by omega) (by omega) (by omega) (by omega) (fun q => absurd q (by omega)) (fun s s1 s2 => absurd s2 (by omega))
  · have hon : ¬ vP I b 5 l = 1 := by omega
    have e0 : mx (vP I b) r l = 0 := by
      have := te_in (d := aw (vP I b) l) hru.1
      unfold mx
      rw [if_neg hon]
      omega
    have : ln (vP I b) r l = 0 := by
      have := hls.1
      omega
    rwa [this] at h1
