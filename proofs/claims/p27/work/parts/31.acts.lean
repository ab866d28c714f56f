/-! ===== 31: the acts but turns ===== -/
def addF (v : Vw) (c h : Int) : Vw := fun j i =>
  if i = v 0 6 ∧ 6 ≤ j ∧ j ≤ 12 then (if j = 6 then c else if j = 7 then h else if j = 8 then 4 else 0)
  else if j = 0 ∧ i = 6 then v 0 6 + 1 else if j = 0 ∧ i = 1 then (if v 0 1 = -5 then v 0 6 else v 0 1) else v j i
def comeF (v : Vw) (c h : Int) : Int × Vw := if ¬ (0 ≤ c ∧ c < 100) then (-1, v) else if ¬ (1 ≤ h ∧ h ≤ 5) then (-2, v) else if ¬ st v c = -5 then (-4, v) else if 6 ≤ v 0 6 then (-3, v) else (v 0 6, addF v c h)
def hw (d : Int) : Int := if d = -1 then 4 else d
def headF (v : Vw) (r d : Int) : Int × Vw := if ¬ (0 ≤ r ∧ r < v 0 6) then (-1, v) else if ¬ (-1 ≤ d ∧ d ≤ 3) then (-2, v) else if v 8 r = hw d then (-5, v) else (v 8 r, up v 8 r (hw d))
def brn (v : Vw) : Int := v 5 0 + v 5 1 + v 5 2
def lightF (v : Vw) (l on : Int) : Int × Vw := if ¬ (0 ≤ l ∧ l < 3) then (-1, v) else if v 5 l = on then (-5, v) else (brn (up v 5 l on), up v 5 l on)
def slj (w : Int) : Nat := if w = 0 then 2 else if w = 1 then 3 else 4
def slOk (w x : Int) : Prop := (w = 0 ∧ 0 ≤ x ∧ x ≤ 3) ∨ (w = 1 ∧ 1 ≤ x ∧ x ≤ 4) ∨ (w = 2 ∧ 0 ≤ x ∧ x ≤ 9)
noncomputable def setLF (v : Vw) (l w x : Int) : Int × Vw := if ¬ (0 ≤ l ∧ l < 3) then (-1, v) else if ¬ ((w = 0 ∧ 0 ≤ x ∧ x ≤ 3) ∨ (w = 1 ∧ 1 ≤ x ∧ x ≤ 4) ∨ (w = 2 ∧ 0 ≤ x ∧ x ≤ 9)) then (-2, v) else if v (slj w) l = x then (-5, v) else (v (slj w) l, up v (slj w) l x)
def setF (v : Vw) (w x : Int) : Int × Vw := if ¬ (0 ≤ w ∧ w ≤ 1) then (-1, v) else if ¬ (0 ≤ x ∧ x ≤ 9) then (-2, v) else if v 1 w = x then (-5, v) else (v 1 w, up v 1 w x)
noncomputable def passF (v : Vw) (t : Int) : Int × Vw := if ¬ (1 ≤ t ∧ t ≤ 99) then (-2, v) else if 99999 < v 0 0 + t then (-3, v) else (tuN v t.toNat 0 2 - v 0 2, tuN v t.toNat)
/-- a state between two calls -/
def WB (v : Vw) : Prop := WF v ∧ v 0 2 ≤ v 0 0 ∧ v 0 0 ≤ 99999
/-- what an act of the class, or of the reference, brings about -/
def PA (b : Nat) (I : sh_Mem) (Q : Int → sh_Mem → Prop) (f : Int × Vw) : Prop := ∀ J, Off b I J → vP J b = f.2 → Q f.1 J
theorem PA.same {b : Nat} {I : sh_Mem} {Q : Int → sh_Mem → Prop} {f : Int × Vw} {z : Int} {v : Vw} (h : PA b I Q f) (e : f = (z, v)) (ev : vP I b = v) : Q z I := by
  subst e
  exact h I Off.rf ev
theorem PA.new {b : Nat} {I J : sh_Mem} {Q : Int → sh_Mem → Prop} {f : Int × Vw} {z : Int} {w : Vw} (h : PA b I Q f) (e : f = (z, w)) (o : Off b I J) (ev : vP J b = w) : Q z J := by
  subst e
  exact h J o ev
theorem WF.catch5 {v : Vw} (hv : WF v) : v 0 1 = -5 ↔ v 0 6 = 0 := by
  have := hv.2.1
  have := hv.1
  omega
theorem s_welcome {b : Nat} {c x : Int} {I : sh_Mem} {Q : Int → sh_Mem → Prop} {v : Vw} (hb : sh_isP b) (ev : vP I b = v) (hv : WF v) (hc : sh_Bd c) (hx : sh_Bd x) (h : PA b I Q (comeF v c x)) : cc mX5_welcome [.inr (b + 1), .inl c, .inl x] I (qi Q) := by
  subst ev
  have hm := hv.many
  have e6 : I (b + 1) 7 = vP I b 0 6 := rP0_6
  have e1 : I (b + 1) 8 = vP I b 0 1 := rP0_1
  have hcb := hv.2.1
  have hsb := st_bd hv c
  have done : 0 ≤ c ∧ c < 100 → 1 ≤ x ∧ x ≤ 5 → st (vP I b) c = -5 → vP I b 0 6 < 6 → ∀ y, y = (if vP I b 0 1 = -5 then vP I b 0 6 else vP I b 0 1) → Q (vP I b 0 6) (sh_u (sh_u (sh_u (sh_u (sh_u (sh_u (sh_u (sh_u (sh_u I (b + 2) (vP I b 0 6) c) (b + 3) (vP I b 0 6) x) (b + 4) (vP I b 0 6) 4) (b + 5) (vP I b 0 6) 0) (b + 6) (vP I b 0 6) 0) (b + 7) (vP I b 0 6) 0) (b + 8) (vP I b 0 6) 0) (b + 1) 7 ((vP I b 0 6) + 1)) (b + 1) 8 y) := by
    intro q1 q2 q3 q4 y hy
    refine h.new (z := vP I b 0 6) (w := addF (vP I b) c x) ?_ ((((((((((Off.rf).put (by omega)).put (by omega)).put (by omega)).put (by omega)).put (by omega)).put (by omega)).put (by omega)).put (by omega)).put (by omega)) ?_
    · rw [comeF, if_neg (fun z => z q1), if_neg (fun z => z q2), if_neg (fun z => z q3), if_neg (by omega)]
    · rw [wP0_1, wP0_6, wP12 (by omega), wP11 (by omega), wP10 (by omega), wP9 (by omega), wP8 (by omega), wP7 (by omega), wP6 (by omega)]
      generalize vP I b = v at *
      funext j i
      simp only [up, addF]
      repeat' split
      all_goals first | rfl | omega
  refine eX5_welcome hb (s_isCell hc (fun q => Or.inl ⟨rfl, hx, fun q2 => h.same ?_ rfl, fun q2 => ⟨fun q3 => s_standingOn hb hv hc ⟨bdi (by omega), fun q4 => ?_, fun q4 => h.same ?_ rfl⟩, fun q3 => h.same ?_ rfl⟩⟩) (fun q => Or.inr ⟨rfl, h.same ?_ rfl⟩))
  · rw [comeF, if_neg (fun z => z q), if_pos (by omega)]
  · rw [e6, e1]
    refine ⟨bdi (by omega), fun q9 => absurd q9 (by omega), fun q9 => ⟨fun q5 => ⟨by omega, bdi (by omega), fun q6 => done q ⟨q2, q3⟩ q4 q5 _ (by rw [if_neg q6]), fun q6 => done q ⟨q2, q3⟩ q4 q5 _ (by rw [if_pos q6])⟩, fun q5 => h.same ?_ rfl⟩⟩
    rw [comeF, if_neg (fun z => z q), if_neg (by omega), if_neg (fun z => z q4), if_pos q5]
  · rw [comeF, if_neg (fun z => z q), if_neg (by omega), if_pos q4]
  · rw [comeF, if_neg (fun z => z q), if_pos (by omega)]
  · rw [comeF, if_pos q]
theorem s_steer {b : Nat} {r d : Int} {I : sh_Mem} {Q : Int → sh_Mem → Prop} {v : Vw} (hb : sh_isP b) (ev : vP I b = v) (hv : WF v) (hr : sh_Bd r) (hd : sh_Bd d) (h : PA b I Q (headF v r d)) : cc mX5_steer [.inr (b + 1), .inl r, .inl d] I (qi Q) := by
  subst ev
  have hm := hv.many
  refine eX5_steer hb (s_has hb hv hr (fun q => Or.inl ⟨rfl, hd, fun q2 => h.same ?_ rfl, fun q2 => ⟨fun q3 => ?_, fun q3 => h.same ?_ rfl⟩⟩) (fun q => Or.inr ⟨rfl, h.same ?_ rfl⟩))
  · unfold isr at q
    rw [headF, if_neg (fun z => z q), if_pos (by omega)]
  · have q0 := q
    unfold isr at q0
    have hru := hv.run q.1 q.2
    have e8 := rP8 (I := I) (b := b) (i := r) (by omega)
    have go : ∀ w, w = hw d → 0 ≤ w ∧ w ≤ 4 → cc mX6_replace [.inr (b + 4), .inl r, .inl w, .inl 0, .inl 4] I (qi Q) := by
      intro w hw4 hw5
      refine s_replace (is_P4 hb) (by decide) hr (bdi (by omega)) (bd_lit (by decide)) (bd_lit (by decide)) (fun _ _ => bdi (by omega)) (fun z => absurd z (by omega)) (fun _ z => absurd hw5 z) (fun _ _ z => h.same ?_ rfl) (fun _ _ z => ?_)
      · rw [headF, if_neg (fun z => z q0), if_neg (by omega), if_pos (by rw [← e8, z, hw4])]
      · rw [e8] at z ⊢
        refine h.new (z := vP I b 8 r) (w := up (vP I b) 8 r w) ?_ (Off.rf.put (by omega)) (wP8 (by omega))
        rw [headF, if_neg (fun z => z q0), if_neg (by omega), if_neg (by rw [← hw4]; exact z), ← hw4]
    refine ⟨fun q4 => ci_mono (go d (by rw [hw, if_neg q4]) (by omega)) (fun _ _ z => z), fun q4 => ci_mono (go 4 (by rw [hw, if_pos q4]) (by omega)) (fun _ _ z => z)⟩
  · unfold isr at q
    rw [headF, if_neg (fun z => z q), if_pos (by omega)]
  · unfold isr at q
    rw [headF, if_pos q]
theorem s_burning {b : Nat} {I : sh_Mem} {Q : Int → sh_Mem → Prop} {v : Vw} (hb : sh_isP b) (ev : vP I b = v) (h : Q (brn v) I) : cc mX3_burning [.inr (b + 9)] I (qi Q) := by
  have e0 : I (b + 13) 0 = v 5 0 := by rw [rP5 (I := I) (b := b) (i := 0) (by omega), ev]
  have e1 : I (b + 13) 1 = v 5 1 := by rw [rP5 (I := I) (b := b) (i := 1) (by omega), ev]
  have e2 : I (b + 13) 2 = v 5 2 := by rw [rP5 (I := I) (b := b) (i := 2) (by omega), ev]
  refine eX3_burning hb (lX3_burning_4 hb ⟨bd_lit (by decide), fun q => absurd q (by decide), fun _ => ⟨by decide, ?_⟩⟩)
  refine lX3_burning_4 hb ⟨bd_lit (by decide), fun q => absurd q (by decide), fun _ => ⟨by decide, ?_⟩⟩
  refine lX3_burning_4 hb ⟨bd_lit (by decide), fun q => absurd q (by decide), fun _ => ⟨by decide, ?_⟩⟩
  refine lX3_burning_4 hb ⟨bd_lit (by decide), fun _ => ?_, fun q => absurd q (by decide)⟩
  have e : 0 + I (b + 13) 0 + I (b + 13) (0 + 1) + I (b + 13) (0 + 1 + 1) = brn v := by
    show 0 + I (b + 13) 0 + I (b + 13) 1 + I (b + 13) 2 = brn v
    rw [e0, e1, e2, brn]
    omega
  rw [e]
  exact h
theorem brn_in {v : Vw} (hv : WF v) : 0 ≤ brn v ∧ brn v ≤ 3 := by
  have h0 := (hv.lampw (l := 0) (by omega)).2.2.2
  have h1 := (hv.lampw (l := 1) (by omega)).2.2.2
  have h2 := (hv.lampw (l := 2) (by omega)).2.2.2
  unfold brn
  omega
theorem s_switchTo {b : Nat} {l on : Int} {I : sh_Mem} {Q : Int → sh_Mem → Prop} {v : Vw} (hb : sh_isP b) (ev : vP I b = v) (hv : WF v) (hl : sh_Bd l) (hon : 0 ≤ on ∧ on ≤ 1) (h : PA b I Q (lightF v l on)) : cc mX3_switchTo [.inr (b + 9), .inl l, .inl on] I (qi Q) := by
  subst ev
  refine eX3_switchTo hb (s_replace (is_P13 hb) (by decide) hl (bdi (by omega)) (bd_lit (by decide)) (bd_lit (by decide)) (fun q1 q2 => ?_) (fun z => ⟨bd_lit (by decide), fun z2 => absurd z2 (by decide), fun _ => h.same ?_ rfl⟩) (fun _ z => absurd hon z) (fun z1 _ z => ⟨bd_lit (by decide), fun z2 => absurd z2 (by decide), fun _ => h.same ?_ rfl⟩) (fun z1 _ z => ?_))
  · have := hv.lampw (l := l) ⟨q1, q2⟩
    have e5 := rP5 (I := I) (b := b) (i := l) ⟨q1, q2⟩
    exact bdi (by omega)
  · rw [lightF, if_pos (show ¬ (0 ≤ l ∧ l < 3) from z)]
  · have e5 := rP5 (I := I) (b := b) (i := l) z1
    rw [lightF, if_neg (fun z9 => z9 z1), if_pos (by rw [← e5]; exact z)]
  · have e5 := rP5 (I := I) (b := b) (i := l) z1
    have := hv.lampw (l := l) z1
    rw [e5] at z ⊢
    refine ⟨bdi (by omega), fun _ => s_burning hb (wP5 z1) (h.new (z := brn (up (vP I b) 5 l on)) (w := up (vP I b) 5 l on) ?_ (Off.rf.put (by omega)) (wP5 z1)), fun z2 => absurd z2 (by omega)⟩
    rw [lightF, if_neg (fun z9 => z9 z1), if_neg z]
theorem s_adjust {b : Nat} {l w x : Int} {I : sh_Mem} {Q : Int → sh_Mem → Prop} {v : Vw} (hb : sh_isP b) (ev : vP I b = v) (hv : WF v) (hl : sh_Bd l) (hw : sh_Bd w) (hx : sh_Bd x) (h : PA b I Q (setLF v l w x)) : cc mX3_adjust [.inr (b + 9), .inl l, .inl w, .inl x] I (qi Q) := by
  subst ev
  refine eX3_adjust hb (s_isLamp hl (fun q => Or.inl ⟨rfl, hw, fun q2 => ?_, fun q2 => ?_, fun q2 => ?_, fun q2 => h.same ?_ rfl⟩) (fun q => Or.inr ⟨rfl, h.same ?_ rfl⟩))
  · subst q2
    have e := rP2 (I := I) (b := b) (i := l) q
    have hlw := hv.lampw (l := l) q
    refine s_replace (is_P10 hb) (by decide) hl hx (bd_lit (by decide)) (bd_lit (by decide)) (fun _ _ => bdi (by omega)) (fun z => absurd q z) (fun _ z => h.same ?_ rfl) (fun _ z1 z => h.same ?_ rfl) (fun _ z1 z => ?_)
    · rw [setLF, if_neg (fun z => z q), if_pos (by omega)]
    · rw [setLF, if_neg (fun z => z q), if_neg (by omega), if_pos (by rw [← z, e]; rfl)]
    · rw [e] at z ⊢
      refine h.new (z := vP I b 2 l) (w := up (vP I b) 2 l x) ?_ (Off.rf.put (by omega)) (wP2 q)
      rw [setLF, if_neg (fun z => z q), if_neg (by omega), if_neg (show ¬ vP I b (slj 0) l = x from z)]
      rfl
  · subst q2
    have e := rP3 (I := I) (b := b) (i := l) q
    have hlw := hv.lampw (l := l) q
    refine s_replace (is_P11 hb) (by decide) hl hx (bd_lit (by decide)) (bd_lit (by decide)) (fun _ _ => bdi (by omega)) (fun z => absurd q z) (fun _ z => h.same ?_ rfl) (fun _ z1 z => h.same ?_ rfl) (fun _ z1 z => ?_)
    · rw [setLF, if_neg (fun z => z q), if_pos (by omega)]
    · rw [setLF, if_neg (fun z => z q), if_neg (by omega), if_pos (by rw [← z, e]; rfl)]
    · rw [e] at z ⊢
      refine h.new (z := vP I b 3 l) (w := up (vP I b) 3 l x) ?_ (Off.rf.put (by omega)) (wP3 q)
      rw [setLF, if_neg (fun z => z q), if_neg (by omega), if_neg (show ¬ vP I b (slj 1) l = x from z)]
      rfl
  · subst q2
    have e := rP4 (I := I) (b := b) (i := l) q
    have hlw := hv.lampw (l := l) q
    refine s_replace (is_P12 hb) (by decide) hl hx (bd_lit (by decide)) (bd_lit (by decide)) (fun _ _ => bdi (by omega)) (fun z => absurd q z) (fun _ z => h.same ?_ rfl) (fun _ z1 z => h.same ?_ rfl) (fun _ z1 z => ?_)
    · rw [setLF, if_neg (fun z => z q), if_pos (by omega)]
    · rw [setLF, if_neg (fun z => z q), if_neg (by omega), if_pos (by rw [← z, e]; rfl)]
    · rw [e] at z ⊢
      refine h.new (z := vP I b 4 l) (w := up (vP I b) 4 l x) ?_ (Off.rf.put (by omega)) (wP4 q)
      rw [setLF, if_neg (fun z => z q), if_neg (by omega), if_neg (show ¬ vP I b (slj 2) l = x from z)]
      rfl
  · rw [setLF, if_neg (fun z => z q), if_pos (by omega)]
  · rw [setLF, if_pos q]
theorem s_settings {b : Nat} {w x : Int} {I : sh_Mem} {Q : Int → sh_Mem → Prop} {v : Vw} (hb : sh_isP b) (ev : vP I b = v) (hv : WF v) (hw : sh_Bd w) (hx : sh_Bd x) (h : PA b I Q (setF v w x)) : cc mX6_replace [.inr (b + 14), .inl w, .inl x, .inl 0, .inl 9] I (qi Q) := by
  subst ev
  have h1 := hv.2.2.2.2.2.1
  have h2 := hv.2.2.2.2.2.2.1
  have hbd : 0 ≤ w → w < 2 → 0 ≤ I (b + 14) w ∧ I (b + 14) w ≤ 9 := by
    intro z1 z2
    have e := rP1 (I := I) (b := b) (i := w) ⟨z1, z2⟩
    rw [e]
    have hz : w = 0 ∨ w = 1 := by omega
    rcases hz with rfl | rfl
    · exact h1
    · exact h2
  refine s_replace (is_P14 hb) (by decide) hw hx (bd_lit (by decide)) (bd_lit (by decide)) (fun z1 z2 => bdi (by have := hbd z1 z2; omega)) (fun z => h.same ?_ rfl) (fun z1 z => h.same ?_ rfl) (fun z1 z2 z => h.same ?_ rfl) (fun z1 z2 z => ?_)
  · rw [setF, if_pos (by omega)]
  · rw [setF, if_neg (by omega), if_pos z]
  · have e := rP1 (I := I) (b := b) (i := w) z1
    rw [setF, if_neg (by omega), if_neg (fun q => q z2), if_pos (by rw [← z, e])]
  · have e := rP1 (I := I) (b := b) (i := w) z1
    rw [e] at z ⊢
    refine h.new (z := vP I b 1 w) (w := up (vP I b) 1 w x) ?_ (Off.rf.put (by omega)) (wP1 z1)
    rw [setF, if_neg (by omega), if_neg (fun q => q z2), if_neg z]
theorem s_pass {b : Nat} {t : Int} {I : sh_Mem} {Q : Int → sh_Mem → Prop} {v : Vw} (hb : sh_isP b) (ev : vP I b = v) (hv : WB v) (ht : sh_Bd t) (h : PA b I Q (passF v t)) : cc mX4_takeTurns [.inr b, .inl t] I (qi Q) := by
  refine s_takeTurns hb ev hv.1 hv.2.1 hv.2.2 ht (fun q => h.same ?_ ev) (fun q q2 => h.same ?_ ev) (fun q q2 J j1 j2 => h.new ?_ j1 j2)
  · rw [passF, if_pos q]
  · rw [passF, if_neg (fun z => z q), if_pos q2]
  · rw [passF, if_neg (fun z => z q), if_neg (by omega)]
