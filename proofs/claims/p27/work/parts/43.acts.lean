/-! ===== 43: what the class does, by the state ===== -/
/-- the class holds the state v -/
def CI (I : sh_Mem) (v : Vw) : Prop := vP I oP = v ∧ WB v ∧ (0 ≤ I 47 2 ∧ I 47 2 ≤ 4) ∧ (0 ≤ I 47 1 ∧ I 47 1 < 4)
theorem CI.same {I J : sh_Mem} {v : Vw} (h : CI I v) (o : CSame I J) : CI J v := by
  obtain ⟨h1, h2, h3, h4⟩ := h
  refine ⟨(o.vP isP_oP (by decide)).trans h1, h2, ?_, ?_⟩
  · rw [o 47 2 (by omega)]
    exact h3
  · rw [o 47 1 (by omega)]
    exact h4
theorem CI.take {I J : sh_Mem} {v w : Vw} (h : CI I v) (hw : WB w) (o : CTake I J w) : CI J w := by
  obtain ⟨h1, h2, h3, h4⟩ := h
  obtain ⟨o1, o2, o3, o4, o5⟩ := o
  refine ⟨o1, hw, ?_, o3⟩
  rw [o2]
  unfold nn4
  split <;> omega
theorem CTake.far {I J : sh_Mem} {w : Vw} (o : CTake I J w) {k : Nat} (hk : k = 0 ∨ 119 ≤ k) : J k = I k := by
  funext f
  exact o.2.2.2.2 k f (by omega)
theorem CSame.far {I J : sh_Mem} (o : CSame I J) {k : Nat} (hk : k = 0 ∨ 119 ≤ k) : J k = I k := by
  funext f
  exact o k f (by omega)
theorem c_tryC {y : sh_M} {as : List sh_V} {I : sh_Mem} {f : Int × Vw} {Q : Int → sh_Mem → Prop} {v : Vw} (hI : CI I v) (hb : sh_Bd f.1) (h : PostC I f Q) (k : ∀ J, vP J oT = v → PA oT J (fun v K => cc mX6_takeOver [.inr 1, .inl v] K (qi Q)) f → cc y as J (qi fun v K => cc mX6_takeOver [.inr 1, .inl v] K (qi Q))) : cc mX4_copyFrom [.inr oT, .inr oP] I (qv fun J => cc y as J (qi fun v K => cc mX6_takeOver [.inr 1, .inl v] K (qi Q))) :=
  s_copyFrom isP_oT isP_oP (by decide) (fun J j1 j2 => k J (by rw [j2]; exact hI.1) (fun K k1 k2 => s_takeOver hI.2.2.1 hI.2.2.2 (CSame.off (j1.tr k1)) k2 hb h))
theorem a_come {I : sh_Mem} {c x : Int} {v : Vw} (hI : CI I v) (hc : sh_Bd c) (hx : sh_Bd x) : Act mX6_come [.inl c, .inl x] I (comeF v c x) := fun Q h => by
  obtain ⟨o1, o2, o3⟩ := comeF_ok (c := c) (x := x) hI.2.1
  exact eX6_come (c_tryC hI (bdi (by omega)) h (fun J j1 j2 => s_welcome isP_oT j1 hI.2.1.1 hc hx j2))
theorem a_head {I : sh_Mem} {c x : Int} {v : Vw} (hI : CI I v) (hc : sh_Bd c) (hx : sh_Bd x) : Act mX6_head [.inl c, .inl x] I (headF v c x) := fun Q h => by
  obtain ⟨o1, o2, o3⟩ := headF_ok (r := c) (d := x) hI.2.1
  exact eX6_head (c_tryC hI (bdi (by omega)) h (fun J j1 j2 => s_steer isP_oT j1 hI.2.1.1 hc hx j2))
theorem a_setLamp {I : sh_Mem} {l w x : Int} {v : Vw} (hI : CI I v) (hl : sh_Bd l) (hw : sh_Bd w) (hx : sh_Bd x) : Act mX6_setLamp [.inl l, .inl w, .inl x] I (setLF v l w x) := fun Q h => by
  obtain ⟨o1, o2, o3⟩ := setLF_ok (l := l) (w := w) (x := x) hI.2.1
  exact eX6_setLamp (c_tryC hI (bdi (by omega)) h (fun J j1 j2 => s_adjust isP_oT j1 hI.2.1.1 hl hw hx j2))
theorem a_set {I : sh_Mem} {w x : Int} {v : Vw} (hI : CI I v) (hw : sh_Bd w) (hx : sh_Bd x) : Act mX6_set [.inl w, .inl x] I (setF v w x) := fun Q h => by
  obtain ⟨o1, o2, o3⟩ := setF_ok (w := w) (x := x) hI.2.1
  exact eX6_set (c_tryC hI (bdi (by omega)) h (fun J j1 j2 => s_settings isP_oT j1 hI.2.1.1 hw hx j2))
theorem a_pass {I : sh_Mem} {t : Int} {v : Vw} (hI : CI I v) (ht : sh_Bd t) : Act mX6_pass [.inl t] I (passF v t) := fun Q h => by
  obtain ⟨o1, o2, o3⟩ := passF_ok (t := t) hI.2.1
  exact eX6_pass (c_tryC hI (bdi (by omega)) h (fun J j1 j2 => s_pass isP_oT j1 hI.2.1 ht j2))
theorem a_light {I : sh_Mem} {l on : Int} {v : Vw} (hI : CI I v) (hl : sh_Bd l) (hon : on = 0 ∨ on = 1) : Act mX6_light [.inl l, .inl on] I (lightF v l on) := fun Q h => by
  obtain ⟨o1, o2, o3⟩ := lightF_ok (l := l) (on := on) hI.2.1 (by omega)
  have hb : sh_Bd (lightF v l on).1 := bdi (by omega)
  refine eX6_light (s_copyFrom isP_oT isP_oP (by decide) (fun J j1 j2 => ?_))
  have j3 : vP J oT = v := by rw [j2]; exact hI.1
  have fin : ∀ K, Off oT J K → vP K oT = (lightF v l on).2 → cc mX6_takeOver [.inr 1, .inl (lightF v l on).1] K (qi Q) := fun K k1 k2 => s_takeOver hI.2.2.1 hI.2.2.2 (CSame.off (j1.tr k1)) k2 hb h
  refine ⟨bdi (by omega), fun q => ?_, fun q => ?_⟩
  · subst q
    exact s_switchTo isP_oT j3 hI.2.1.1 hl (by decide) (fun K k1 k2 => fin K k1 k2)
  · have q1 : on = 1 := by omega
    subst q1
    exact s_switchTo isP_oT j3 hI.2.1.1 hl (by decide) (fun K k1 k2 => fin K k1 k2)
