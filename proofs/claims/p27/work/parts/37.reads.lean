theorem isr_bd {v : Vw} {r : Int} (hv : WF v) (hr : isr v r) : 0 ≤ r ∧ r < 6 := by
  have := hv.many
  have := hr.1
  have := hr.2
  omega
theorem s_hasV {b : Nat} {x : Int} {I : sh_Mem} {Q : Int → sh_Mem → Prop} {v : Vw} (hb : sh_isP b) (ev : vP I b = v) (hv : WF v) (hx : sh_Bd x) (h1 : isr v x → Q 1 I) (h0 : ¬ isr v x → Q 0 I) : cc mX5_has [.inr (b + 1), .inl x] I (qi Q) := by
  subst ev
  exact s_has hb hv hx h1 h0
