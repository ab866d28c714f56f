/-! ===== 40: the class's way ===== -/
/-- the queue of the board: h cells are done, and of the next p directions -/
def inq (J : sh_Mem) (c : Int) : Prop := ∃ i, (0 ≤ i ∧ i < J 114 4) ∧ J 118 i = c
def BQ (J : sh_Mem) (v : Vw) (D : Int → Prop) (h p : Int) : Prop :=
  (0 ≤ h ∧ h ≤ J 114 4) ∧
  (1 ≤ J 114 4 ∧ J 114 4 ≤ 100) ∧
  (∀ i, 0 ≤ i → i < J 114 4 → (0 ≤ J 118 i ∧ J 118 i < 100) ∧ (J 117 (J 118 i) ≤ i) ∧ ∃ k : Nat, J 117 (J 118 i) = (k : Int) ∧ ex v k (J 118 i)) ∧
  (∀ i j, 0 ≤ i → i < j → j < J 114 4 → J 117 (J 118 i) ≤ J 117 (J 118 j)) ∧
  (h < J 114 4 → ∀ i, 0 ≤ i → i < J 114 4 → J 117 (J 118 i) ≤ J 117 (J 118 h) + 1) ∧
  (∀ c, 0 ≤ c → c < 100 → (J 116 c = 0 ∧ st v c = -5 ∧ ¬ inq J c) ∨ (J 116 c = 1 ∧ (¬ st v c = -5 ∨ inq J c))) ∧
  (∀ i d, 0 ≤ i → i < J 114 4 → (0 ≤ d ∧ d < 4) → (i < h ∨ (i = h ∧ d < p)) → ¬ nx (J 118 i) d = -5 → st v (nx (J 118 i) d) = -5 → inq J (nx (J 118 i) d)) ∧
  (∀ i, 0 ≤ i → i < h → ¬ D (J 118 i)) ∧
  (cntN (inq J) 100 = J 114 4) ∧
  (J 118 0 = v 6 (v 0 1)) ∧
  (DkIs J D)
theorem BQ.b0 {J : sh_Mem} {v : Vw} {D : Int → Prop} {h p : Int} (q : BQ J v D h p) : 0 ≤ h ∧ h ≤ J 114 4 := q.1
theorem BQ.b1 {J : sh_Mem} {v : Vw} {D : Int → Prop} {h p : Int} (q : BQ J v D h p) : 1 ≤ J 114 4 ∧ J 114 4 ≤ 100 := q.2.1
theorem BQ.b2 {J : sh_Mem} {v : Vw} {D : Int → Prop} {h p : Int} (q : BQ J v D h p) : ∀ i, 0 ≤ i → i < J 114 4 → (0 ≤ J 118 i ∧ J 118 i < 100) ∧ (J 117 (J 118 i) ≤ i) ∧ ∃ k : Nat, J 117 (J 118 i) = (k : Int) ∧ ex v k (J 118 i) := q.2.2.1
theorem BQ.b3 {J : sh_Mem} {v : Vw} {D : Int → Prop} {h p : Int} (q : BQ J v D h p) : ∀ i j, 0 ≤ i → i < j → j < J 114 4 → J 117 (J 118 i) ≤ J 117 (J 118 j) := q.2.2.2.1
theorem BQ.b4 {J : sh_Mem} {v : Vw} {D : Int → Prop} {h p : Int} (q : BQ J v D h p) : h < J 114 4 → ∀ i, 0 ≤ i → i < J 114 4 → J 117 (J 118 i) ≤ J 117 (J 118 h) + 1 := q.2.2.2.2.1
theorem BQ.b5 {J : sh_Mem} {v : Vw} {D : Int → Prop} {h p : Int} (q : BQ J v D h p) : ∀ c, 0 ≤ c → c < 100 → (J 116 c = 0 ∧ st v c = -5 ∧ ¬ inq J c) ∨ (J 116 c = 1 ∧ (¬ st v c = -5 ∨ inq J c)) := q.2.2.2.2.2.1
theorem BQ.b6 {J : sh_Mem} {v : Vw} {D : Int → Prop} {h p : Int} (q : BQ J v D h p) : ∀ i d, 0 ≤ i → i < J 114 4 → (0 ≤ d ∧ d < 4) → (i < h ∨ (i = h ∧ d < p)) → ¬ nx (J 118 i) d = -5 → st v (nx (J 118 i) d) = -5 → inq J (nx (J 118 i) d) := q.2.2.2.2.2.2.1
theorem BQ.b7 {J : sh_Mem} {v : Vw} {D : Int → Prop} {h p : Int} (q : BQ J v D h p) : ∀ i, 0 ≤ i → i < h → ¬ D (J 118 i) := q.2.2.2.2.2.2.2.1
theorem BQ.b8 {J : sh_Mem} {v : Vw} {D : Int → Prop} {h p : Int} (q : BQ J v D h p) : cntN (inq J) 100 = J 114 4 := q.2.2.2.2.2.2.2.2.1
theorem BQ.b9 {J : sh_Mem} {v : Vw} {D : Int → Prop} {h p : Int} (q : BQ J v D h p) : J 118 0 = v 6 (v 0 1) := q.2.2.2.2.2.2.2.2.2.1
theorem BQ.b10 {J : sh_Mem} {v : Vw} {D : Int → Prop} {h p : Int} (q : BQ J v D h p) : DkIs J D := q.2.2.2.2.2.2.2.2.2.2
theorem bq_all {J : sh_Mem} {v : Vw} {D : Int → Prop} {h p : Int} {n : Nat} (b : BQ J v D h p) (hv : WF v) (hr : isr v (v 0 1)) (hh : h < J 114 4 → (n : Int) ≤ J 117 (J 118 h)) : ∀ m : Nat, m ≤ n → ∀ c, Rc v m c → inq J c := by
  intro m
  induction m with
  | zero =>
    intro _ c hc
    have e : c = v 6 (v 0 1) := hc
    exact ⟨0, ⟨Int.le_refl _, by have := b.b1; omega⟩, by rw [b.b9, e]⟩
  | succ m ih =>
    rintro hm c (q | ⟨q1, q2, c', d, q3, q4, q5, q6⟩)
    · exact ih (by omega) c q
    · obtain ⟨i, hi, ei⟩ := ih (by omega) c' q5
      obtain ⟨-, -, k, k1, k2⟩ := b.b2 i hi.1 hi.2
      rw [ei] at k1 k2
      have hk : k ≤ m := ex_le k2 q5
      have hih : i < h := by
        rcases Int.lt_or_le i h with z | z
        · exact z
        · exfalso
          have hlt : h < J 114 4 := by omega
          have h1 := hh hlt
          by_cases e : i = h
          · rw [← e, ei, k1] at h1
            omega
          · have := b.b3 h i b.b0.1 (by omega) hi.2
            rw [ei, k1] at this
            omega
      have := b.b6 i d hi.1 hi.2 q4 (Or.inl hih) (by rw [ei, q6]; exact q2) (by rw [ei, q6]; exact q1)
      rw [ei, q6] at this
      exact this
theorem bq_done {J : sh_Mem} {v : Vw} {x h p : Int} (b : BQ J v (ish v x) h p) (hv : WF v) (hr : isr v (v 0 1)) (he : J 114 4 ≤ h) : WayIs v x (-5) := by
  refine Or.inl ⟨rfl, fun n c hc => ?_⟩
  obtain ⟨i, hi, ei⟩ := bq_all (n := n) b hv hr (fun q => by omega) n (Nat.le_refl _) c hc
  rw [← ei]
  exact b.b7 i hi.1 (by omega)
theorem bq_hit {J : sh_Mem} {v : Vw} {x h p : Int} (b : BQ J v (ish v x) h p) (hv : WF v) (hr : isr v (v 0 1)) (he : h < J 114 4) (hd : ish v x (J 118 h)) : WayIs v x (J 117 (J 118 h)) := by
  obtain ⟨-, -, k, k1, k2⟩ := b.b2 h b.b0.1 he
  refine Or.inr ⟨k, k1, ⟨_, k2.1, hd⟩, fun j hj c hc => ?_⟩
  obtain ⟨i, hi, ei⟩ := bq_all (n := k) b hv hr (fun _ => by omega) j (by omega) c hc
  obtain ⟨-, -, m, m1, m2⟩ := b.b2 i hi.1 hi.2
  rw [← ei] at hc ⊢
  have hm := ex_le m2 hc
  refine b.b7 i hi.1 ?_
  rcases Int.lt_or_le i h with z | z
  · exact z
  · exfalso
    by_cases e : i = h
    · rw [e, k1] at m1
      omega
    · have := b.b3 h i b.b0.1 (by omega) hi.2
      omega
/-- a step of the queue that leaves the memory -/
theorem bq_skip {J : sh_Mem} {v : Vw} {D : Int → Prop} {h p : Int} (b : BQ J v D h p) (hl : h < J 114 4) (hn : nx (J 118 h) p = -5 ∨ ¬ st v (nx (J 118 h) p) = -5 ∨ inq J (nx (J 118 h) p)) : BQ J v D h (p + 1) :=
  ⟨b.b0, b.b1, b.b2, b.b3, b.b4, b.b5, fun i d i0 i1 d0 q q1 q2 => by
    by_cases e : i = h ∧ d = p
    · rw [e.1, e.2] at q1 q2 ⊢
      rcases hn with z | z | z
      · exact absurd z q1
      · exact absurd q2 z
      · exact z
    · exact b.b6 i d i0 i1 d0 (by omega) q1 q2, b.b7, b.b8, b.b9, b.b10⟩
theorem bq_head {J : sh_Mem} {v : Vw} {D : Int → Prop} {h : Int} (b : BQ J v D h 4) (hl : h < J 114 4) (hd : ¬ D (J 118 h)) : BQ J v D (h + 1) 0 :=
  ⟨by have := b.b0; omega, b.b1, b.b2, b.b3, fun q i i0 i1 => by
    have h1 := b.b4 hl i i0 i1
    have h2 := b.b3 h (h + 1) b.b0.1 (by omega) q
    omega, b.b5, fun i d i0 i1 d0 q q1 q2 => b.b6 i d i0 i1 d0 (by omega) q1 q2, fun i i0 i1 => by
    by_cases e : i = h
    · rw [e]
      exact hd
    · exact b.b7 i i0 (by omega), b.b8, b.b9, b.b10⟩
/-- a cell is entered -/
def entM (J : sh_Mem) (c n : Int) : sh_Mem := sh_u (sh_u (sh_u (sh_u J 116 c 1) 117 c n) 118 (J 114 4) c) 114 4 (J 114 4 + 1)
theorem ent_114 {J : sh_Mem} {c n : Int} : entM J c n 114 4 = J 114 4 + 1 := by simp [entM, sh_u]
theorem ent_115 {J : sh_Mem} {c n : Int} : entM J c n 115 = J 115 := by
  unfold entM
  rw [sh_u_ne (by decide), sh_u_ne (by decide), sh_u_ne (by decide), sh_u_ne (by decide)]
theorem ent_116 {J : sh_Mem} {c n k : Int} : entM J c n 116 k = if k = c then 1 else J 116 k := by
  unfold entM
  rw [sh_u_ne (by decide), sh_u_ne (by decide), sh_u_ne (by decide)]
  simp [sh_u]
theorem ent_117 {J : sh_Mem} {c n k : Int} : entM J c n 117 k = if k = c then n else J 117 k := by
  unfold entM
  rw [sh_u_ne (by decide), sh_u_ne (by decide)]
  simp [sh_u]
theorem ent_118 {J : sh_Mem} {c n k : Int} : entM J c n 118 k = if k = J 114 4 then c else J 118 k := by
  unfold entM
  rw [sh_u_ne (by decide)]
  simp [sh_u]
theorem ent_bo {J : sh_Mem} {c n : Int} : BO J (entM J c n) := fun o q => by
  unfold entM
  rw [sh_u_ne (by omega), sh_u_ne (by omega), sh_u_ne (by omega), sh_u_ne (by omega)]
theorem inq_ent {J : sh_Mem} {c n k : Int} (h0 : 0 ≤ J 114 4) : inq (entM J c n) k ↔ (inq J k ∨ k = c) := by
  constructor
  · rintro ⟨i, hi, ei⟩
    rw [ent_114] at hi
    rw [ent_118] at ei
    by_cases e : i = J 114 4
    · rw [if_pos e] at ei
      exact Or.inr ei.symm
    · rw [if_neg e] at ei
      exact Or.inl ⟨i, by omega, ei⟩
  · rintro (⟨i, hi, ei⟩ | e)
    · refine ⟨i, by rw [ent_114]; omega, ?_⟩
      rw [ent_118, if_neg (by omega)]
      exact ei
    · refine ⟨J 114 4, by rw [ent_114]; omega, ?_⟩
      rw [ent_118, if_pos rfl]
      exact e.symm
theorem bq_enter {J : sh_Mem} {v : Vw} {D : Int → Prop} {h p : Int} (b : BQ J v D h p) (hv : WF v) (hr : isr v (v 0 1)) (hp : 0 ≤ p ∧ p < 4) (hl : h < J 114 4) (h5 : ¬ nx (J 118 h) p = -5) (h6 : st v (nx (J 118 h) p) = -5) (h7 : ¬ inq J (nx (J 118 h) p)) : J 114 4 < 100 ∧ BQ (entM J (nx (J 118 h) p) (J 117 (J 118 h) + 1)) v D h (p + 1) := by
  obtain ⟨hc, hk9, k, k1, k2⟩ := b.b2 h b.b0.1 hl
  have hn := nx_in hc hp h5
  have b1 := b.b1
  have b0 := b.b0
  generalize hcn : nx (J 118 h) p = c at *
  have hcnt := cntN_add (P := inq J) (P' := inq (entM J c (J 117 (J 118 h) + 1))) (c := c) h7 100 (fun k _ _ => inq_ent (by omega)) hn.1 hn.2
  have hle := (cntN_in (P := inq (entM J c (J 117 (J 118 h) + 1))) 100).2
  have b8 := b.b8
  -- the new cell is at its distance
  have hex : ex v (k + 1) c := by
    refine ⟨Or.inr ⟨h6, h5, J 118 h, p, hc, hp, k2.1, hcn⟩, fun j hj q => h7 ?_⟩
    exact bq_all (n := k) b hv hr (fun _ => by omega) k (Nat.le_refl _) c (Rc_mono q (by omega))
  have old : ∀ i, 0 ≤ i → i < J 114 4 → entM J c (J 117 (J 118 h) + 1) 118 i = J 118 i ∧ entM J c (J 117 (J 118 h) + 1) 117 (J 118 i) = J 117 (J 118 i) := fun i i0 i1 => by
    refine ⟨by rw [ent_118, if_neg (by omega)], ?_⟩
    rw [ent_117, if_neg (fun e => h7 ⟨i, ⟨i0, i1⟩, e⟩)]
  have new : entM J c (J 117 (J 118 h) + 1) 118 (J 114 4) = c ∧ entM J c (J 117 (J 118 h) + 1) 117 c = J 117 (J 118 h) + 1 := ⟨by rw [ent_118, if_pos rfl], by rw [ent_117, if_pos rfl]⟩
  refine ⟨by omega, ⟨by rw [ent_114]; omega, by rw [ent_114]; omega, fun i i0 i1 => ?_, fun i j i0 i1 j1 => ?_, fun q i i0 i1 => ?_, fun c' c0 c1 => ?_, fun i d i0 i1 d0 q q1 q2 => ?_, fun i i0 i1 => ?_, by rw [ent_114, hcnt, b8], ?_, ?_⟩⟩
  · rw [ent_114] at i1
    by_cases e : i = J 114 4
    · subst e
      rw [new.1, new.2]
      exact ⟨hn, by omega, k + 1, by omega, hex⟩
    · obtain ⟨o1, o2⟩ := old i i0 (by omega)
      rw [o1, o2]
      exact b.b2 i i0 (by omega)
  · rw [ent_114] at j1
    obtain ⟨o1, o2⟩ := old i i0 (by omega)
    rw [o1, o2]
    by_cases e : j = J 114 4
    · subst e
      rw [new.1, new.2]
      exact b.b4 hl i i0 (by omega)
    · obtain ⟨p1, p2⟩ := old j (by omega) (by omega)
      rw [p1, p2]
      exact b.b3 i j i0 i1 (by omega)
  · rw [ent_114] at i1
    obtain ⟨p1, p2⟩ := old h b0.1 hl
    rw [p1, p2]
    by_cases e : i = J 114 4
    · subst e
      rw [new.1, new.2]
      exact Int.le_refl _
    · obtain ⟨o1, o2⟩ := old i i0 (by omega)
      rw [o1, o2]
      exact b.b4 hl i i0 (by omega)
  · rw [ent_116, inq_ent (by omega)]
    by_cases e : c' = c
    · rw [if_pos e]
      exact Or.inr ⟨rfl, Or.inr (Or.inr e)⟩
    · rw [if_neg e]
      rcases b.b5 c' c0 c1 with ⟨z1, z2, z3⟩ | ⟨z1, z2⟩
      · exact Or.inl ⟨z1, z2, fun z => z.elim z3 e⟩
      · exact Or.inr ⟨z1, z2.elim Or.inl (fun z => Or.inr (Or.inl z))⟩
  · rw [ent_114] at i1
    have hi : i < J 114 4 := by omega
    obtain ⟨o1, o2⟩ := old i i0 hi
    rw [o1] at q1 q2 ⊢
    rw [inq_ent (by omega)]
    by_cases e : i = h ∧ d = p
    · rw [e.1, e.2, hcn]
      exact Or.inr rfl
    · exact Or.inl (b.b6 i d i0 hi d0 (by omega) q1 q2)
  · obtain ⟨o1, o2⟩ := old i i0 (by omega)
    rw [o1]
    exact b.b7 i i0 i1
  · obtain ⟨o1, o2⟩ := old 0 (Int.le_refl _) (by omega)
    rw [o1]
    exact b.b9
  · intro c' c0 c1
    rw [ent_115]
    exact b.b10 c' c0 c1
theorem s_enter {c n : Int} {I : sh_Mem} {Q : sh_Mem → Prop} (hc : 0 ≤ c ∧ c < 100) (hb : sh_Bd (I 116 c)) (hm : 0 ≤ I 114 4 ∧ I 114 4 ≤ 100) (h0 : ¬ I 116 c = 0 → Q I) (h1 : I 116 c = 0 → I 114 4 < 100 ∧ Q (entM I c n)) : cc mX0_enter [.inr 114, .inl c, .inl n] I (qv Q) :=
  eX0_enter (s_isCell (bdi (by omega)) (fun _ => Or.inl ⟨rfl, hc, hb, h0, fun q => ⟨bdi (by omega), fun q2 => absurd (h1 q).1 (by omega), fun q2 => ⟨by omega, (h1 q).2⟩⟩⟩) (fun q => absurd hc q))
theorem BO.tr {I J K : sh_Mem} (h : BO I J) (g : BO J K) : BO I K := fun o q => (g o q).trans (h o q)
theorem BO.rf {I : sh_Mem} : BO I I := fun _ _ => rfl
theorem s_bfs {x : Int} {I : sh_Mem} {Q : Int → sh_Mem → Prop} {v : Vw} (hv : WF v) (hr : isr v (v 0 1)) (h4 : I 114 4 = 0) (hD : DkIs I (ish v x)) (hB : ∀ c, 0 ≤ c → c < 100 → (I 116 c = 0 ∧ (st v c = -5 ∨ c = v 6 (v 0 1))) ∨ (I 116 c = 1 ∧ ¬ st v c = -5 ∧ ¬ c = v 6 (v 0 1))) (h : ∀ J, BO I J → (wy v x = -5 ∨ 0 ≤ wy v x) ∧ wy v x ≤ 99 → Q (wy v x) J) : cc mX0_stepsIntoTheDark [.inr 114, .inl (v 6 (v 0 1))] I (qi Q) := by
  have hcc := hv.cell hr.1 hr.2
  have ha : I 116 (v 6 (v 0 1)) = 0 := by
    rcases hB _ hcc.1 hcc.2 with z | z
    · exact z.1
    · exact absurd rfl z.2.2
  refine eX0_stepsIntoTheDark (s_enter hcc (by rw [ha]; exact bd_lit (by decide)) (by omega) (fun q => absurd ha q) (fun _ => ⟨by omega, ?_⟩))
  -- the queue with the catcher's cell
  have hinq0 : ∀ c, inq (entM I (v 6 (v 0 1)) 0) c ↔ c = v 6 (v 0 1) := fun c => by
    rw [inq_ent (by omega)]
    refine ⟨fun q => q.elim (fun ⟨i, hi, _⟩ => by omega) id, Or.inr⟩
  have hst : isr v (v 0 1) := hr
  have b : BQ (entM I (v 6 (v 0 1)) 0) v (ish v x) 0 0 := by
    have e0 : entM I (v 6 (v 0 1)) 0 118 0 = v 6 (v 0 1) := by rw [ent_118, if_pos h4.symm]
    have e7 : entM I (v 6 (v 0 1)) 0 117 (v 6 (v 0 1)) = 0 := by rw [ent_117, if_pos rfl]
    have e14 : entM I (v 6 (v 0 1)) 0 114 4 = 1 := by rw [ent_114, h4]; rfl
    refine ⟨by rw [e14]; omega, by rw [e14]; omega, fun i i0 i1 => ?_, fun i j i0 i1 j1 => ?_, fun q i i0 i1 => ?_, fun c c0 c1 => ?_, fun i d i0 i1 d0 q => ?_, fun i i0 i1 => ?_, ?_, e0, ?_⟩
    · rw [e14] at i1
      have : i = 0 := by omega
      subst this
      rw [e0, e7]
      exact ⟨hcc, Int.le_refl _, 0, rfl, rfl, fun j hj => absurd hj (Nat.not_lt_zero _)⟩
    · rw [e14] at j1
      omega
    · rw [e14] at i1
      have : i = 0 := by omega
      subst this
      omega
    · rw [ent_116, hinq0]
      by_cases e : c = v 6 (v 0 1)
      · rw [if_pos e]
        exact Or.inr ⟨rfl, Or.inr e⟩
      · rw [if_neg e]
        rcases hB c c0 c1 with ⟨z1, z2⟩ | ⟨z1, z2, -⟩
        · exact Or.inl ⟨z1, z2.elim id (fun q => absurd q e), e⟩
        · exact Or.inr ⟨z1, Or.inl z2⟩
    · omega
    · omega
    · rw [e14]
      have h1 := cntN_add (P := fun _ => False) (P' := inq (entM I (v 6 (v 0 1)) 0)) (c := v 6 (v 0 1)) id 100 (fun k _ _ => by rw [hinq0]; exact ⟨Or.inr, fun q => q.elim False.elim id⟩) hcc.1 hcc.2
      have h2 : ∀ n : Nat, cntN (fun _ => False) n = 0 := by
        intro n
        induction n with
        | zero => rfl
        | succ n ih => rw [cntN_no id, ih]
      rw [h2] at h1
      exact h1
    · intro c c0 c1
      rw [ent_115]
      exact hD c c0 c1
  have fin : ∀ J r, BO I J → WayIs v x r → -5 ≤ r ∧ r ≤ 99 → Q r J := fun J r hJ hw hb => by
    have e := way_is hw
    rw [← e]
    exact h J hJ (by rw [e]; exact ⟨way_sgn hw, hb.2⟩)
  -- the walk
  have main : ∀ (n : Nat) (y : Int) (J : sh_Mem), 0 ≤ y → y + (n : Int) = 101 → BO I J → BQ J v (ish v x) y 0 → kk mX0_stepsIntoTheDark 8 [some (.inr 114), none, some (.inl y), none, none] [] J (qi Q) := by
    intro n
    induction n with
    | zero =>
      intro y J g0 g1 g2 g3
      have := g3.b0
      have := g3.b1
      omega
    | succ n ih =>
      intro y J g0 g1 g2 g3
      have b0 := g3.b0
      have b1 := g3.b1
      refine lX0_stepsIntoTheDark_8 ⟨bdi (by omega), bdi (by omega), fun q => fin J _ g2 (bq_done g3 hv hr q) (by omega), fun q => ⟨fun q2 => by omega, fun q2 => ⟨by omega, ?_⟩⟩⟩
      obtain ⟨hc, hk9, k, k1, k2⟩ := g3.b2 y g0 q
      refine s_isCell (bdi (by omega)) (fun _ => Or.inl ⟨rfl, hc, ?_⟩) (fun z => absurd hc z)
      have hd := g3.b10 _ hc.1 hc.2
      refine ⟨by rcases hd with z | z <;> exact bdi (by omega), fun z => ?_, fun z => ?_⟩
      · have hnd : ¬ ish v x (J 118 y) := by
          rcases hd with z1 | z1
          · omega
          · exact z1.2
        -- the four directions
        have dirs : ∀ (m : Nat) (p : Int) (K : sh_Mem), 0 ≤ p → p + (m : Int) = 4 → BO I K → BQ K v (ish v x) y p → y < K 114 4 → K 118 y = J 118 y → kk mX0_stepsIntoTheDark 58 [some (.inr 114), none, some (.inl y), some (.inl (J 118 y)), some (.inl p)] [] K (qi Q) := by
          intro m
          induction m with
          | zero =>
            intro p K f0 f1 f2 f3 f4 f5
            have : p = 4 := by omega
            subst this
            exact lX0_stepsIntoTheDark_58 ⟨bdi (by omega), fun _ => ih (y + 1) K (by omega) (by omega) f2 (bq_head f3 f4 (by rw [f5]; exact hnd)), fun q => absurd q (by omega)⟩
          | succ m ih2 =>
            intro p K f0 f1 f2 f3 f4 f5
            have hp : 0 ≤ p ∧ p < 4 := by omega
            have hte := te_in (d := p) hc
            have hnx := nx_te hc hp
            refine lX0_stepsIntoTheDark_58 ⟨bdi (by omega), fun q => absurd q (by omega), fun _ => s_cellsToEdge hc hp ⟨bdi (by omega), fun z1 => ?_, fun z1 => s_cellAlong hp ⟨hc, ?_⟩⟩⟩
            · rw [if_neg (by omega)] at hnx
              exact ih2 (p + 1) K (by omega) (by omega) f2 (bq_skip f3 f4 (by rw [f5]; exact Or.inl hnx)) f4 f5
            · rw [if_pos z1] at hnx
              rw [← hnx]
              have hal := al_in (k := 1) hc hp (by omega)
              rw [← hnx] at hal
              have c1 := f3.b1
              have h5 := f3.b5 _ hal.1 hal.2
              refine s_enter hal (by rcases h5 with w | w <;> exact bdi (by omega)) (by omega) (fun w => ?_) (fun w => ?_)
              · refine ih2 (p + 1) K (by omega) (by omega) f2 (bq_skip f3 f4 ?_) f4 f5
                rw [f5]
                rcases h5 with w1 | w1
                · exact absurd w1.1 w
                · exact Or.inr w1.2
              · have h6 : st v (nx (J 118 y) p) = -5 ∧ ¬ inq K (nx (J 118 y) p) := by
                  rcases h5 with w1 | w1
                  · exact w1.2
                  · omega
                obtain ⟨e1, e2⟩ := bq_enter f3 hv hr hp f4 (by rw [f5]; omega) (by rw [f5]; exact h6.1) (by rw [f5]; exact h6.2)
                rw [f5] at e2
                refine ⟨e1, ih2 (p + 1) _ (by omega) (by omega) (f2.tr ent_bo) e2 (by rw [ent_114]; omega) ?_⟩
                rw [ent_118, if_neg (by omega)]
                exact f5
        exact dirs 4 0 J (by omega) (by omega) g2 g3 q rfl
      · have hnd : ish v x (J 118 y) := by
          rcases hd with z1 | z1
          · exact z1.2
          · omega
        exact fin J _ g2 (bq_hit g3 hv hr q hnd) (by omega)
  exact main 101 0 _ (by omega) (by omega) ent_bo b
def sgh (v : Vw) (x : Int) : Prop := ¬ x = v 0 1 ∧ v 9 x = 0 ∧ hs v x
theorem s_stepsTo {x : Int} {I : sh_Mem} {Q : Int → sh_Mem → Prop} {v : Vw} (ev : vP I oP = v) (hv : WF v) (hx : sh_Bd x) (h0 : ¬ isr v x → Q (-1) I) (h1 : isr v x → ¬ sgh v x → Q (-4) I) (h2 : isr v x → sgh v x → ∀ J, BO I J → (wy v x = -5 ∨ 0 ≤ wy v x) ∧ wy v x ≤ 99 → Q (wy v x) J) : cc mX6_stepsTo [.inr 1, .inl x] I (qi Q) := by
  have hm := hv.many
  have hcb := hv.2.1
  have e1 : I (oP + 1) 8 = v 0 1 := by rw [rP0_1 (I := I) (b := oP), ev]
  refine eX6_stepsTo (s_hasV isP_oP ev hv hx (fun hr => Or.inl ⟨rfl, ?_⟩) (fun hr => Or.inr ⟨rfl, h0 hr⟩))
  have hca : isr v (v 0 1) := by
    have := hr.1
    have := hr.2
    unfold isr
    omega
  have hca6 := isr_bd hv hca
  have hr6 := isr_bd hv hr
  have hru := hv.run hr.1 hr.2
  have e5 : I (oP + 5) x = v 9 x := by rw [rP9 (I := I) (b := oP) hr6, ev]
  rw [e1]
  refine s_hasV isP_oP ev hv (bdi (by omega)) (fun _ => Or.inl ⟨rfl, hx, bdi (by omega), fun q => h1 hr (fun z => z.1 q), fun q => ⟨hr6, by rw [e5]; exact bdi (by omega), fun q2 => h1 hr (fun z => q2 (by rw [e5]; exact z.2.1)), fun q2 => ?_⟩⟩) (fun z => absurd hca z)
  rw [e5] at q2
  have hv' : WF (vP I oP) := by rw [ev]; exact hv
  have hr' : isr (vP I oP) x := by rw [ev]; exact hr
  refine s_hasShadow isP_oP hv' hr' (fun q3 => Or.inl ⟨rfl, s_clearB (fun J j1 j2 j3 => ?_)⟩) (fun q3 => Or.inr ⟨rfl, h1 hr (fun z => q3 (by rw [ev]; exact z.2.2))⟩)
  rw [ev] at q3
  have oJ : BO I J := fun o q => j1 o (by omega) (by omega) (by omega)
  have d0 : DkIs J (fun _ => False) := fun c c0 c1 => Or.inr ⟨(j2 c c0 c1).1, id⟩
  refine s_darkenShadowsOf isP_oP ((oJ.vP isP_oP).trans ev) hv hr d0 (fun K k1 k2 => ?_)
  have oK : BO I K := fun o q => (k1 o (by omega)).trans (oJ o q)
  have key : ∀ (n : Nat) (y : Int) (L : sh_Mem), 0 ≤ y → y + (n : Int) = v 0 6 → BO I L → (∀ o, o ≠ 116 → L o = K o) → (∀ c, 0 ≤ c → c < 100 → (L 116 c = 0 ∧ ∀ r, 0 ≤ r → r < y → ¬ r = v 0 1 → ¬ v 6 r = c) ∨ (L 116 c = 1 ∧ ∃ r, (0 ≤ r ∧ r < y) ∧ ¬ r = v 0 1 ∧ v 6 r = c)) → kk mX6_stepsTo 81 [some (.inr 1), none, some (.inr (oP + 1)), some (.inl (v 0 1)), some (.inl y)] [] L (qi Q) := by
    intro n
    induction n with
    | zero =>
      intro y L g0 g1 g2 g3 g4
      have e6 : L (oP + 1) 7 = v 0 6 := by rw [rP0_6 (I := L) (b := oP), g2.vP isP_oP, ev]
      have ec : L (oP + 2) (v 0 1) = v 6 (v 0 1) := by rw [rP6 (I := L) (b := oP) hca6, g2.vP isP_oP, ev]
      refine lX6_stepsTo_81 ⟨bdi (by omega), bdi (by omega), fun _ => ⟨hca6, ?_⟩, fun q => absurd q (by omega)⟩
      rw [ec]
      refine s_bfs (x := x) hv hca ?_ ?_ (fun c c0 c1 => ?_) (fun M hM hb => h2 hr ⟨q, q2, q3⟩ M (g2.tr hM) hb)
      · rw [g3 114 (by decide), k1 114 (by decide)]
        exact j3
      · intro c c0 c1
        rw [g3 115 (by decide)]
        have := k2 c c0 c1
        rcases this with ⟨z1, z2⟩ | ⟨z1, z2⟩
        · exact Or.inl ⟨z1, z2.elim False.elim id⟩
        · exact Or.inr ⟨z1, fun z => z2 (Or.inr z)⟩
      · rcases g4 c c0 c1 with ⟨z1, z2⟩ | ⟨z1, r, z2, z3, z4⟩
        · refine Or.inl ⟨z1, ?_⟩
          by_cases e : c = v 6 (v 0 1)
          · exact Or.inr e
          · refine Or.inl (st_none hv (fun r hr => ?_))
            by_cases e2 : r = v 0 1
            · rw [e2]
              exact fun z => e z.symm
            · have := hr.1
              have := hr.2
              exact z2 r (by omega) (by omega) e2
        · have hrr : isr v r := ⟨z2.1, by omega⟩
          refine Or.inr ⟨z1, fun z => ?_, fun z => ?_⟩
          · rw [st_is hv hrr z4] at z
            have := hrr.1
            omega
          · exact z3 (hv.apart hrr.1 hrr.2 hca.1 hca.2 (z4.trans z))
    | succ n ih =>
      intro y L g0 g1 g2 g3 g4
      have e6 : L (oP + 1) 7 = v 0 6 := by rw [rP0_6 (I := L) (b := oP), g2.vP isP_oP, ev]
      refine lX6_stepsTo_81 ⟨bdi (by omega), bdi (by omega), fun q => absurd q (by omega), fun q => ⟨fun q9 => absurd q9 (by omega), fun q9 => ⟨bdi (by omega), fun q4 => ih (y + 1) L (by omega) (by omega) g2 g3 (fun c c0 c1 => ?_), fun q4 => ⟨by omega, ?_⟩⟩⟩⟩
      · rcases g4 c c0 c1 with ⟨z1, z2⟩ | ⟨z1, r, z2, z3, z4⟩
        · exact Or.inl ⟨z1, fun r r0 r1 r2 => z2 r r0 (by omega) r2⟩
        · exact Or.inr ⟨z1, r, by omega, z3, z4⟩
      · have hy : isr v y := ⟨g0, by omega⟩
        have hcy := hv.cell hy.1 hy.2
        rw [rP6 (I := L) (b := oP) (i := y) (by omega), g2.vP isP_oP, ev]
        refine eX0_block (s_isCell (bdi (by omega)) (fun _ => Or.inl ⟨rfl, hcy, ih (y + 1) _ (by omega) (by omega) (g2.tr (fun o q => sh_u_ne (by omega))) (fun o ho => by rw [sh_u_ne ho]; exact g3 o ho) (fun c c0 c1 => ?_)⟩) (fun z => absurd hcy z))
        by_cases e : c = v 6 y
        · exact Or.inr ⟨by rw [e]; simp [sh_u], y, by omega, q4, e.symm⟩
        · rw [sh_u_nf e]
          rcases g4 c c0 c1 with ⟨z1, z2⟩ | ⟨z1, r, z2, z3, z4⟩
          · refine Or.inl ⟨z1, fun r r0 r1 r2 => ?_⟩
            by_cases e3 : r = y
            · rw [e3]
              exact fun z => e z.symm
            · exact z2 r r0 (by omega) r2
          · exact Or.inr ⟨z1, r, by omega, z3, z4⟩
  refine key (v 0 6).toNat 0 K (by omega) (by omega) oK (fun _ _ => rfl) (fun c c0 c1 => Or.inl ⟨?_, fun r r0 r1 => by omega⟩)
  rw [k1 116 (by decide)]
  exact (j2 c c0 c1).2
