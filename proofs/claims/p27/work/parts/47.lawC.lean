/-! ===== 47: the class and the law's platform side by side ===== -/
theorem a_c0 {I : sh_Mem} {v : Vw} (ev : vP I oP = v) (hv : WF v) : Ask mX6_count [.inl 0] I (v 0 0) := a_count ev hv (by decide) (fun _ => rfl) (fun q => absurd q (by decide)) (fun q => absurd q (by decide)) (fun q => absurd q (by decide)) (fun q => absurd q (by decide)) (fun q => absurd q (by decide)) (fun q => absurd q (by decide)) (fun q => absurd q (by decide)) (fun q => absurd q (by decide)) (fun q => absurd q (by decide)) (fun q => absurd q (by decide)) (fun q => absurd q (by decide)) (fun q => absurd q (by decide))
theorem a_c1 {I : sh_Mem} {v : Vw} (ev : vP I oP = v) (hv : WF v) : Ask mX6_count [.inl 1] I (v 0 6) := a_count ev hv (by decide) (fun q => absurd q (by decide)) (fun _ => rfl) (fun q => absurd q (by decide)) (fun q => absurd q (by decide)) (fun q => absurd q (by decide)) (fun q => absurd q (by decide)) (fun q => absurd q (by decide)) (fun q => absurd q (by decide)) (fun q => absurd q (by decide)) (fun q => absurd q (by decide)) (fun q => absurd q (by decide)) (fun q => absurd q (by decide)) (fun q => absurd q (by decide))
theorem a_c2 {I : sh_Mem} {v : Vw} (ev : vP I oP = v) (hv : WF v) : Ask mX6_count [.inl 2] I (v 0 1) := a_count ev hv (by decide) (fun q => absurd q (by decide)) (fun q => absurd q (by decide)) (fun _ => rfl) (fun q => absurd q (by decide)) (fun q => absurd q (by decide)) (fun q => absurd q (by decide)) (fun q => absurd q (by decide)) (fun q => absurd q (by decide)) (fun q => absurd q (by decide)) (fun q => absurd q (by decide)) (fun q => absurd q (by decide)) (fun q => absurd q (by decide)) (fun q => absurd q (by decide))
theorem a_c3 {I : sh_Mem} {v : Vw} (ev : vP I oP = v) (hv : WF v) : Ask mX6_count [.inl 3] I (brn v) := a_count ev hv (by decide) (fun q => absurd q (by decide)) (fun q => absurd q (by decide)) (fun q => absurd q (by decide)) (fun _ => rfl) (fun q => absurd q (by decide)) (fun q => absurd q (by decide)) (fun q => absurd q (by decide)) (fun q => absurd q (by decide)) (fun q => absurd q (by decide)) (fun q => absurd q (by decide)) (fun q => absurd q (by decide)) (fun q => absurd q (by decide)) (fun q => absurd q (by decide))
theorem a_c4 {I : sh_Mem} {v : Vw} (ev : vP I oP = v) (hv : WF v) : Ask mX6_count [.inl 4] I (dkn v (-5) (-5)) := a_count ev hv (by decide) (fun q => absurd q (by decide)) (fun q => absurd q (by decide)) (fun q => absurd q (by decide)) (fun q => absurd q (by decide)) (fun _ => rfl) (fun q => absurd q (by decide)) (fun q => absurd q (by decide)) (fun q => absurd q (by decide)) (fun q => absurd q (by decide)) (fun q => absurd q (by decide)) (fun q => absurd q (by decide)) (fun q => absurd q (by decide)) (fun q => absurd q (by decide))
theorem a_c5 {I : sh_Mem} {v : Vw} (ev : vP I oP = v) (hv : WF v) : Ask mX6_count [.inl 5] I (cntN (nsh v) (v 0 6).toNat) := a_count ev hv (by decide) (fun q => absurd q (by decide)) (fun q => absurd q (by decide)) (fun q => absurd q (by decide)) (fun q => absurd q (by decide)) (fun q => absurd q (by decide)) (fun _ => rfl) (fun q => absurd q (by decide)) (fun q => absurd q (by decide)) (fun q => absurd q (by decide)) (fun q => absurd q (by decide)) (fun q => absurd q (by decide)) (fun q => absurd q (by decide)) (fun q => absurd q (by decide))
theorem a_c6 {I : sh_Mem} {v : Vw} (ev : vP I oP = v) (hv : WF v) : Ask mX6_count [.inl 6] I (v 0 2) := a_count ev hv (by decide) (fun q => absurd q (by decide)) (fun q => absurd q (by decide)) (fun q => absurd q (by decide)) (fun q => absurd q (by decide)) (fun q => absurd q (by decide)) (fun q => absurd q (by decide)) (fun _ => rfl) (fun q => absurd q (by decide)) (fun q => absurd q (by decide)) (fun q => absurd q (by decide)) (fun q => absurd q (by decide)) (fun q => absurd q (by decide)) (fun q => absurd q (by decide))
theorem a_c7 {I : sh_Mem} {v : Vw} (ev : vP I oP = v) (hv : WF v) : Ask mX6_count [.inl 7] I (v 0 3) := a_count ev hv (by decide) (fun q => absurd q (by decide)) (fun q => absurd q (by decide)) (fun q => absurd q (by decide)) (fun q => absurd q (by decide)) (fun q => absurd q (by decide)) (fun q => absurd q (by decide)) (fun q => absurd q (by decide)) (fun _ => rfl) (fun q => absurd q (by decide)) (fun q => absurd q (by decide)) (fun q => absurd q (by decide)) (fun q => absurd q (by decide)) (fun q => absurd q (by decide))
theorem a_c8 {I : sh_Mem} {v : Vw} (ev : vP I oP = v) (hv : WF v) : Ask mX6_count [.inl 8] I (v 0 4) := a_count ev hv (by decide) (fun q => absurd q (by decide)) (fun q => absurd q (by decide)) (fun q => absurd q (by decide)) (fun q => absurd q (by decide)) (fun q => absurd q (by decide)) (fun q => absurd q (by decide)) (fun q => absurd q (by decide)) (fun q => absurd q (by decide)) (fun _ => rfl) (fun q => absurd q (by decide)) (fun q => absurd q (by decide)) (fun q => absurd q (by decide)) (fun q => absurd q (by decide))
theorem a_c9 {I : sh_Mem} {v : Vw} (ev : vP I oP = v) (hv : WF v) : Ask mX6_count [.inl 9] I (v 0 5) := a_count ev hv (by decide) (fun q => absurd q (by decide)) (fun q => absurd q (by decide)) (fun q => absurd q (by decide)) (fun q => absurd q (by decide)) (fun q => absurd q (by decide)) (fun q => absurd q (by decide)) (fun q => absurd q (by decide)) (fun q => absurd q (by decide)) (fun q => absurd q (by decide)) (fun _ => rfl) (fun q => absurd q (by decide)) (fun q => absurd q (by decide)) (fun q => absurd q (by decide))
theorem a_c10 {I : sh_Mem} {v : Vw} (ev : vP I oP = v) (hv : WF v) : Ask mX6_count [.inl 10] I (v 1 0) := a_count ev hv (by decide) (fun q => absurd q (by decide)) (fun q => absurd q (by decide)) (fun q => absurd q (by decide)) (fun q => absurd q (by decide)) (fun q => absurd q (by decide)) (fun q => absurd q (by decide)) (fun q => absurd q (by decide)) (fun q => absurd q (by decide)) (fun q => absurd q (by decide)) (fun q => absurd q (by decide)) (fun _ => rfl) (fun q => absurd q (by decide)) (fun q => absurd q (by decide))
theorem a_c11 {I : sh_Mem} {v : Vw} (ev : vP I oP = v) (hv : WF v) : Ask mX6_count [.inl 11] I (v 1 1) := a_count ev hv (by decide) (fun q => absurd q (by decide)) (fun q => absurd q (by decide)) (fun q => absurd q (by decide)) (fun q => absurd q (by decide)) (fun q => absurd q (by decide)) (fun q => absurd q (by decide)) (fun q => absurd q (by decide)) (fun q => absurd q (by decide)) (fun q => absurd q (by decide)) (fun q => absurd q (by decide)) (fun q => absurd q (by decide)) (fun _ => rfl) (fun q => absurd q (by decide))
theorem a_c14 {I : sh_Mem} {v : Vw} (ev : vP I oP = v) (hv : WF v) : Ask mX6_count [.inl 14] I ((-2)) := a_count ev hv (by decide) (fun q => absurd q (by decide)) (fun q => absurd q (by decide)) (fun q => absurd q (by decide)) (fun q => absurd q (by decide)) (fun q => absurd q (by decide)) (fun q => absurd q (by decide)) (fun q => absurd q (by decide)) (fun q => absurd q (by decide)) (fun q => absurd q (by decide)) (fun q => absurd q (by decide)) (fun q => absurd q (by decide)) (fun q => absurd q (by decide)) (fun _ => rfl)
/-- of the objects below m0 nothing that counts has changed -/
def KS (m0 : Nat) (I K : sh_Mem) : Prop := ∀ o f, (o < 17 ∨ (32 ≤ o ∧ o < 109) ∨ o = 110 ∨ (119 ≤ o ∧ o < m0) ∨ (o = 109 ∧ f = 1)) → K o f = I o f
/-- the class and the law's arrays hold the state v, and nothing else that counts has changed -/
def Gd (m0 : Nat) (I0 : sh_Mem) (G L N : Nat) (v : Vw) (K : sh_Mem) : Prop := KS m0 I0 K ∧ CI K v ∧ LV K G L N v
theorem KS.rf {m0 : Nat} {I : sh_Mem} : KS m0 I I := fun _ _ _ => rfl
theorem KS.tr {m0 : Nat} {I J K : sh_Mem} (h : KS m0 I J) (g : KS m0 J K) : KS m0 I K := fun o f q => (g o f q).trans (h o f q)
theorem KS.far {m0 : Nat} {I K : sh_Mem} (h : KS m0 I K) {k : Nat} (hk : k = 0 ∨ (119 ≤ k ∧ k < m0)) : K k = I k := by
  funext f
  exact h k f (by omega)
theorem KS.mx {m0 : Nat} {I K J : sh_Mem} (h : KS m0 I K) (g : CSame K J) : KS m0 I (mxM J K) := fun o f q => by
  by_cases z : o < 119
  · rw [mx_lt z, g o f (by omega)]
    exact h o f q
  · rw [mx_ge (by omega)]
    exact h o f q
theorem CSame.mx {I K J : sh_Mem} (h : CSame I K) (g : CSame K J) : CSame I (mxM J K) := fun o f q => by
  by_cases z : o < 119
  · rw [mx_lt z, g o f q]
    exact h o f q
  · rw [mx_ge (by omega)]
    exact h o f q
theorem CI.mx {K J : sh_Mem} {v : Vw} (h : CI K v) (g : CSame K J) : CI (mxM J K) v := h.same (CSame.rf.mx g)
theorem Gd.ask {m0 : Nat} {I0 K : sh_Mem} {G L N : Nat} {v : Vw} (fr : 119 ≤ G ∧ 119 ≤ L ∧ 119 ≤ N) (g : Gd m0 I0 G L N v K) {y : sh_M} {as : List sh_V} {r : Int} (a : Ask y as K r) {T : Int → sh_Mem → Prop} (h : ∀ J, Gd m0 I0 G L N v (mxM J K) → T r J) : cc y (.inr 1 :: as) K (qi T) :=
  a T (fun J hJ => h J ⟨g.1.mx hJ, g.2.1.mx hJ, g.2.2.same (mx_ge fr.1) (mx_ge fr.2.1) (mx_ge fr.2.2)⟩)
theorem Gd.ev {m0 : Nat} {I0 K : sh_Mem} {G L N : Nat} {v : Vw} (g : Gd m0 I0 G L N v K) : vP K oP = v := g.2.1.1
theorem Gd.wf {m0 : Nat} {I0 K : sh_Mem} {G L N : Nat} {v : Vw} (g : Gd m0 I0 G L N v K) : WF v := g.2.1.2.1.1
theorem okk {a b : Int} {T1 T2 : Prop} (e : a = b) (h : T2) : (a = b ∨ (sh_Bd a ∧ sh_Bd b)) ∧ ((¬ a = b → T1) ∧ (a = b → T2)) := ⟨Or.inl e, fun q => absurd e q, fun _ => h⟩
theorem shd_one1 {v : Vw} {i l : Int} (hv : WF v) (hi : isr v i) (hl : 0 ≤ l ∧ l < 3) (h : 0 < ln v i l) : (0 ≤ al (v 6 i) (aw v l) 1 ∧ al (v 6 i) (aw v l) 1 < 100) ∧ shd v i l (al (v 6 i) (aw v l) 1) := by
  have hln := ln_in hv hi hl
  have hb := al_in (k := 1) (hv.cell hi.1 hi.2) (aw_in (v := v) (l := l)) ⟨by omega, by omega⟩
  exact ⟨hb, (shd_iff hv hi hl hb).mpr ⟨1, Int.le_refl _, by omega, rfl⟩⟩
theorem cells_hs {v : Vw} {i : Int} (hv : WF v) (hi : isr v i) : 0 < cntN (ish v i) 100 ↔ hs v i := by
  rw [cntN_pos]
  constructor
  · rintro ⟨c, -, l, hl, h⟩
    have := h.1
    have := h.2
    exact ⟨l, hl, by omega⟩
  · rintro ⟨l, hl, h⟩
    obtain ⟨h1, h2⟩ := shd_one1 hv hi hl h
    exact ⟨_, h1, l, hl, h2⟩
theorem dkn_cells {v : Vw} {i : Int} (hv : WF v) (hi : isr v i) : dkn v i (-5) = cntN (ish v i) 100 := by
  refine cntN_congr 100 (fun c c0 c1 => ?_)
  rw [pc_iff hv]
  constructor
  · rintro ⟨r, l, hr, hl, ⟨z, -⟩, h⟩
    have e : i = r := by
      have := hi.1
      omega
    subst e
    exact ⟨l, hl, h⟩
  · rintro ⟨l, hl, h⟩
    exact ⟨i, l, hi, hl, ⟨Or.inr rfl, Or.inl rfl⟩, h⟩
def sumN (f : Int → Int) : Nat → Int
  | 0 => 0
  | n + 1 => sumN f n + f (n : Int)
theorem sumN_bd {f : Int → Int} {m : Int} (hm : 0 ≤ m) : ∀ n : Nat, n ≤ 6 → (∀ k, 0 ≤ k → k < (n : Int) → 0 ≤ f k ∧ f k ≤ m) → 0 ≤ sumN f n ∧ sumN f n ≤ 6 * m := by
  have key : ∀ n : Nat, (∀ k, 0 ≤ k → k < (n : Int) → 0 ≤ f k ∧ f k ≤ m) → 0 ≤ sumN f n ∧ sumN f n ≤ (n : Int) * m := by
    intro n
    induction n with
    | zero => exact fun _ => ⟨Int.le_refl _, by simp [sumN]⟩
    | succ n ih =>
      intro h
      have h1 := ih (fun k a b => h k a (by omega))
      have h2 := h (n : Int) (by omega) (by omega)
      have e : ((n + 1 : Nat) : Int) * m = (n : Int) * m + m := by
        rw [Int.natCast_add, Int.add_mul]
        simp
      rw [e]
      unfold sumN
      omega
  intro n hn h
  obtain ⟨h1, h2⟩ := key n h
  have h3 : (n : Int) * m ≤ 6 * m := Int.mul_le_mul_of_nonneg_right (by omega) hm
  exact ⟨h1, by omega⟩
/-- accounts are no more than turns, and as many tags were had as were made -/
def AC (v : Vw) : Prop := (∀ r, isr v r → 0 ≤ v 12 r ∧ v 12 r ≤ v 0 0) ∧ sumN (fun r => v 10 r - v 11 r) (v 0 6).toNat = 0
theorem t_areRunners {c : sh_Cx} (hx : cx c) {G L N : Nat} (hG : dy c G 42) (hL : dy c L 12) (hN : dy c N 9) {m0 : Nat} {I0 I : sh_Mem} {Q : Int → sh_Mem → Prop} {v : Vw} (g : Gd m0 I0 G L N v I) (hA : AC v) (h : ∀ K, Gd m0 I0 G L N v K → Q 1 K) : cl c mL_areRunners [.inr 1, .inr G, .inr L, .inr N] I (li c Q) := by
  have fr : 119 ≤ G ∧ 119 ≤ L ∧ 119 ≤ N := ⟨hG.ge, hL.ge, hN.ge⟩
  have hv := g.wf
  have hm := hv.many
  have hcb := hv.2.1
  have h00 := hv.2.2.2.2.2.2.2.1
  have key : ∀ (n k : Nat) (K : sh_Mem), (k : Int) + (n : Int) = v 0 6 → Gd m0 I0 G L N v K → kl c (0, 0) mL_areRunners 67 [some (.inr 1), some (.inr G), some (.inr L), some (.inr N), some (.inl 1), some (.inl (cntN (nsh v) k)), some (.inl (sumN (fun r => v 12 r) k)), some (.inl (sumN (fun r => v 10 r - v 11 r) k)), some (.inl (k : Int)), none, none] [] K (qli c Q) := by
    intro n
    induction n with
    | zero =>
      intro k K g0 gK
      have e8 := gK.2.2.n8
      have ek : k = (v 0 6).toNat := by omega
      have hs := sumN_bd (f := fun r => v 12 r) (m := 150000) (by decide) k (by omega) (fun r r0 r1 => by
        have := hA.1 r ⟨r0, by omega⟩
        show 0 ≤ v 12 r ∧ v 12 r ≤ 150000
        omega)
      have hz := hA.2
      rw [← ek] at hz
      rw [hz]
      refine lL_areRunners_67 hx hG hL hN ⟨bdi (by omega), bdi (by omega), fun _ => ⟨bd_lit (by decide), fun q => absurd q (by decide), fun _ => ⟨bd_lit (by decide), fun q => absurd rfl q, fun _ => ⟨bdi (by omega), fun q => absurd q (by omega), fun _ => ?_⟩⟩⟩, fun q => absurd q (by omega)⟩
      refine gK.ask fr (a_c0 gK.ev hv) (fun J1 g1 => okk g1.2.2.n0.symm ?_)
      refine g1.ask fr (a_c5 g1.ev hv) (fun J2 g2 => okk (by rw [ek]) ?_)
      refine g2.ask fr (a_c6 g2.ev hv) (fun J3 g3 => okk g3.2.2.n2.symm ?_)
      refine g3.ask fr (a_c7 g3.ev hv) (fun J4 g4 => okk g4.2.2.n3.symm ?_)
      refine g4.ask fr (a_c8 g4.ev hv) (fun J5 g5 => okk g5.2.2.n4.symm ?_)
      refine g5.ask fr (a_c9 g5.ev hv) (fun J6 g6 => okk g6.2.2.n5.symm ?_)
      refine g6.ask fr (a_c10 g6.ev hv) (fun J7 g7 => okk g7.2.2.n6.symm ?_)
      refine g7.ask fr (a_c11 g7.ev hv) (fun J8 g8 => okk g8.2.2.n7.symm ?_)
      exact g8.ask fr (a_c14 g8.ev hv) (fun J9 g9 => okk rfl (h _ g9))
    | succ n ih =>
      intro k K g0 gK
      have e8 := gK.2.2.n8
      have hk : isr v (k : Int) := ⟨by omega, by omega⟩
      have hk6 := isr_bd hv hk
      have hru := hv.run hk.1 hk.2
      have hcr : isr v (v 0 1) := by unfold isr; omega
      have hcr6 := isr_bd hv hcr
      have hcc := hv.cell hcr.1 hcr.2
      -- the reason
      have fin : ∀ (M : sh_Mem) (r : Int), Gd m0 I0 G L N v M → Ask mX6_reason [.inl (k : Int)] M r → kl c (0, 0) mL_areRunners 324 [some (.inr 1), some (.inr G), some (.inr L), some (.inr N), some (.inl 1), some (.inl (cntN (nsh v) (k + 1))), some (.inl (sumN (fun r => v 12 r) (k + 1))), some (.inl (sumN (fun r => v 10 r - v 11 r) (k + 1))), some (.inl (k : Int)), none, none] [.inl r] M (qli c Q) := by
        intro M r gM a
        refine lL_areRunners_324 hx hG hL hN ⟨bd_lit (by decide), fun q => absurd q (by decide), fun _ => gM.ask fr a (fun J gJ => okk rfl ?_)⟩
        exact ih (k + 1) _ (by omega) gJ
      have mid : ∀ (M : sh_Mem) (z : Int), Gd m0 I0 G L N v M → cntN (nsh v) k + z = cntN (nsh v) (k + 1) → kl c (0, 0) mL_areRunners 206 [some (.inr 1), some (.inr G), some (.inr L), some (.inr N), some (.inl 1), none, some (.inl (sumN (fun r => v 12 r) k)), some (.inl (sumN (fun r => v 10 r - v 11 r) k)), some (.inl (k : Int)), some (.inl (cntN (ish v (k : Int)) 100)), none] [.inl z, .inl (cntN (nsh v) k)] M (qli c Q) := by
        intro M z gM hz
        have e := gM.2.2
        have hcn := cntN_in (P := ish v (k : Int)) 100
        have hch := cells_hs hv hk
        have n1 := e.n1 (by omega)
        refine lL_areRunners_206 hx hG hL hN ⟨by omega, by omega, by omega, ?_⟩
        rw [hz, e.g6 hk6, e.g4 hk6, e.g5 hk6, e.g3 hk6, n1]
        refine ⟨Or.inr ⟨bdi (by omega), bdi (by omega)⟩, fun q => ⟨bdi (by omega), fun q2 => ⟨by omega, bdi (by omega), fun q3 => ⟨by omega, ?_⟩, fun q3 => ?_⟩, fun q2 => ?_⟩, fun q => ?_⟩
        · rw [e.g0 hcr6]
          refine t_shaded hx hG hL hN e hv hk hcc (fun q4 => Or.inl ⟨rfl, t_tagged hx hG hL hN e hv ?_⟩) (fun q4 => Or.inr ⟨rfl, ?_⟩)
          · have hcaB := CaIs.bd hv (ca_ok hv)
            have hcaBd : sh_Bd (ca v) := by
              rcases hcaB with z | ⟨z, -⟩
              · exact bdi (by omega)
              · have := isr_bd hv z
                exact bdi (by omega)
            refine ⟨Or.inr ⟨hcaBd, bdi (by omega)⟩, fun q5 => fin M 5 gM ?_, fun q5 => fin M 0 gM ?_⟩
            · exact a_reason gM.ev hv hk (fun z => absurd z q) (fun _ z => absurd (hch.mp (by omega)) z) (fun _ _ z => absurd (show v 9 (k : Int) = 0 by omega) z) (fun _ _ _ z => absurd q4 z) (fun _ _ _ _ _ => rfl) (fun _ _ _ _ z => absurd z q5)
            · exact a_reason gM.ev hv hk (fun z => absurd z q) (fun _ z => absurd (hch.mp (by omega)) z) (fun _ _ z => absurd (show v 9 (k : Int) = 0 by omega) z) (fun _ _ _ z => absurd q4 z) (fun _ _ _ _ z => absurd q5 z) (fun _ _ _ _ _ => rfl)
          · exact fin M 4 gM (a_reason gM.ev hv hk (fun z => absurd z q) (fun _ z => absurd (hch.mp (by omega)) z) (fun _ _ z => absurd (show v 9 (k : Int) = 0 by omega) z) (fun _ _ _ _ => rfl) (fun _ _ _ z => absurd z q4) (fun _ _ _ z => absurd z q4))
        · exact fin M 3 gM (a_reason gM.ev hv hk (fun z => absurd z q) (fun _ z => absurd (hch.mp (by omega)) z) (fun _ _ _ => rfl) (fun _ _ z => by omega) (fun _ _ z => by omega) (fun _ _ z => by omega))
        · exact fin M 2 gM (a_reason gM.ev hv hk (fun z => absurd z q) (fun _ _ => rfl) (fun _ z => absurd (hch.mpr z) (by omega)) (fun _ z => absurd (hch.mpr z) (by omega)) (fun _ z => absurd (hch.mpr z) (by omega)) (fun _ z => absurd (hch.mpr z) (by omega)))
        · exact fin M 1 gM (a_reason gM.ev hv hk (fun _ => rfl) (fun z => absurd q z) (fun z => absurd q z) (fun z => absurd q z) (fun z => absurd q z) (fun z => absurd q z))
      have key2 : ∀ (m w : Nat) (M : sh_Mem), w + m = 7 → Gd m0 I0 G L N v M → kl c (0, 0) mL_areRunners 84 [some (.inr 1), some (.inr G), some (.inr L), some (.inr N), some (.inl 1), some (.inl (cntN (nsh v) k)), some (.inl (sumN (fun r => v 12 r) k)), some (.inl (sumN (fun r => v 10 r - v 11 r) k)), some (.inl (k : Int)), some (.inl (w : Int)), none] [] M (qli c Q) := by
        intro m
        induction m with
        | zero =>
          intro w M hw gM
          refine lL_areRunners_84 hx hG hL hN ⟨bdi (by omega), fun _ => t_cells hx hG hL hN gM.2.2 hv hk ⟨bd_lit (by decide), fun q => absurd q (by decide), fun _ => ?_⟩, fun q => absurd q (by omega)⟩
          refine gM.ask fr (a_runner7 gM.ev hv hk) (fun J1 g1 => okk (dkn_cells hv hk) ?_)
          refine g1.ask fr (a_runner8 g1.ev hv hk) (fun J2 g2 => okk rfl ⟨by omega, ?_⟩)
          rw [g2.2.2.g0 hk6]
          have hcn := cntN_in (P := ish v (k : Int)) 100
          have hch := cells_hs hv hk
          refine g2.ask fr (a_at g2.ev hv hru.1) (fun J3 g3 => okk (st_is hv hk rfl) ⟨bdi (by omega), fun q => mid _ 0 g3 ?_, fun q => mid _ 1 g3 ?_⟩)
          · rw [cntN_no (fun z => z (hch.mp (by omega))), Int.add_zero]
          · rw [cntN_yes (show nsh v (k : Int) from fun z => absurd (hch.mpr z) (by omega))]
        | succ m ih2 =>
          intro w M hw gM
          refine lL_areRunners_84 hx hG hL hN ⟨bdi (by omega), fun q => absurd q (by omega), fun _ => ⟨bd_lit (by decide), fun q => absurd q (by decide), fun _ => ?_⟩⟩
          refine gM.ask fr (a_runner (w + 6) gM.ev hv hk (by omega) (by omega)) (fun J1 g1 => ⟨by omega, okk ?_ (ih2 (w + 1) _ (by omega) g1)⟩)
          have e := g1.2.2.g (r := (k : Int)) (w + 6) (by omega) hk6
          rw [show 7 * (k : Int) + (((w + 6 : Nat) : Int) - 6) = 7 * (k : Int) + (w : Int) by omega] at e
          exact e.symm
      exact lL_areRunners_67 hx hG hL hN ⟨bdi (by omega), bdi (by omega), fun q => absurd q (by omega), fun _ => ⟨bd_lit (by decide), fun q => absurd q (by decide), fun _ => key2 7 0 K (by omega) gK⟩⟩
  have go : ∀ K, Gd m0 I0 G L N v K → kl c (0, 0) mL_areRunners 53 [some (.inr 1), some (.inr G), some (.inr L), some (.inr N), none, none, none, none, none, none, none] [.inl 1] K (qli c Q) := fun K gK => lL_areRunners_53 hx hG hL hN (key (v 0 6).toNat 0 K (by omega) gK)
  refine eL_areRunners hx hG hL hN ?_
  rw [g.2.2.n8]
  refine g.ask fr (a_runnerU g.ev hv (bdi (by omega)) (fun z => by have := z.2; omega)) (fun J1 g1 => okk rfl ?_)
  refine g1.ask fr (a_c1 g1.ev hv) (fun J2 g2 => okk g2.2.2.n8.symm ?_)
  refine g2.ask fr (a_c2 g2.ev hv) (fun J3 g3 => ?_)
  rw [g3.2.2.n8]
  refine ⟨bdi (by omega), fun q => okk (g3.2.2.n1 q).symm (go _ g3), fun q => okk (by omega) (go _ g3)⟩
