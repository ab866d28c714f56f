/-! ===== 46: a turn of the law's platform ===== -/
/-- beside the three arrays nothing has changed -/
def OL (G L N : Nat) (I J : sh_Mem) : Prop := ∀ o, o ≠ G → o ≠ L → o ≠ N → J o = I o
theorem OL.rf {G L N : Nat} {I : sh_Mem} : OL G L N I I := fun _ _ _ _ => rfl
theorem OL.tr {G L N : Nat} {I J K : sh_Mem} (h : OL G L N I J) (g : OL G L N J K) : OL G L N I K := fun o a b c => (g o a b c).trans (h o a b c)
theorem OL.g {G L N : Nat} {I J : sh_Mem} {f x : Int} (h : OL G L N I J) : OL G L N I (sh_u J G f x) := fun o a b c => by rw [sh_u_ne a]; exact h o a b c
theorem OL.l {G L N : Nat} {I J : sh_Mem} {f x : Int} (h : OL G L N I J) : OL G L N I (sh_u J L f x) := fun o a b c => by rw [sh_u_ne b]; exact h o a b c
theorem OL.n {G L N : Nat} {I J : sh_Mem} {f x : Int} (h : OL G L N I J) : OL G L N I (sh_u J N f x) := fun o a b c => by rw [sh_u_ne c]; exact h o a b c
theorem restF_up0 {w : Vw} {x k : Int} : acctK (restK (up w 0 0 x) k) k = up (acctK (restK w k) k) 0 0 x := by
  funext j i
  simp only [acctK, restK, up]
  repeat' split
  all_goals first | rfl | omega
theorem t_turns {c : sh_Cx} (hx : cx c) {G L N : Nat} (hG : dy c G 42) (hL : dy c L 12) (hN : dy c N 9) (d : ap G L N) {I : sh_Mem} {Q : sh_Mem → Prop} {v : Vw} (e : LV I G L N v) (hv : WF v) (ht : v 0 2 ≤ v 0 0) (hz : v 0 0 < 149999) (h : ∀ J, OL G L N I J → LV J G L N (turnF v) → Q J) : cl c mL_turns [.inr G, .inr L, .inr N] I (lv c Q) := by
  have hm := hv.many
  -- the platform turns
  have spin : ∀ (w : Vw), WF w → ∀ (n : Nat) (k : Int) (J : sh_Mem), 0 ≤ k → k + (n : Int) = w 0 6 → OL G L N I J → LV J G L N (spinK w k) → (∀ K, OL G L N I K → LV K G L N (spinF w) → Q K) → kl c (0, 0) mL_turns 364 [some (.inr G), none, some (.inr N), none, some (.inl k), none] [] J (qlv c Q) := by
    intro w hw n
    have hmw := hw.many
    induction n with
    | zero =>
      intro k J k0 g0 o1 e1 hQ
      have e8 : J N 8 = w 0 6 := e1.n8
      have ek : k = w 0 6 := by omega
      refine lL_turns_364 hx hG hL hN ⟨bdi (by omega), bdi (by omega), fun _ => hQ _ o1.n ?_, fun q => absurd q (by omega)⟩
      have e2 := e1.wn d (i := 5) (x := J N 5 + 1) (y := w 0 5 + 1) (by omega) (by rw [e1.n5]; rfl)
      rw [ek] at e2
      exact e2
    | succ n ih =>
      intro k J k0 g0 o1 e1 hQ
      have e8 : J N 8 = w 0 6 := e1.n8
      have hk : isr w k := ⟨k0, by omega⟩
      have hk6 := isr_bd hw hk
      have hru := hw.run hk.1 hk.2
      have ec : J G (7 * k) = w 6 k := by
        rw [e1.g0 hk6]
        simp only [spinK]
        rw [if_neg (by omega), if_neg (by omega)]
      have ed0 : spinK w k 8 k = w 8 k := by
        simp only [spinK]
        rw [if_neg (by omega), if_neg (by omega)]
      have e2 := e1.wg d (k := 7 * k) (x := 10 * (J G (7 * k) % 10) + 9 - J G (7 * k) / 10) (y := w 6 k % 10 * 10 + 9 - w 6 k / 10) 6 (by decide) hk6 (by omega) (by rw [ec]; omega)
      have ed : sh_u J G (7 * k) (10 * (J G (7 * k) % 10) + 9 - J G (7 * k) / 10) G (7 * k + 2) = w 8 k := by
        rw [e2.g2 hk6, up_ne (by omega)]
        exact ed0
      refine lL_turns_364 hx hG hL hN ⟨bdi (by omega), bdi (by omega), fun q => absurd q (by omega), fun q => ⟨by omega, by rw [ec]; omega, by omega, Or.inr ⟨by rw [ed]; exact bdi (by omega), bd_lit (by decide)⟩, fun q2 => ⟨by rw [ed]; omega, ?_⟩, fun q2 => ?_⟩⟩
      · refine ih (k + 1) _ (by omega) (by omega) o1.g.g ?_ hQ
        rw [spinK_succ k0]
        exact e2.wg d 8 (by decide) hk6 (by omega) (by rw [ed] at q2 ⊢; rw [if_neg q2])
      · refine ih (k + 1) _ (by omega) (by omega) o1.g.g ?_ hQ
        rw [spinK_succ k0]
        exact e2.wg d 8 (by decide) hk6 (by omega) (by rw [ed] at q2; rw [if_pos q2]; exact q2.symm)
  -- the lamps swing
  have swing : ∀ (w : Vw), WF w → turnC (swingK w 3) = turnF v → ∀ (n : Nat) (m : Int) (J : sh_Mem), 0 ≤ m → m + (n : Int) = 3 → OL G L N I J → LV J G L N (swingK w m) → kl c (0, 0) mL_turns 289 [some (.inr G), some (.inr L), some (.inr N), none, some (.inl (4 * m)), none] [] J (qlv c Q) := by
    intro w hw hF n
    have h00 := hw.2.2.2.2.2.2.2.1
    have h11 := hw.2.2.2.2.2.2.1
    induction n with
    | zero =>
      intro m J m0 g0 o1 e1
      have em : m = 3 := by omega
      subst em
      have e7 : J N 7 = w 1 1 := e1.n7
      have e0 : J N 0 = w 0 0 := e1.n0
      have hmod : ¬ w 1 1 = 0 → 0 ≤ w 0 0 % w 1 1 ∧ w 0 0 % w 1 1 < 10 := fun q => ⟨Int.emod_nonneg _ q, by have := Int.emod_lt_of_pos (w 0 0) (show 0 < w 1 1 by omega); omega⟩
      have stay : ¬ (¬ w 1 1 = 0 ∧ w 0 0 % w 1 1 = 0) → LV J G L N (turnF v) := fun q => by
        rw [← hF, turnC, if_neg (show ¬ (¬ swingK w 3 1 1 = 0 ∧ swingK w 3 0 0 % swingK w 3 1 1 = 0) from q)]
        exact e1
      refine lL_turns_289 hx hG hL hN ⟨bdi (by omega), fun _ => ⟨by rw [e7]; exact bdi (by omega), fun q => h J o1 (stay (fun z => by omega)), fun q => ?_⟩, fun q => absurd q (by omega)⟩
      rw [e7] at q
      have hm2 := hmod (by omega)
      rw [e7, e0]
      refine ⟨by omega, by omega, bdi (by omega), fun q2 => h J o1 (stay (fun z => q2 z.2)), fun q2 => ?_⟩
      have hw3 : WF (swingK w 3) := swingK_ok hw
      refine spin (swingK w 3) hw3 (w 0 6).toNat 0 J (by omega) (by have := hw.many; show 0 + _ = w 0 6; omega) o1 (by rw [spinK_0]; exact e1) (fun K k1 k2 => h K k1 ?_)
      rw [← hF, turnC, if_pos (show ¬ swingK w 3 1 1 = 0 ∧ swingK w 3 0 0 % swingK w 3 1 1 = 0 from ⟨by show ¬ w 1 1 = 0; omega, q2⟩)]
      exact k2
    | succ n ih =>
      intro m J m0 g0 o1 e1
      have hl : 0 ≤ m ∧ m < 3 := by omega
      have hw4 := hw.lampw hl
      have e4 : J L (4 * m + 2) = w 4 m := e1.l2 hl
      have e2 : J L (4 * m) = w 2 m := by
        rw [e1.l0 hl]
        simp only [swingK]
        rw [if_neg]
        rintro ⟨-, z, -⟩
        omega
      have e2' : swingK w m 2 m = w 2 m := by rw [← e1.l0 hl, e2]
      have e0 : J N 0 = w 0 0 := e1.n0
      have hmod : ¬ w 4 m = 0 → 0 ≤ w 0 0 % w 4 m ∧ w 0 0 % w 4 m < 10 := fun q => ⟨Int.emod_nonneg _ q, by have := Int.emod_lt_of_pos (w 0 0) (show 0 < w 4 m by omega); omega⟩
      have stay : ¬ (¬ w 4 m = 0 ∧ w 0 0 % w 4 m = 0) → kl c (0, 0) mL_turns 289 [some (.inr G), some (.inr L), some (.inr N), none, some (.inl (4 * m + 4)), none] [] (sh_u J L (4 * m) (J L (4 * m))) (qlv c Q) := fun q => by
        rw [show 4 * m + 4 = 4 * (m + 1) by omega]
        refine ih (m + 1) _ (by omega) (by omega) o1.l ?_
        rw [swingK_no q]
        have := e1.wl d (k := 4 * m) (x := J L (4 * m)) (y := swingK w m 2 m) 2 (by decide) hl (by omega) (by rw [e2, e2'])
        rw [up_self] at this
        exact this
      refine lL_turns_289 hx hG hL hN ⟨bdi (by omega), fun q => absurd q (by omega), fun q => ⟨by omega, by rw [e4]; exact bdi (by omega), fun q2 => ⟨by omega, stay (fun z => by omega)⟩, fun q2 => ?_⟩⟩
      rw [e4] at q2
      have hm2 := hmod (by omega)
      rw [e4, e0]
      refine ⟨by omega, by omega, bdi (by omega), fun q3 => ⟨by omega, stay (fun z => q3 z.2)⟩, fun q3 => ⟨by omega, by rw [e2]; omega, ?_⟩⟩
      rw [show 4 * m + 4 = 4 * (m + 1) by omega]
      refine ih (m + 1) _ (by omega) (by omega) o1.l ?_
      rw [swingK_yes m0 ⟨by omega, q3⟩]
      exact e1.wl d 2 (by decide) hl (by omega) (by rw [e2])
  -- respites and accounts
  have rest : ∀ (w : Vw), WF w → turnC (swingK (acctK (restK w (w 0 6)) (w 0 6)) 3) = turnF v → ∀ (n : Nat) (k : Int) (J : sh_Mem), 0 ≤ k → k + (n : Int) = w 0 6 → OL G L N I J → LV J G L N (acctK (restK w k) k) → kl c (0, 0) mL_turns 216 [some (.inr G), some (.inr L), some (.inr N), none, some (.inl k), none] [] J (qlv c Q) := by
    intro w hw hF n
    have hmw := hw.many
    have hcb := hw.2.1
    induction n with
    | zero =>
      intro k J k0 g0 o1 e1
      have e8 : J N 8 = w 0 6 := e1.n8
      have ek : k = w 0 6 := by omega
      subst ek
      refine lL_turns_216 hx hG hL hN ⟨bdi (by omega), bdi (by omega), fun _ => ?_, fun q => absurd q (by omega)⟩
      exact swing _ (acctK_ok (restK_ok hw)) hF 3 0 J (by omega) (by omega) o1 (by rw [swingK_0]; exact e1)
    | succ n ih =>
      intro k J k0 g0 o1 e1
      have e8 : J N 8 = w 0 6 := e1.n8
      have hk : isr w k := ⟨k0, by omega⟩
      have hk6 := isr_bd hw hk
      have h9 := (hw.run hk.1 hk.2).2.2.2
      have e3 : J G (7 * k + 3) = w 9 k := by
        rw [e1.g3 hk6]
        simp only [acctK, restK]
        rw [if_neg (by omega), if_neg (by omega)]
      have go : ∀ x z : Int, x = (if 0 < w 9 k then w 9 k - 1 else 0) → z = (if k = w 0 1 then 0 else 1) → kl c (0, 0) mL_turns 216 [some (.inr G), some (.inr L), some (.inr N), none, some (.inl (k + 1)), none] [] (sh_u (sh_u J G (7 * k + 3) x) G (7 * k + 6) (sh_u J G (7 * k + 3) x G (7 * k + 6) + z)) (qlv c Q) := by
        intro x z hx1 hz1
        have e2 := e1.wg d (k := 7 * k + 3) (x := x) 9 (by decide) hk6 (by omega) hx1
        have e6 : sh_u J G (7 * k + 3) x G (7 * k + 6) = w 12 k := by
          rw [e2.g6 hk6, up_ne (by omega)]
          simp only [acctK, restK]
          rw [if_neg (by omega), if_neg (by omega)]
        refine ih (k + 1) _ (by omega) (by omega) o1.g.g ?_
        rw [raK_succ k0]
        exact e2.wg d 12 (by decide) hk6 (by omega) (by rw [e6, hz1])
      have en1 : ∀ x : Int, sh_u J G (7 * k + 3) x N 1 = w 0 1 := fun x => by
        rw [sh_u_ne (fun z => d.2.1 z.symm), e1.n1 (by show ¬ w 0 6 = 0; omega)]
        rfl
      refine lL_turns_216 hx hG hL hN ⟨bdi (by omega), bdi (by omega), fun q => absurd q (by omega), fun q => ⟨by omega, by rw [e3]; exact bdi (by omega), fun q2 => ⟨by omega, ?_⟩, fun q2 => ⟨by omega, ?_⟩⟩⟩
      · rw [en1]
        refine ⟨Or.inr ⟨bdi (by omega), bdi (by omega)⟩, fun q3 => go _ 1 ?_ (by rw [if_neg q3]), fun q3 => go _ 0 ?_ (by rw [if_pos q3])⟩
        · rw [e3] at q2 ⊢
          rw [if_neg (by omega)]
          omega
        · rw [e3] at q2 ⊢
          rw [if_neg (by omega)]
          omega
      · rw [en1]
        refine ⟨Or.inr ⟨bdi (by omega), bdi (by omega)⟩, fun q3 => go _ 1 ?_ (by rw [if_neg q3]), fun q3 => go _ 0 ?_ (by rw [if_pos q3])⟩
        · rw [e3] at q2 ⊢
          rw [if_pos q2]
        · rw [e3] at q2 ⊢
          rw [if_pos q2]
  -- behind the runners' ways: who is tagged
  obtain ⟨a1, a2, a3, a4⟩ := goN_ok hv (v 0 6).toNat (by omega)
  have tag : ∀ J, OL G L N I J → LV J G L N (goN v (v 0 6).toNat) → kl c (0, 0) mL_turns 2 [some (.inr G), some (.inr L), some (.inr N), some (.inl (v 0 6)), none, none] [] J (qlv c Q) := by
    intro J o1 e1
    have hF : turnF v = turnC (turnB (turnA (goN v (v 0 6).toNat))) := rfl
    generalize hw : goN v (v 0 6).toNat = w at *
    have e8 : J N 8 = v 0 6 := e1.n8.trans a2
    have hc := ca_ok a1
    obtain ⟨b1, b2, b3, b4⟩ := turnA_ok a1 (by omega) hc
    have hcb := CaIs.bd a1 hc
    have fin : ∀ K, OL G L N I K → LV K G L N (up (turnA w) 0 0 (turnA w 0 0 + 1)) → kl c (0, 0) mL_turns 216 [some (.inr G), some (.inr L), some (.inr N), none, some (.inl 0), none] [] K (qlv c Q) := by
      intro K k1 k2
      have hW : WF (up (turnA w) 0 0 (turnA w 0 0 + 1)) := turn1_ok b1 (by omega)
      refine rest _ hW ?_ (v 0 6).toNat 0 K (by omega) (by show 0 + _ = turnA w 0 6; omega) k1 ?_
      · rw [hF, turnB, restF, restF_up0]
        rfl
      · have e9 : acctK (restK (up (turnA w) 0 0 (turnA w 0 0 + 1)) 0) 0 = up (turnA w) 0 0 (turnA w 0 0 + 1) := by rw [restK_0, acctK_0]
        rw [e9]
        exact k2
    have hcbd : -5 ≤ ca w ∧ ca w < 6 := by
      rcases hcb with z | z
      · omega
      · have := isr_bd a1 z.1
        omega
    refine lL_turns_2 hx hG hL hN ⟨bdi (by omega), bdi (by omega), fun _ => t_tagged hx hG hL hN e1 a1 ⟨bdi (by omega), fun q => fin _ o1.n ?_, fun q => ?_⟩, fun q => absurd q (by omega)⟩
    · have : turnA w = w := by
        unfold turnA
        rw [if_pos (by rcases hcb with z | z; exact z; have := isr_bd a1 z.1; omega)]
      rw [this]
      exact e1.wn d (i := 0) (by omega) (by rw [e1.n0])
    · rcases hcb with z | ⟨z, -⟩
      · omega
      · generalize hca : ca w = t at *
        have ht6 := isr_bd a1 z
        have hcw := a1.2.1
        have hmw := a1.many
        have hn0 : ¬ w 0 6 = 0 := by
          have := z.1
          have := z.2
          omega
        have hcr : isr w (w 0 1) := by unfold isr; omega
        have hcr6 := isr_bd a1 hcr
        have hA : turnA w = tagF w t := by
          unfold turnA
          rw [hca, if_neg (by omega)]
        have f1 := e1.wg d (k := 7 * t + 4) (x := J G (7 * t + 4) + 1) (y := w 10 t + 1) 10 (by decide) ht6 (by omega) (by rw [e1.g4 ht6])
        generalize hM1 : sh_u J G (7 * t + 4) (J G (7 * t + 4) + 1) = M1 at *
        have n1 : M1 N 1 = w 0 1 := f1.n1 hn0
        have f2 := f1.wg d (k := 7 * M1 N 1 + 5) (x := M1 G (7 * M1 N 1 + 5) + 1) (y := w 11 (w 0 1) + 1) (r := w 0 1) 11 (by decide) hcr6 (by rw [n1]; omega) (by rw [n1, f1.g5 hcr6, up_ne (by omega)])
        have o2 : OL G L N I M1 := by rw [← hM1]; exact o1.g
        have o3 : OL G L N I (sh_u M1 G (7 * M1 N 1 + 5) (M1 G (7 * M1 N 1 + 5) + 1)) := o2.g
        generalize hM2 : sh_u M1 G (7 * M1 N 1 + 5) (M1 G (7 * M1 N 1 + 5) + 1) = M2 at *
        have n2 : M2 N 1 = w 0 1 := f2.n1 hn0
        have f3 := f2.wg d (k := 7 * M2 N 1 + 3) (x := M2 N 6 + 1) (y := w 1 0 + 1) (r := w 0 1) 9 (by decide) hcr6 (by rw [n2]; omega) (by rw [f2.n6]; rfl)
        have f4 := f3.wc d hn0 (x := t) rfl
        have f5 := f4.wn d (i := 2) (x := sh_u (sh_u M2 G (7 * M2 N 1 + 3) (M2 N 6 + 1)) N 1 t N 2 + 1) (y := w 0 2 + 1) (by omega) (by rw [f4.n2]; rfl)
        refine ⟨by omega, by rw [n1]; omega, by rw [n2]; omega, fin _ o3.g.n.n.n ?_⟩
        rw [hA]
        exact f5.wn d (i := 0) (by omega) (by rw [f5.n0]; rfl)
  -- a runner's way
  have step : ∀ (w : Vw) (k : Int) (J : sh_Mem), WF w → isr w k → OL G L N I J → LV J G L N w → ∀ (to z : Int), (z = 0 ∨ z = 1) → (∀ K, OL G L N I K → LV K G L N (if z = 0 then (if w 8 k = 4 then w else up w 0 4 (w 0 4 + 1)) else up (up w 6 k to) 0 3 (w 0 3 + 1)) → kl c (0, 0) mL_turns 2 [some (.inr G), some (.inr L), some (.inr N), some (.inl (k + 1)), none, none] [] K (qlv c Q)) → kl c (0, 0) mL_turns 68 [some (.inr G), some (.inr L), some (.inr N), some (.inl k), some (.inl to), none] [.inl z] J (qlv c Q) := by
    intro w k J hw hk o1 e1 to z hz nxt
    have hk6 := isr_bd hw hk
    have hru := hw.run hk.1 hk.2
    have ed := e1.g2 hk6
    refine lL_turns_68 hx hG hL hN ⟨bdi (by omega), fun q => ⟨fun q2 => absurd q q2, fun _ => ?_⟩, fun q => ⟨fun _ => ?_, fun q2 => absurd q2 q⟩⟩
    · subst q
      have f1 := e1.wn d (i := 3) (x := J N 3 + 0) (y := w 0 3) (by omega) (by rw [e1.n3, Int.add_zero])
      rw [up_self] at f1
      have ed1 : sh_u J N 3 (J N 3 + 0) G (7 * k + 2) = w 8 k := f1.g2 hk6
      have fin : ∀ y : Int, (if w 8 k = 4 then w else up w 0 4 (w 0 4 + 1)) = up w 0 4 (w 0 4 + y) → kl c (0, 0) mL_turns 112 [some (.inr G), some (.inr L), some (.inr N), some (.inl k), some (.inl to), some (.inl 0)] [.inl y, .inl (sh_u J N 3 (J N 3 + 0) N 4), .inl 4, .inr N] (sh_u J N 3 (J N 3 + 0)) (qlv c Q) := by
        intro y hy
        refine lL_turns_112 hx hG hL hN ⟨by omega, bd_lit (by decide), fun _ => ⟨by omega, nxt _ o1.n.n.g ?_⟩, fun q => absurd rfl q⟩
        rw [if_pos rfl, hy]
        have f2 := f1.wn d (i := 4) (x := sh_u J N 3 (J N 3 + 0) N 4 + y) (y := w 0 4 + y) (by omega) (by rw [f1.n4])
        have f3 := f2.wg d (k := 7 * k) (x := sh_u (sh_u J N 3 (J N 3 + 0)) N 4 (sh_u J N 3 (J N 3 + 0) N 4 + y) G (7 * k)) (y := up w 0 4 (w 0 4 + y) 6 k) 6 (by decide) hk6 (by omega) (f2.g0 hk6)
        rw [up_self] at f3
        exact f3
      refine ⟨by omega, Or.inr ⟨by rw [ed1]; exact bdi (by omega), bd_lit (by decide)⟩, fun q2 => fin 1 ?_, fun q2 => lL_turns_107 hx hG hL hN (fin 0 ?_)⟩
      · rw [ed1] at q2
        rw [if_neg q2]
      · rw [ed1] at q2
        rw [if_pos q2, Int.add_zero, up_self]
    · have hz1 : z = 1 := by omega
      subst hz1
      have f1 := e1.wn d (i := 3) (x := J N 3 + 1) (y := w 0 3 + 1) (by omega) (by rw [e1.n3])
      refine lL_turns_107 hx hG hL hN (lL_turns_112 hx hG hL hN ⟨by omega, bd_lit (by decide), fun q2 => absurd q2 q, fun _ => ⟨by omega, nxt _ o1.n.n.g ?_⟩⟩)
      have f2 := f1.wn d (i := 4) (x := sh_u J N 3 (J N 3 + 1) N 4 + 0) (y := up w 0 3 (w 0 3 + 1) 0 4) (by omega) (by rw [f1.n4, Int.add_zero])
      rw [up_self] at f2
      have f3 := f2.wg d (k := 7 * k) (x := to) (y := to) 6 (by decide) hk6 (by omega) rfl
      rw [if_neg q]
      have ec : up (up w 6 k to) 0 3 (w 0 3 + 1) = up (up w 0 3 (w 0 3 + 1)) 6 k to := by
        funext a b
        simp only [up]
        repeat' split
        all_goals first | rfl | omega
      rw [ec]
      exact f3
  refine eL_turns hx hG hL hN ?_
  have key : ∀ (n k : Nat) (J : sh_Mem), (k : Int) + (n : Int) = v 0 6 → OL G L N I J → LV J G L N (goN v k) → kl c (0, 0) mL_turns 2 [some (.inr G), some (.inr L), some (.inr N), some (.inl (k : Int)), none, none] [] J (qlv c Q) := by
    intro n
    induction n with
    | zero =>
      intro k J g0 o1 e1
      have ek : (k : Int) = v 0 6 := by omega
      have ek2 : k = (v 0 6).toNat := by omega
      rw [ek2] at e1
      rw [ek]
      exact tag J o1 e1
    | succ n ih =>
      intro k J g0 o1 e1
      obtain ⟨w1, w2, w3, w4⟩ := goN_ok hv k (by omega)
      have hg : goN v (k + 1) = goF (goN v k) (k : Int) := rfl
      generalize hw : goN v k = w at *
      have e8 : J N 8 = v 0 6 := e1.n8.trans w2
      have hk : isr w (k : Int) := ⟨by omega, by omega⟩
      have hk6 := isr_bd w1 hk
      have hru := w1.run hk.1 hk.2
      have ed := e1.g2 hk6
      have nxt : ∀ K, OL G L N I K → LV K G L N (goF w (k : Int)) → kl c (0, 0) mL_turns 2 [some (.inr G), some (.inr L), some (.inr N), some (.inl ((k : Int) + 1)), none, none] [] K (qlv c Q) := fun K k1 k2 => by
        have := ih (k + 1) K (by omega) k1 (by rw [hg]; exact k2)
        exact this
      refine lL_turns_2 hx hG hL hN ⟨bdi (by omega), bdi (by omega), fun q => absurd q (by omega), fun q => ⟨by omega, Or.inr ⟨bdi (by omega), bd_lit (by decide)⟩, fun q2 => ⟨by omega, ?_⟩, fun q2 => ?_⟩⟩
      · rw [ed] at q2 ⊢
        rw [e1.g0 hk6]
        have hd : 0 ≤ w 8 (k : Int) ∧ w 8 (k : Int) < 4 := by omega
        refine t_beside hx hru.1 hd ?_
        have hnx : nx (w 6 (k : Int)) (w 8 (k : Int)) = -5 ∨ (0 ≤ nx (w 6 (k : Int)) (w 8 (k : Int)) ∧ nx (w 6 (k : Int)) (w 8 (k : Int)) < 100) := by
          by_cases z : nx (w 6 (k : Int)) (w 8 (k : Int)) = -5
          · exact Or.inl z
          · exact Or.inr (nx_in hru.1 hd z)
        have stay : (nx (w 6 (k : Int)) (w 8 (k : Int)) = -5 ∨ ¬ st w (nx (w 6 (k : Int)) (w 8 (k : Int))) = -5) → kl c (0, 0) mL_turns 67 [some (.inr G), some (.inr L), some (.inr N), some (.inl (k : Int)), some (.inl (nx (w 6 (k : Int)) (w 8 (k : Int)))), none] [] J (qlv c Q) := fun z => by
          refine lL_turns_67 hx hG hL hN (step w k J w1 hk o1 e1 _ 0 (Or.inl rfl) (fun K k1 k2 => nxt K k1 ?_))
          rw [if_pos rfl, if_neg q2] at k2
          unfold goF
          rw [if_neg q2, if_pos z]
          exact k2
        have hsb := st_bd w1 (nx (w 6 (k : Int)) (w 8 (k : Int)))
        refine ⟨bdi (by omega), fun q3 => stay (Or.inl (by omega)), fun q3 => t_who hx hG hN e1 w1 (bdi (by omega)) ⟨Or.inr ⟨bdi (by omega), bd_lit (by decide)⟩, fun q4 => stay (Or.inr q4), fun q4 => step w k J w1 hk o1 e1 _ 1 (Or.inr rfl) (fun K k1 k2 => nxt K k1 ?_)⟩⟩
        rw [if_neg (by decide)] at k2
        unfold goF
        rw [if_neg q2, if_neg]
        · exact k2
        · rintro (z | z)
          · omega
          · exact z q4
      · rw [ed] at q2
        refine lL_turns_67 hx hG hL hN (step w k J w1 hk o1 e1 _ 0 (Or.inl rfl) (fun K k1 k2 => nxt K k1 ?_))
        rw [if_pos rfl, if_pos q2] at k2
        unfold goF
        rw [if_pos q2]
        exact k2
  exact key (v 0 6).toNat 0 I (by omega) OL.rf e
