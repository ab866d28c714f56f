/-! ===== 45: the whole text is read ===== -/
def psn (C : Int → Int) : Nat → Int
  | 0 => 0
  | k + 1 => (thg C (psn C k)).2.1 + 1
def tj (C : Int → Int) (k : Nat) : Th := thg C (psn C k)
def rdF (C : Int → Int) (n : Int) : Nat → Int → Int
  | 0, p => p
  | m + 1, p => if (thg C p).1 = 0 then (thg C p).2.1 else if (thg C p).2.1 = n then -5 else if C (thg C p).2.1 = 59 then rdF C n m ((thg C p).2.1 + 1) else (thg C p).2.1
def rdK (C : Int → Int) (n : Int) : Nat → Int → Int
  | 0, p => 0
  | m + 1, p => if (thg C p).1 = 0 then 0 else if (thg C p).2.1 = n then 1 else if C (thg C p).2.1 = 59 then 1 + rdK C n m ((thg C p).2.1 + 1) else 0
theorem rdF_s {C : Int → Int} {n p : Int} {m : Nat} : rdF C n (m + 1) p = if (thg C p).1 = 0 then (thg C p).2.1 else if (thg C p).2.1 = n then -5 else if C (thg C p).2.1 = 59 then rdF C n m ((thg C p).2.1 + 1) else (thg C p).2.1 := rfl
theorem rdK_s {C : Int → Int} {n p : Int} {m : Nat} : rdK C n (m + 1) p = if (thg C p).1 = 0 then 0 else if (thg C p).2.1 = n then 1 else if C (thg C p).2.1 = 59 then 1 + rdK C n m ((thg C p).2.1 + 1) else 0 := rfl
theorem thg_end {C : Int → Int} {n p : Int} (hC : CT C n) (hp : n ≤ p) : thg C p = (0, p, 0, 0, 0) := by
  have := (hC.2 p).1 (Or.inr hp)
  unfold thg
  rw [if_neg (by omega), if_neg (by omega), if_neg (by omega), if_neg (by omega)]
def FC (I J : sh_Mem) : Prop := (∀ o, o ≠ 109 → o ≠ 111 → o ≠ 112 → o ≠ 113 → J o = I o) ∧ ∀ f, f ≠ 2 → f ≠ 6 → J 109 f = I 109 f
theorem FC.tr {I J K : sh_Mem} {k p : Int} (h : FC I J) (g : TR J K k p) : FC I K := ⟨fun o a b c d => (g.1 o a b c d).trans (h.1 o a b c d), fun f a b => (g.2.1 f a).trans (h.2 f a b)⟩
theorem FC.u6 {I J : sh_Mem} {x : Int} (h : FC I J) : FC I (sh_u J 109 6 x) := ⟨fun o a b c d => by rw [sh_u_ne a]; exact h.1 o a b c d, fun f a b => by rw [sh_u_nf b]; exact h.2 f a b⟩
theorem FC.same {I J : sh_Mem} (h : FC I J) : CSame I J := fun o f q => by
  by_cases e : o = 109
  · subst e
    exact h.2 f (by omega) (by omega)
  · rw [h.1 o e (by omega) (by omega) (by omega)]
theorem FC.tx {I J : sh_Mem} {C : Int → Int} {n : Int} (h : FC I J) (ht : TX I C n) : TX J C n := ht.of (h.2 1 (by decide) (by decide)) (h.1 110 (by decide) (by decide) (by decide) (by decide))
theorem Row.tr {I J : sh_Mem} {k j p : Int} {t : Th} (h : Row I j t) (g : TR I J k p) (e : j ≠ k) : Row J j t := by
  obtain ⟨h1, h2, h3⟩ := h
  refine ⟨?_, ?_, ?_⟩
  · rw [g.2.2.2 111 j (by omega) e]; exact h1
  · rw [g.2.2.2 112 j (by omega) e]; exact h2
  · rw [g.2.2.2 113 j (by omega) e]; exact h3
theorem Row.u {I : sh_Mem} {j f x : Int} {t : Th} (h : Row I j t) : Row (sh_u I 109 f x) j t := by
  unfold Row
  rw [sh_u_ne (by decide), sh_u_ne (by decide), sh_u_ne (by decide)]
  exact h
theorem s_read {I : sh_Mem} {Q : Int → sh_Mem → Prop} {C : Int → Int} {n : Int} (ht : TX I C n) (hf : ¬ rdF C n 21 0 = -5 → 0 ≤ rdF C n 21 0 ∧ rdF C n 21 0 ≤ 200 → ∀ J, FC I J → Q (rdF C n 21 0) J) (hn : rdF C n 21 0 = -5 → (1 ≤ rdK C n 21 0 ∧ rdK C n 21 0 ≤ 20) → ∀ J, FC I J → J 109 6 = rdK C n 21 0 → (∀ j : Nat, (j : Int) < rdK C n 21 0 → Row J j (tj C j) ∧ KOk (tj C j)) → Q (-1) J) : cc mX1_read [.inr 109] I (qi Q) := by
  have hC := ht.1
  have hn0 := hC.1
  have key : ∀ (m k : Nat) (J : sh_Mem), k + m = 20 → FC I J → J 109 2 = psn C k → (3 * (k : Int) ≤ psn C k ∧ psn C k ≤ 60) → (0 < k → psn C k ≤ n) → rdF C n (m + 1) (psn C k) = rdF C n 21 0 → (k : Int) + rdK C n (m + 1) (psn C k) = rdK C n 21 0 → (∀ j : Nat, j < k → Row J j (tj C j) ∧ KOk (tj C j)) → kk mX1_read 12 [some (.inr 109), some (.inl (k : Int))] [] J (qi Q) := by
    intro m
    induction m with
    | zero =>
      intro k J g0 g1 g2 g3 g3' g4 g5 g6
      have hk : k = 20 := by omega
      have ep := thg_end (p := psn C k) hC (by omega)
      have e1 : rdF C n (0 + 1) (psn C k) = psn C k := by rw [rdF_s, ep, if_pos rfl]
      refine lX1_read_12 ⟨bdi (by omega), fun _ => ?_, fun q => absurd q (by omega)⟩
      rw [g2, ← e1, g4]
      rw [e1] at g4
      exact hf (by omega) (by omega) J g1
    | succ m ih =>
      intro k J g0 g1 g2 g3 g3' g4 g5 g6
      have ok := thg_ok (p := psn C k) hC (by omega)
      have hnb : (J 109 1) = n := (g1.tx ht).2.1
      refine lX1_read_12 ⟨bdi (by omega), fun q => absurd q (by omega), fun _ => s_readThing g2 (g1.tx ht) (by omega) (by omega) (fun z K k1 => Or.inr ⟨rfl, ?_⟩) (fun z K k1 k2 => Or.inl ⟨rfl, ?_⟩)⟩
      · rw [rdF_s, if_pos z] at g4
        rw [k1.2.2.1, g4]
        rcases ok with ⟨_, o1, o2⟩ | ⟨o1, -⟩
        · exact hf (by omega) (by omega) K (g1.tr k1)
        · omega
      · rcases ok with ⟨o1, -⟩ | ⟨-, o2, o3⟩
        · omega
        · have hK1 : K 109 1 = n := ((g1.tr k1).tx ht).2.1
          rw [rdF_s, if_neg (by omega)] at g4
          rw [rdK_s, if_neg (by omega)] at g5
          have rows : ∀ j : Nat, j < k + 1 → Row (sh_u K 109 6 ((k : Int) + 1)) j (tj C j) ∧ KOk (tj C j) := fun j hj => by
            by_cases e : j = k
            · rw [e]
              exact ⟨k2.u, o3⟩
            · have := g6 j (by omega)
              exact ⟨(this.1.tr k1 (by omega)).u, this.2⟩
          refine ⟨by rw [k1.2.2.1]; exact bdi (by omega), by rw [hK1]; exact bdi (by omega), fun q => ?_, fun q => ?_⟩
          · rw [k1.2.2.1, hK1] at q
            rw [if_neg (by omega)] at g4 g5
            have f1 : FC I (sh_u K 109 6 ((k : Int) + 1)) := (g1.tr k1).u6
            have e2 : sh_u K 109 6 ((k : Int) + 1) 109 2 = (thg C (psn C k)).2.1 := by rw [sh_u_nf (by decide), k1.2.2.1]
            refine s_readSignP e2 (f1.tx ht) (by omega) (by decide) (fun w => Or.inl ⟨rfl, ?_⟩) (fun w => Or.inr ⟨rfl, ?_⟩)
            · rw [if_pos w] at g4 g5
              have r0 : TR (sh_u K 109 6 ((k : Int) + 1)) (sh_u (sh_u K 109 6 ((k : Int) + 1)) 109 2 (sh_u K 109 6 ((k : Int) + 1) 109 2 + 1)) 30 (sh_u K 109 6 ((k : Int) + 1) 109 2 + 1) := TR.rf.sg
              rw [e2] at r0 ⊢
              have := ih (k + 1) _ (by omega) (f1.tr r0) r0.2.2.1 (by show 3 * ((k + 1 : Nat) : Int) ≤ (thg C (psn C k)).2.1 + 1 ∧ (thg C (psn C k)).2.1 + 1 ≤ 60; omega) (fun _ => by show (thg C (psn C k)).2.1 + 1 ≤ n; omega) g4 (by rw [← g5]; show ((k + 1 : Nat) : Int) + rdK C n (m + 1) ((thg C (psn C k)).2.1 + 1) = _; omega) (fun j hj => ⟨(rows j hj).1.tr r0 (by omega), (rows j hj).2⟩)
              exact this
            · rw [if_neg w] at g4
              rw [e2, g4]
              exact hf (by omega) (by omega) _ f1
          · rw [k1.2.2.1, hK1] at q
            rw [if_pos (by omega)] at g4 g5
            exact hn g4.symm (by omega) _ (g1.tr k1).u6 (by rw [← g5]; simp [sh_u]) (fun j hj => rows j (by omega))
  have f0 : FC I (sh_u (sh_u I 109 2 0) 109 6 0) := ⟨fun o a b c d => by rw [sh_u_ne a, sh_u_ne a], fun f a b => by rw [sh_u_nf b, sh_u_nf a]⟩
  exact eX1_read (key 20 0 _ (by omega) f0 (by simp [sh_u, psn]) (by show 3 * ((0 : Nat) : Int) ≤ 0 ∧ (0 : Int) ≤ 60; omega) (fun q => absurd q (by omega)) rfl (by show (0 : Int) + rdK C n 21 0 = _; omega) (fun j hj => absurd hj (by omega)))
/-! the reference -/
def FM (I J : sh_Mem) : Prop := (∀ o, o ≠ 119 → o ≠ 126 → o ≠ 127 → o ≠ 128 → J o = I o) ∧ ∀ f, f ≠ 11 → f ≠ 12 → f ≠ 13 → J 119 f = I 119 f
theorem FM.tr {I J K : sh_Mem} {k p t : Int} (h : FM I J) (g : RK J K k p t) : FM I K := ⟨fun o a b c d => (g.1 o a b c d).trans (h.1 o a b c d), fun f a b c => (g.2.1 f a b c).trans (h.2 f a b c)⟩
theorem FM.u {I J : sh_Mem} {f x : Int} (h : FM I J) (hf : f = 11 ∨ f = 12 ∨ f = 13) : FM I (sh_u J 119 f x) := ⟨fun o a b c d => by rw [sh_u_ne a]; exact h.1 o a b c d, fun g a b c => by rw [sh_u_nf (by omega)]; exact h.2 g a b c⟩
theorem FM.rf {I : sh_Mem} : FM I I := ⟨fun _ _ _ _ _ => rfl, fun _ _ _ _ => rfl⟩
theorem FM.same {I J : sh_Mem} (h : FM I J) : MSame I J := ⟨by rw [h.1 120 (by decide) (by decide) (by decide) (by decide)], fun o f q => by
  by_cases e : o = 119
  · subst e
    exact h.2 f (by omega) (by omega) (by omega)
  · rw [h.1 o e (by omega) (by omega) (by omega)]⟩
theorem FM.rx {I J : sh_Mem} {C : Int → Int} {n : Int} (h : FM I J) (ht : RX I C n) : RX J C n := ht.of (h.2 10 (by decide) (by decide) (by decide)) (h.1 125 (by decide) (by decide) (by decide) (by decide))
theorem RowM.tr {I J : sh_Mem} {k j p u : Int} {t : Th} (h : RowM I j t) (g : RK I J k p u) (e : j ≠ k) : RowM J j t := by
  obtain ⟨h1, h2, h3⟩ := h
  refine ⟨?_, ?_, ?_⟩
  · rw [g.2.2.2.2 126 j (by omega) e]; exact h1
  · rw [g.2.2.2.2 127 j (by omega) e]; exact h2
  · rw [g.2.2.2.2 128 j (by omega) e]; exact h3
theorem RowM.u {I : sh_Mem} {j f x : Int} {t : Th} (h : RowM I j t) : RowM (sh_u I 119 f x) j t := by
  unfold RowM
  rw [sh_u_ne (by decide), sh_u_ne (by decide), sh_u_ne (by decide)]
  exact h
theorem r_fault {I : sh_Mem} {Q : Int → sh_Mem → Prop} {C : Int → Int} {n : Int} (ht : RX I C n) (hf : ¬ rdF C n 21 0 = -5 → 0 ≤ rdF C n 21 0 ∧ rdF C n 21 0 ≤ 200 → ∀ J, FM I J → Q (rdF C n 21 0) J) (hn : rdF C n 21 0 = -5 → (1 ≤ rdK C n 21 0 ∧ rdK C n 21 0 ≤ 20) → ∀ J, FM I J → J 119 13 = rdK C n 21 0 → (∀ j : Nat, (j : Int) < rdK C n 21 0 → RowM J j (tj C j) ∧ KOk (tj C j)) → Q (-5) J) : cc mX7_faultNow [.inr 119] I (qi Q) := by
  have hC := ht.1
  have hn0 := hC.1
  have key : ∀ (m k : Nat) (J : sh_Mem), k + m = 20 → FM I J → J 119 11 = psn C k → J 119 13 = (k : Int) → (3 * (k : Int) ≤ psn C k ∧ psn C k ≤ 60) → rdF C n (m + 1) (psn C k) = rdF C n 21 0 → (k : Int) + rdK C n (m + 1) (psn C k) = rdK C n 21 0 → (∀ j : Nat, j < k → RowM J j (tj C j) ∧ KOk (tj C j)) → cc mX7_readsThing [.inr 119] J (qi fun v3 I1 => kk mX7_faultNow 15 [some (.inr 119), some (.inl v3)] [] I1 (qi Q)) := by
    intro m
    induction m with
    | zero =>
      intro k J g0 g1 g2 g2' g3 g4 g5 g6
      have hk : k = 20 := by omega
      have ep := thg_end (p := psn C k) hC (by omega)
      refine r_thing g2 g2' (by omega) (g1.rx ht) (by omega) (fun z K k1 => ?_) (fun z => ?_)
      · rw [rdF_s, if_pos z] at g4
        refine lX7_faultNow_15 ⟨bd_lit (by decide), fun _ => ⟨fun _ => ?_, fun q => absurd rfl q⟩, fun q => absurd rfl q⟩
        rw [k1.2.2.1, g4]
        rw [ep] at g4
        have e9 : psn C k = rdF C n 21 0 := g4
        exact hf (by omega) (by omega) K (g1.tr k1)
      · rw [ep] at z
        exact absurd z (show ¬ (0 : Int) = 1 by decide)
    | succ m ih =>
      intro k J g0 g1 g2 g2' g3 g4 g5 g6
      have ok := thg_ok (p := psn C k) hC (by omega)
      refine r_thing g2 g2' (by omega) (g1.rx ht) (by omega) (fun z K k1 => ?_) (fun z K k1 k2 => ?_)
      · rw [rdF_s, if_pos z] at g4
        refine lX7_faultNow_15 ⟨bd_lit (by decide), fun _ => ⟨fun _ => ?_, fun q => absurd rfl q⟩, fun q => absurd rfl q⟩
        rw [k1.2.2.1, g4]
        rcases ok with ⟨_, o1, o2⟩ | ⟨o1, -⟩
        · exact hf (by omega) (by omega) K (g1.tr k1)
        · omega
      · rcases ok with ⟨o1, -⟩ | ⟨-, o2, o3⟩
        · omega
        · have f1 : FM I K := g1.tr k1
          have hK1 : K 119 10 = n := (f1.rx ht).2.1
          rw [rdF_s, if_neg (by omega)] at g4
          rw [rdK_s, if_neg (by omega)] at g5
          have rows : ∀ j : Nat, j < k + 1 → RowM K j (tj C j) ∧ KOk (tj C j) := fun j hj => by
            by_cases e : j = k
            · rw [e]
              exact ⟨k2, o3⟩
            · have := g6 j (by omega)
              exact ⟨this.1.tr k1 (by omega), this.2⟩
          refine lX7_faultNow_15 ⟨bd_lit (by decide), fun q => absurd q (by decide), fun _ => r_takesP k1.2.2.1 (f1.rx ht) (by omega) (by decide) (fun w => Or.inl ⟨rfl, ?_⟩) (fun w => Or.inr ⟨rfl, fun q => absurd q (by decide), fun _ => ⟨by rw [k1.2.2.1]; exact bdi (by omega), by rw [hK1]; exact bdi (by omega), fun q => ?_, fun q => ?_⟩⟩)⟩
          · have hlt := hC.lt (p := (thg C (psn C k)).2.1) (by omega)
            rw [if_neg (by omega), if_pos w] at g4 g5
            exact ih (k + 1) _ (by omega) (f1.u (by omega)) (by simp [sh_u, psn]) (by rw [sh_u_nf (by decide), k1.2.2.2.1]; omega) (by show 3 * ((k + 1 : Nat) : Int) ≤ (thg C (psn C k)).2.1 + 1 ∧ (thg C (psn C k)).2.1 + 1 ≤ 60; omega) g4 (by rw [← g5]; show ((k + 1 : Nat) : Int) + rdK C n (m + 1) ((thg C (psn C k)).2.1 + 1) = _; omega) (fun j hj => ⟨(rows j hj).1.u, (rows j hj).2⟩)
          · rw [k1.2.2.1, hK1] at q
            rw [if_neg q, if_neg w] at g4
            rw [k1.2.2.1, g4]
            exact hf (by omega) (by omega) K f1
          · rw [k1.2.2.1, hK1] at q
            rw [if_pos q] at g4 g5
            exact hn g4.symm (by omega) K f1 (by rw [k1.2.2.2.1]; omega) (fun j hj => rows j (by omega))
  have f0 : FM I (sh_u (sh_u I 119 11 0) 119 13 0) := (FM.rf.u (by omega)).u (by omega)
  exact eX7_faultNow (key 20 0 _ (by omega) f0 (by simp [sh_u, psn]) (by simp [sh_u]) (by show 3 * ((0 : Nat) : Int) ≤ 0 ∧ (0 : Int) ≤ 60; omega) rfl (by show (0 : Int) + rdK C n 21 0 = _; omega) (fun j hj => absurd hj (by omega)))
