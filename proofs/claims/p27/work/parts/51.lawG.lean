/-! ===== 51: the steps, checked ===== -/
theorem fit_areSteps {cn : Nat × Nat} (h1 : cn.1 ≤ 10) (h2 : cn.2 ≤ 500) : sh_fit mL_areSteps mL_steps cn 0 := ⟨by decide +kernel, by decide +kernel, show cn.1 + 2 ≤ 12 by omega, show cn.2 + 100 ≤ 600 by omega, by decide⟩
/-- the law's word for a way that leads nowhere -/
def fhe (m : Int) : Int := if m = 100 then 500 else m
theorem fhe_lt {m n : Int} (hm : -1 ≤ m ∧ m ≤ 100) (hn : 0 ≤ n ∧ n ≤ 100) : (fhe m < fhe n ↔ m < n) ∧ (-1 ≤ fhe m ∧ fhe m ≤ 500) ∧ (-1 ≤ fhe n ∧ fhe n ≤ 500) := by
  unfold fhe
  refine ⟨?_, ?_, ?_⟩
  · split <;> split <;> omega
  · split <;> omega
  · split <;> omega
theorem fhe_vl {v : Vw} {r z : Int} (h1 : ¬ sgh v r → z = -4) (h2 : sgh v r → z = wy v r) (hb : sgh v r → (wy v r = -5 ∨ 0 ≤ wy v r) ∧ wy v r ≤ 99) : ((z < 0 → fhe (vl v r) = 500) ∧ (0 ≤ z → fhe (vl v r) = z)) ∧ (0 ≤ vl v r ∧ vl v r ≤ 100) ∧ (-5 ≤ z ∧ z ≤ 99) := by
  by_cases hs : sgh v r
  · have e := h2 hs
    obtain ⟨b1, b2⟩ := hb hs
    clear h1 h2 hb
    rw [vl_yes hs]
    subst e
    unfold fhe
    split
    · refine ⟨⟨fun _ => by decide, fun q => by omega⟩, by omega, by omega⟩
    · rw [if_neg (by omega)]
      refine ⟨⟨fun q => by omega, fun _ => rfl⟩, by omega, by omega⟩
  · have e := h1 hs
    clear h1 h2 hb
    rw [vl_no hs]
    subst e
    exact ⟨⟨fun _ => by decide, fun q => absurd q (by decide)⟩, by decide, by decide⟩
theorem t_areSteps {c : sh_Cx} (hx : cx c) {G L N : Nat} (hG : dy c G 42) (hL : dy c L 12) (hN : dy c N 9) {I0 I : sh_Mem} {Q : Int → sh_Mem → Prop} {v : Vw} (g : Gd c.1 I0 G L N v I) (h : ∀ K, Gd c.1 I0 G L N v K → Q 1 K) : cl c mL_areSteps [.inr 1, .inr G, .inr L, .inr N] I (li c Q) := by
  have fr : 119 ≤ G ∧ 119 ≤ L ∧ 119 ≤ N := ⟨hG.ge, hL.ge, hN.ge⟩
  have fl : G < c.1 ∧ L < c.1 ∧ N < c.1 := ⟨hG.lt, hL.lt, hN.lt⟩
  have h9 : 119 ≤ c.1 := by omega
  have hv := g.wf
  have hm := hv.many
  have key : ∀ (n j : Nat) (K : sh_Mem) (cn : Nat × Nat), j + n = (v 0 6).toNat → cn.1 ≤ 2 * j → cn.2 ≤ 100 * j → Gd c.1 I0 G L N v K → sfI v j → kl c cn mL_areSteps 29 [some (.inr 1), some (.inr G), some (.inr L), some (.inr N), some (.inl (sfN v j).1), some (.inl (fhe (sfN v j).2)), some (.inl 1), some (.inl (j : Int)), none, none, none] [] K (qli c Q) := by
    intro n
    induction n with
    | zero =>
      intro j K cn g0 c1 c2 gK hs
      have e8 : K N 8 = v 0 6 := gK.2.2.n8
      refine lL_areSteps_29 hx hG hL hN ext.rf ?_
      rw [e8]
      refine ⟨bdi (by omega), bdi (by omega), fun _ => ⟨bd_lit (by decide), fun q => absurd q (by decide), fun _ => ?_⟩, fun q => absurd q (by omega)⟩
      refine gK.ask fr (a_safest gK.ev hv) (fun J g1 => okk ?_ (h _ g1))
      rw [show (v 0 6).toNat = j by omega]
    | succ n ih =>
      intro j K cn g0 c1 c2 gK hs
      have hj : (j : Int) < v 0 6 := by omega
      have hi : isr v (j : Int) := ⟨by omega, hj⟩
      have hi6 := isr_bd hv hi
      have hn0 : ¬ v 0 6 = 0 := by omega
      have hr1 : isr v (v 0 1) := by
        rcases hv.2.1 with q | q
        · omega
        · exact q
      have hr6 := isr_bd hv hr1
      have hsb : (sfN v j).1 < (j : Int) ∧ -5 ≤ (sfN v j).1 ∧ -1 ≤ (sfN v j).2 ∧ (sfN v j).2 ≤ 100 := by
        rcases hs with q | q <;> omega
      -- after the comparison with what was best
      have at156 : ∀ (cn2 : Nat × Nat) (K2 : sh_Mem) (y z0 : Int), cn2.1 ≤ 2 * (j + 1) → cn2.2 ≤ 100 * (j + 1) → Gd c.1 I0 G L N v K2 → sfI v (j + 1) → ((z0 = (sfN v j).1 ∧ sfN v (j + 1) = sfN v j) ∨ (z0 = (j : Int) ∧ (sfN v (j + 1)).1 = (j : Int) ∧ fhe (sfN v (j + 1)).2 = y)) → kl c cn2 mL_areSteps 156 [some (.inr 1), some (.inr G), some (.inr L), some (.inr N), none, some (.inl (fhe (sfN v j).2)), some (.inl 1), some (.inl (j : Int)), none, none, some (.inl y)] [.inl z0] K2 (qli c Q) := by
        intro cn2 K2 y z0 d1 d2 g2 s2 hz
        have nx := ih (j + 1) K2 cn2 (by omega) d1 d2 g2 s2
        rcases hz with ⟨e1, e2⟩ | ⟨e1, e2, e3⟩
        · rw [e2] at nx
          rw [e1]
          exact lL_areSteps_156 hx hG hL hN ext.rf ⟨Or.inr ⟨bdi (by omega), bdi (by omega)⟩, fun _ => nx, fun q => absurd q (by omega)⟩
        · rw [e2, e3] at nx
          rw [e1]
          exact lL_areSteps_156 hx hG hL hN ext.rf ⟨Or.inl rfl, fun q => absurd rfl q, fun _ => nx⟩
      have at117 : ∀ (cn2 : Nat × Nat) (K2 : sh_Mem) (z : Int), cn2.1 ≤ 2 * (j + 1) → cn2.2 ≤ 100 * (j + 1) → Gd c.1 I0 G L N v K2 → ((z < 0 → fhe (vl v (j : Int)) = 500) ∧ (0 ≤ z → fhe (vl v (j : Int)) = z)) → (0 ≤ vl v (j : Int) ∧ vl v (j : Int) ≤ 100) → (-5 ≤ z ∧ z ≤ 99) → kl c cn2 mL_areSteps 117 [some (.inr 1), some (.inr G), some (.inr L), some (.inr N), some (.inl (sfN v j).1), some (.inl (fhe (sfN v j).2)), none, some (.inl (j : Int)), none, some (.inl z), none] [.inl 1] K2 (qli c Q) := by
        intro cn2 K2 z d1 d2 g2 hz hb hzb
        have e1 : K2 N 1 = v 0 1 := g2.2.2.n1 hn0
        have hf := fhe_lt (m := (sfN v j).2) (n := vl v (j : Int)) ⟨hsb.2.2.1, hsb.2.2.2⟩ hb
        have both : ∀ y : Int, fhe (vl v (j : Int)) = y → ((j : Int) = v 0 1 → kl c cn2 mL_areSteps 154 [some (.inr 1), some (.inr G), some (.inr L), some (.inr N), some (.inl (sfN v j).1), some (.inl (fhe (sfN v j).2)), some (.inl 1), some (.inl (j : Int)), none, none, some (.inl y)] [] K2 (qli c Q)) ∧ (¬ (j : Int) = v 0 1 → (sh_Bd (fhe (sfN v j).2) ∧ ((y ≤ fhe (sfN v j).2 → kl c cn2 mL_areSteps 154 [some (.inr 1), some (.inr G), some (.inr L), some (.inr N), some (.inl (sfN v j).1), some (.inl (fhe (sfN v j).2)), some (.inl 1), some (.inl (j : Int)), none, none, some (.inl y)] [] K2 (qli c Q)) ∧ (fhe (sfN v j).2 < y → kl c cn2 mL_areSteps 156 [some (.inr 1), some (.inr G), some (.inr L), some (.inr N), none, some (.inl (fhe (sfN v j).2)), some (.inl 1), some (.inl (j : Int)), none, none, some (.inl y)] [.inl (j : Int)] K2 (qli c Q))))) := by
          intro y hy
          refine ⟨fun q => ?_, fun q => ⟨bdi (by omega), fun q2 => ?_, fun q2 => ?_⟩⟩
          · obtain ⟨f1, f2⟩ := sf_skip (v := v) (n := j) q hs
            exact lL_areSteps_154 hx hG hL hN ext.rf (at156 cn2 K2 y _ d1 d2 g2 f2 (Or.inl ⟨rfl, f1⟩))
          · obtain ⟨f1, f2⟩ := sf_keep (v := v) (n := j) q (fun w => by
              have := hf.1.mpr w
              omega) hs
            exact lL_areSteps_154 hx hG hL hN ext.rf (at156 cn2 K2 y _ d1 d2 g2 f2 (Or.inl ⟨rfl, f1⟩))
          · obtain ⟨f1, f2⟩ := sf_take (v := v) (n := j) q (hf.1.mp (by omega)) hb
            exact at156 cn2 K2 y _ d1 d2 g2 f2 (Or.inr ⟨rfl, by rw [f1], by rw [f1]; exact hy⟩)
        refine lL_areSteps_117 hx hG hL hN ext.rf ?_
        rw [e1]
        refine ⟨bdi (by omega), fun q => ⟨Or.inr ⟨bdi (by omega), bdi (by omega)⟩, both z (hz.2 q)⟩, fun q => ⟨Or.inr ⟨bdi (by omega), bdi (by omega)⟩, both 500 (hz.1 q)⟩⟩
      have at94 : ∀ (cn2 : Nat × Nat) (K2 : sh_Mem) (z : Int), cn2.1 ≤ 2 * (j + 1) → cn2.2 ≤ 100 * (j + 1) → Gd c.1 I0 G L N v K2 → (¬ sgh v (j : Int) → z = -4) → (sgh v (j : Int) → z = wy v (j : Int)) → (sgh v (j : Int) → (wy v (j : Int) = -5 ∨ 0 ≤ wy v (j : Int)) ∧ wy v (j : Int) ≤ 99) → kl c cn2 mL_areSteps 94 [some (.inr 1), some (.inr G), some (.inr L), some (.inr N), some (.inl (sfN v j).1), some (.inl (fhe (sfN v j).2)), some (.inl 1), some (.inl (j : Int)), none, none, none] [.inl z] K2 (qli c Q) := by
        intro cn2 K2 z d1 d2 g2 z1 z2 z3
        obtain ⟨f1, f2, f3⟩ := fhe_vl z1 z2 z3
        refine lL_areSteps_94 hx hG hL hN ext.rf ⟨bd_lit (by decide), fun q => absurd q (by decide), fun _ => ?_⟩
        refine g2.ask fr (a_stepsTo (r := z) g2.ev hv (bdi (by omega)) (fun q => absurd hi q) (fun _ => z1) (fun _ => z2)) (fun J g3 => okk rfl ?_)
        exact at117 cn2 _ z d1 d2 g3 f1 f2 f3
      have at73 : ∀ (K2 : sh_Mem), Gd c.1 I0 G L N v K2 → ¬ sgh v (j : Int) → kl c cn mL_areSteps 73 [some (.inr 1), some (.inr G), some (.inr L), some (.inr N), some (.inl (sfN v j).1), some (.inl (fhe (sfN v j).2)), some (.inl 1), some (.inl (j : Int)), none, none, none] [] K2 (qli c Q) := fun K2 g2 hns =>
        lL_areSteps_73 hx hG hL hN ext.rf (at94 cn K2 (-4) (by omega) (by omega) g2 (fun _ => rfl) (fun q => absurd q hns) (fun q => absurd q hns))
      have e8 : K N 8 = v 0 6 := gK.2.2.n8
      have e1 : K N 1 = v 0 1 := gK.2.2.n1 hn0
      have e3 : K G (7 * (j : Int) + 3) = v 9 (j : Int) := gK.2.2.g3 hi6
      have h9b := (hv.2.2.1 _ hi.1 hi.2).2.2.2
      refine lL_areSteps_29 hx hG hL hN ext.rf ?_
      rw [e8, e1, e3]
      refine ⟨bdi (by omega), bdi (by omega), fun q => absurd q (by omega), fun _ => ⟨Or.inr ⟨bdi (by omega), bdi (by omega)⟩, fun q => at73 K gK (fun w => w.1 q), fun q => ⟨⟨by omega, by omega⟩, bdi (by omega), fun q2 => at73 K gK (fun w => q2 w.2.1), fun q2 => ?_⟩⟩⟩
      have hcc := cntN_in (P := ish v (j : Int)) 100
      have hch := cells_hs hv hi
      refine t_cells hx hG hL hN gK.2.2 hv hi ⟨bdi (by omega), fun q3 => at73 K gK (fun w => ?_), fun q3 => ⟨fit_areSteps (by omega) (by omega), ?_⟩⟩
      · have := hch.mpr w.2.2
        omega
      · have hsg : sgh v (j : Int) := ⟨q, q2, hch.mp q3⟩
        refine t_steps hx hG hL hN gK.2.2 hv hi hr1 (fun K2 o2 hb => ?_)
        exact at94 (cn.1 + 2, cn.2 + 100) K2 _ (by show cn.1 + 2 ≤ _; omega) (by show cn.2 + 100 ≤ _; omega) (gK.aside fl h9 o2) (fun w => absurd hsg w) (fun _ => rfl) (fun _ => hb)
  have e8 : I N 8 = v 0 6 := g.2.2.n8
  refine eL_areSteps hx hG hL hN ?_
  rw [e8]
  refine g.ask fr (a_stepsTo (r := -1) g.ev hv (bdi (by omega)) (fun _ => rfl) (fun q => absurd q.2 (by omega)) (fun q => absurd q.2 (by omega))) (fun J g1 => okk rfl ?_)
  exact key (v 0 6).toNat 0 _ (0, 0) (by omega) (Nat.zero_le _) (Nat.zero_le _) g1 (Or.inl ⟨rfl, rfl⟩)
