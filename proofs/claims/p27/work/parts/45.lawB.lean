/-! ===== 45: shadows, cells, ways and tags of the law's platform ===== -/
theorem t_shades {c : sh_Cx} (hx : cx c) {G L N : Nat} (hG : dy c G 42) (hL : dy c L 12) (hN : dy c N 9) {i l p : Int} {I : sh_Mem} {Q : Int → sh_Mem → Prop} {v : Vw} (e : LV I G L N v) (hv : WF v) (hi : isr v i) (hl : 0 ≤ l ∧ l < 3) (hp : 0 ≤ p ∧ p < 100) (h1 : shd v i l p → Q 1 I) (h0 : ¬ shd v i l p → Q 0 I) : cl c mL_shades [.inr G, .inr L, .inr N, .inl i, .inl l, .inl p] I (li c Q) := by
  have hm := hv.many
  have hi6 := isr_bd hv hi
  have hci := hv.cell hi.1 hi.2
  have hw := hv.lampw hl
  have e2 := e.l0 hl
  have eg := e.g0 hi6
  have ea : (I L (4 * l) + 2) % 4 = aw v l := by rw [e2]; rfl
  have e8 := e.n8
  have hbt := shd_btw hv hi hl hp
  have hdb := di_bd (d := aw v l) hci hp
  -- the loop
  have key : ∀ (n : Nat) (j b : Int), 0 ≤ j → j + (n : Int) = v 0 6 → ((b = 1 ∧ (v 5 l = 1 ∧ 0 < di (v 6 i) p (aw v l) ∧ di (v 6 i) p (aw v l) ≤ v 7 i * v 3 l) ∧ ∀ s, 0 ≤ s → s < j → sg (v 6 i) (v 6 s) (aw v l) = 0 ∨ di (v 6 i) p (aw v l) ≤ sg (v 6 i) (v 6 s) (aw v l)) ∨ (b = 0 ∧ ¬ shd v i l p)) → kl c (0, 0) mL_shades 76 [some (.inr G), none, some (.inr N), some (.inl i), none, none, some (.inl (aw v l)), some (.inl (sg (v 6 i) p (aw v l))), some (.inl b), some (.inl j), none] [] I (qli c Q) := by
    intro n
    induction n with
    | zero =>
      intro j b g0 g1 g2
      refine lL_shades_76 hx hG hL hN ⟨bdi (by omega), bdi (by omega), fun q => ?_, fun q => absurd q (by omega)⟩
      rcases g2 with ⟨rfl, g3, g4⟩ | ⟨rfl, g3⟩
      · exact ⟨Or.inr rfl, h1 (hbt.mpr ⟨g3, fun s hs => g4 s hs.1 (by have := hs.2; omega)⟩)⟩
      · exact ⟨Or.inl rfl, h0 g3⟩
    | succ n ih =>
      intro j b g0 g1 g2
      have hj : isr v j := ⟨g0, by omega⟩
      have hj6 := isr_bd hv hj
      have hcj := hv.cell hj.1 hj.2
      have hdj := di_bd (d := aw v l) hci hcj
      have hsb : 0 ≤ sg (v 6 i) (v 6 j) (aw v l) ∧ sg (v 6 i) (v 6 j) (aw v l) ≤ 9 := by
        unfold sg
        split <;> omega
      have hsp : 0 ≤ sg (v 6 i) p (aw v l) ∧ sg (v 6 i) p (aw v l) ≤ 9 := by
        unfold sg
        split <;> omega
      have hb01 : 0 ≤ b ∧ b ≤ 1 := by
        rcases g2 with ⟨z, -⟩ | ⟨z, -⟩ <;> omega
      refine lL_shades_76 hx hG hL hN ⟨bdi (by omega), bdi (by omega), fun q => absurd q (by omega), fun q => ⟨by omega, by omega, ?_⟩⟩
      rw [eg, e.g0 hj6]
      have keep : ∀ ok : sg (v 6 i) (v 6 j) (aw v l) = 0 ∨ sg (v 6 i) p (aw v l) ≤ sg (v 6 i) (v 6 j) (aw v l), ¬ b = 0 → kl c (0, 0) mL_shades 76 [some (.inr G), none, some (.inr N), some (.inl i), none, none, some (.inl (aw v l)), some (.inl (sg (v 6 i) p (aw v l))), some (.inl 1), some (.inl (j + 1)), none] [] I (qli c Q) := by
        intro ok hb
        refine ih (j + 1) 1 (by omega) (by omega) (Or.inl ⟨rfl, ?_⟩)
        rcases g2 with ⟨-, g3, g4⟩ | ⟨z, -⟩
        · refine ⟨g3, fun s s0 s1 => ?_⟩
          by_cases z : s = j
          · rw [z]
            rcases ok with y | y
            · exact Or.inl y
            · right
              have : sg (v 6 i) p (aw v l) = di (v 6 i) p (aw v l) := by
                unfold sg
                rw [if_pos g3.2.1]
              omega
          · exact g4 s s0 (by omega)
        · exact absurd z hb
      refine t_straight hx hci hcj aw_in ⟨bdi (by omega), fun q2 => ih (j + 1) 0 (by omega) (by omega) (Or.inr ⟨rfl, ?_⟩), fun q2 => ⟨bdi (by omega), fun q3 => keep (Or.inl q3) q2, fun q3 => ⟨bdi (by omega), fun q4 => ih (j + 1) 0 (by omega) (by omega) (Or.inr ⟨rfl, fun z => ?_⟩), fun q4 => keep (Or.inr q4) q2⟩⟩⟩
      · rcases g2 with ⟨z, -⟩ | ⟨-, z⟩
        · omega
        · exact z
      · obtain ⟨y1, y2⟩ := hbt.mp z
        have y3 := y2 j hj
        have : sg (v 6 i) p (aw v l) = di (v 6 i) p (aw v l) := by
          unfold sg
          rw [if_pos y1.2.1]
        omega
  have start : ∀ b : Int, (b = 1 ∧ (v 5 l = 1 ∧ 0 < di (v 6 i) p (aw v l) ∧ di (v 6 i) p (aw v l) ≤ v 7 i * v 3 l)) ∨ (b = 0 ∧ ¬ (v 5 l = 1 ∧ 0 < di (v 6 i) p (aw v l) ∧ di (v 6 i) p (aw v l) ≤ v 7 i * v 3 l)) → kl c (0, 0) mL_shades 76 [some (.inr G), none, some (.inr N), some (.inl i), none, none, some (.inl (aw v l)), some (.inl (sg (v 6 i) p (aw v l))), some (.inl b), some (.inl 0), none] [] I (qli c Q) := by
    intro b hb
    refine key (v 0 6).toNat 0 b (Int.le_refl _) (by omega) ?_
    rcases hb with ⟨z, y⟩ | ⟨z, y⟩
    · exact Or.inl ⟨z, y, fun s s0 s1 => by omega⟩
    · exact Or.inr ⟨z, fun x => y (hbt.mp x).1⟩
  have hsp : 0 ≤ sg (v 6 i) p (aw v l) ∧ sg (v 6 i) p (aw v l) ≤ 9 := by
    unfold sg
    split <;> omega
  have hmu := mul_bd (hv.run hi.1 hi.2).2.1 hw.2.1
  refine eL_shades hx hG hL hN ⟨by omega, by omega, by omega, ?_⟩
  rw [eg, ea]
  refine t_straight hx hci hp aw_in ?_
  rw [e.l3 hl, e.g1 hi6, e.l1 hl]
  refine ⟨by omega, Or.inr ⟨bdi (by omega), bd_lit (by decide)⟩, fun q => start 0 (Or.inr ⟨rfl, fun z => q z.1⟩), fun q => ⟨bdi (by omega), fun q2 => start 0 (Or.inr ⟨rfl, fun z => ?_⟩), fun q2 => ⟨by omega, by omega, bdi (by omega), fun q3 => start 0 (Or.inr ⟨rfl, fun z => ?_⟩), fun q3 => start 1 (Or.inl ⟨rfl, q, ?_⟩)⟩⟩⟩
  · have := z.2.1
    unfold sg at q2
    rw [if_pos this] at q2
    omega
  · have := z.2
    unfold sg at q3
    rw [if_pos this.1] at q3
    omega
  · unfold sg at q2 q3
    split at q2
    · rename_i z
      rw [if_pos z] at q3
      exact ⟨z, q3⟩
    · omega
theorem t_shaded {c : sh_Cx} (hx : cx c) {G L N : Nat} (hG : dy c G 42) (hL : dy c L 12) (hN : dy c N 9) {i p : Int} {I : sh_Mem} {Q : Int → sh_Mem → Prop} {v : Vw} (e : LV I G L N v) (hv : WF v) (hi : isr v i) (hp : 0 ≤ p ∧ p < 100) (h1 : ish v i p → Q 1 I) (h0 : ¬ ish v i p → Q 0 I) : cl c mL_shaded [.inr G, .inr L, .inr N, .inl i, .inl p] I (li c Q) := by
  refine eL_shaded hx hG hL hN (t_shades hx hG hL hN e hv hi (by omega) hp (fun q => Or.inl ⟨rfl, h1 ⟨0, by omega, q⟩⟩) (fun q => Or.inr ⟨rfl, t_shades hx hG hL hN e hv hi (by omega) hp (fun q2 => Or.inl ⟨rfl, h1 ⟨1, by omega, q2⟩⟩) (fun q2 => Or.inr ⟨rfl, t_shades hx hG hL hN e hv hi (by omega) hp (fun q3 => Or.inl ⟨rfl, h1 ⟨2, by omega, q3⟩⟩) (fun q3 => Or.inr ⟨rfl, h0 ?_⟩)⟩)⟩))
  rintro ⟨l, hl, z⟩
  have hz : l = 0 ∨ l = 1 ∨ l = 2 := by omega
  rcases hz with rfl | rfl | rfl
  · exact q z
  · exact q2 z
  · exact q3 z
theorem t_cells {c : sh_Cx} (hx : cx c) {G L N : Nat} (hG : dy c G 42) (hL : dy c L 12) (hN : dy c N 9) {i : Int} {I : sh_Mem} {Q : Int → sh_Mem → Prop} {v : Vw} (e : LV I G L N v) (hv : WF v) (hi : isr v i) (h : Q (cntN (ish v i) 100) I) : cl c mL_cells [.inr G, .inr L, .inr N, .inl i] I (li c Q) := by
  refine eL_cells hx hG hL hN ?_
  have key : ∀ (n k : Nat), k + n = 100 → kl c (0, 0) mL_cells 6 [some (.inr G), some (.inr L), some (.inr N), some (.inl i), some (.inl (cntN (ish v i) k)), some (.inl (k : Int))] [] I (qli c Q) := by
    intro n
    induction n with
    | zero =>
      intro k g
      have : k = 100 := by omega
      subst this
      exact lL_cells_6 hx hG hL hN ⟨bdi (by omega), fun _ => h, fun q => absurd q (by omega)⟩
    | succ n ih =>
      intro k g
      refine lL_cells_6 hx hG hL hN ⟨bdi (by omega), fun q => absurd q (by omega), fun q => t_shaded hx hG hL hN e hv hi (by omega) (fun q2 => Or.inl ⟨rfl, ?_⟩) (fun q2 => Or.inr ⟨rfl, ?_⟩)⟩
      · have := ih (k + 1) (by omega)
        rw [cntN_yes q2] at this
        exact this
      · have := ih (k + 1) (by omega)
        rw [cntN_no q2] at this
        rw [Int.add_zero]
        exact this
  exact key 100 0 (by omega)
theorem t_beside {c : sh_Cx} (hx : cx c) {p d : Int} {I : sh_Mem} {Q : Int → sh_Mem → Prop} (hp : 0 ≤ p ∧ p < 100) (hd : 0 ≤ d ∧ d < 4) (h : Q (nx p d) I) : cl c mL_beside [.inl p, .inl d] I (li c Q) := by
  have fin : ∀ a b : Int, a = (if d = 2 then 1 else if d = 0 then -1 else 0) → b = (if d = 1 then 1 else if d = 3 then -1 else 0) → kl c (0, 0) mL_beside 47 [none, none, some (.inl (p / 10 + a)), none] [.inl b, .inl (p % 10)] I (qli c Q) := by
    intro a b ea eb
    have hab : -1 ≤ a ∧ a ≤ 1 := by rw [ea]; split <;> (try split) <;> omega
    have hbb : -1 ≤ b ∧ b ≤ 1 := by rw [eb]; split <;> (try split) <;> omega
    refine lL_beside_47 hx ⟨bdi (by omega), fun q => ?_, fun q => ⟨fun q2 => ?_, fun q2 => ⟨bdi (by omega), fun q3 => ?_, fun q3 => ⟨fun q4 => ?_, fun q4 => ?_⟩⟩⟩⟩
    · have : nx p d = -5 := by
        unfold nx
        rcases dir4 hd with rfl | rfl | rfl | rfl <;> simp at ea eb ⊢ <;> omega
      rw [this] at h
      exact h
    · have : nx p d = -5 := by
        unfold nx
        rcases dir4 hd with rfl | rfl | rfl | rfl <;> simp at ea eb ⊢ <;> omega
      rw [this] at h
      exact h
    · have : nx p d = -5 := by
        unfold nx
        rcases dir4 hd with rfl | rfl | rfl | rfl <;> simp at ea eb ⊢ <;> omega
      rw [this] at h
      exact h
    · have : nx p d = 10 * (p / 10 + a) + (p % 10 + b) := by
        unfold nx
        rcases dir4 hd with rfl | rfl | rfl | rfl <;> simp at ea eb ⊢ <;> (rw [if_neg (by omega)]) <;> omega
      rw [this] at h
      exact h
    · have : nx p d = -5 := by
        unfold nx
        rcases dir4 hd with rfl | rfl | rfl | rfl <;> simp at ea eb ⊢ <;> omega
      rw [this] at h
      exact h
  have mid : ∀ a : Int, a = (if d = 2 then 1 else if d = 0 then -1 else 0) → kl c (0, 0) mL_beside 22 [some (.inl p), some (.inl d), none, none] [.inl a, .inl (p / 10)] I (qli c Q) := by
    intro a ea
    refine lL_beside_22 hx ⟨by omega, Or.inr ⟨bdi (by omega), bd_lit (by decide)⟩, fun q => ⟨Or.inr ⟨bdi (by omega), bd_lit (by decide)⟩, fun q2 => fin a 0 ea ?_, fun q2 => fin a (-1) ea ?_⟩, fun q => fin a 1 ea ?_⟩
    · rw [if_neg q, if_neg q2]
    · rw [if_neg q, if_pos q2]
    · rw [if_pos q]
  refine eL_beside hx ⟨by omega, Or.inr ⟨bdi (by omega), bd_lit (by decide)⟩, fun q => ⟨bdi (by omega), fun q2 => mid 0 ?_, fun q2 => mid (-1) ?_⟩, fun q => mid 1 ?_⟩
  · rw [if_neg q, if_neg q2]
  · rw [if_neg q, if_pos q2]
  · rw [if_pos q]
theorem t_tagged {c : sh_Cx} (hx : cx c) {G L N : Nat} (hG : dy c G 42) (hL : dy c L 12) (hN : dy c N 9) {I : sh_Mem} {Q : Int → sh_Mem → Prop} {v : Vw} (e : LV I G L N v) (hv : WF v) (h : Q (ca v) I) : cl c mL_tagged [.inr G, .inr L, .inr N] I (li c Q) := by
  have hm := hv.many
  have e8 := e.n8
  have hcb := hv.2.1
  refine eL_tagged hx hG hL hN ?_
  by_cases hz : v 0 6 = 0
  · refine lL_tagged_2 hx hG hL hN ⟨bdi (by omega), bdi (by omega), fun q => ?_, fun q => absurd q (by omega)⟩
    have : ca v = -5 := ca_is (Or.inl ⟨hz, rfl⟩)
    rw [this] at h
    exact h
  · have e1 := e.n1 hz
    have hcr : isr v (v 0 1) := by unfold isr; omega
    have hcc := hv.cell hcr.1 hcr.2
    have hcr6 := isr_bd hv hcr
    have eg := e.g0 hcr6
    have key : ∀ (n : Nat) (y : Int), 0 ≤ y → y + (n : Int) = v 0 6 → (∀ r, 0 ≤ r → r < y → v 9 r = 0 → ¬ ish v r (v 6 (v 0 1))) → kl c (0, 0) mL_tagged 2 [some (.inr G), some (.inr L), some (.inr N), some (.inl y)] [] I (qli c Q) := by
      intro n
      induction n with
      | zero =>
        intro y g0 g1 g2
        refine lL_tagged_2 hx hG hL hN ⟨bdi (by omega), bdi (by omega), fun q => ?_, fun q => absurd q (by omega)⟩
        have : ca v = -5 := ca_is (Or.inr ⟨hz, Or.inl ⟨rfl, fun r hr h9 l l0 l1 hs => g2 r hr.1 (by have := hr.2; omega) h9 ⟨l, ⟨l0, l1⟩, hs⟩⟩⟩)
        rw [this] at h
        exact h
      | succ n ih =>
        intro y g0 g1 g2
        have hy : isr v y := ⟨g0, by omega⟩
        have hy6 := isr_bd hv hy
        have e3 := e.g3 hy6
        have h9 := (hv.run hy.1 hy.2).2.2.2
        have skip : ¬ (v 9 y = 0 ∧ ish v y (v 6 (v 0 1))) → kl c (0, 0) mL_tagged 2 [some (.inr G), some (.inr L), some (.inr N), some (.inl (y + 1))] [] I (qli c Q) := fun q => ih (y + 1) (by omega) (by omega) (fun r r0 r1 r9 => by
          by_cases z : r = y
          · subst z
            exact fun w => q ⟨r9, w⟩
          · exact g2 r r0 (by omega) r9)
        refine lL_tagged_2 hx hG hL hN ⟨bdi (by omega), bdi (by omega), fun q => absurd q (by omega), fun q => ⟨Or.inr ⟨bdi (by omega), bdi (by omega)⟩, fun q2 => skip (fun z => ?_), fun q2 => ⟨by omega, bdi (by omega), fun q3 => skip (fun z => q3 (e3.trans z.1)), fun q3 => ⟨by omega, ?_⟩⟩⟩⟩
        · obtain ⟨l, -, hs⟩ := z.2
          have := hs.1
          rw [q2, e1, di_self] at this
          omega
        · rw [e1, eg]
          refine t_shaded hx hG hL hN e hv hy hcc (fun q4 => Or.inl ⟨rfl, ?_⟩) (fun q4 => Or.inr ⟨rfl, skip (fun z => q4 z.2)⟩)
          have : ca v = y := by
            obtain ⟨l, hl, hs⟩ := q4
            refine ca_is (Or.inr ⟨hz, Or.inr ⟨hy, e3.symm.trans q3, ⟨l, hl, hs⟩, fun r hr r9 m m0 m1 hs2 => ?_⟩⟩)
            rcases Int.lt_or_le r y with z | z
            · exact absurd ⟨m, ⟨m0, m1⟩, hs2⟩ (g2 r hr.1 z r9)
            · exact z
          rw [this] at h
          exact h
    exact key (v 0 6).toNat 0 (by omega) (by omega) (fun r a b => absurd b (by omega))
