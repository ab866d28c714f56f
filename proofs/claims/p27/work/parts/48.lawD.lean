/-! ===== 48: shadows, cell by cell ===== -/
theorem CI.off {I J : sh_Mem} {v : Vw} (h : CI I v) (o : ∀ k, k < 119 → J k = I k) : CI J v := by
  obtain ⟨h1, h2, h3, h4⟩ := h
  refine ⟨(vP_same fun k k1 k2 => o k (by rw [oP_v] at k2; omega)).trans h1, h2, ?_, ?_⟩
  · rw [o 47 (by decide)]
    exact h3
  · rw [o 47 (by decide)]
    exact h4
/-- an array of the law's own, beside the three, is written or made -/
theorem Gd.aside {m0 : Nat} {I0 K J : sh_Mem} {G L N : Nat} {v : Vw} (fr : G < m0 ∧ L < m0 ∧ N < m0) (g : Gd m0 I0 G L N v K) (h9 : 119 ≤ m0) (o : ∀ k, k < m0 → J k = K k) : Gd m0 I0 G L N v J :=
  ⟨fun k f q => by
    rw [o k (by omega)]
    exact g.1 k f q, g.2.1.off (fun k hk => o k (by omega)), g.2.2.same (o G fr.1) (o L fr.2.1) (o N fr.2.2)⟩
theorem LV.b {I : sh_Mem} {G L N : Nat} {v : Vw} (e : LV I G L N v) : I L 3 + I L 7 + I L 11 = brn v := by
  have h0 : I L 3 = v 5 0 := e.l3 (r := 0) (by decide)
  have h1 : I L 7 = v 5 1 := e.l3 (r := 1) (by decide)
  have h2 : I L 11 = v 5 2 := e.l3 (r := 2) (by decide)
  rw [h0, h1, h2]
  rfl
noncomputable def ind (P : Prop) : Int := @ite Int P (Classical.propDecidable _) 1 0
theorem ind_yes {P : Prop} (h : P) : ind P = 1 := by unfold ind; rw [if_pos h]
theorem ind_no {P : Prop} (h : ¬ P) : ind P = 0 := by unfold ind; rw [if_neg h]
theorem cntN_ind {P : Int → Prop} {n : Nat} : cntN P (n + 1) = cntN P n + ind (P (n : Int)) := rfl
theorem ind_congr {P P' : Prop} (h : P ↔ P') : ind P = ind P' := by
  by_cases e : P
  · rw [ind_yes e, ind_yes (h.1 e)]
  · rw [ind_no e, ind_no (fun q => e (h.2 q))]
theorem cnt_one {P : Int → Prop} : ∀ n : Nat, (∀ i j, 0 ≤ i → i < (n : Int) → 0 ≤ j → j < (n : Int) → P i → P j → i = j) → cntN P n = ind (∃ i, (0 ≤ i ∧ i < (n : Int)) ∧ P i) := by
  intro n
  induction n with
  | zero => exact fun _ => (ind_no (fun ⟨i, h, _⟩ => by simp at h; omega)).symm
  | succ n ih =>
    intro h
    have h1 := ih (fun i j a b c d => h i j a (by omega) c (by omega))
    rw [cntN_ind, h1]
    by_cases e : P (n : Int)
    · rw [ind_no, ind_yes e, ind_yes ⟨(n : Int), by omega, e⟩]
      · rfl
      · rintro ⟨i, hi, hp⟩
        have := h i (n : Int) hi.1 (by omega) (by omega) (by omega) hp e
        omega
    · rw [ind_no e, Int.add_zero]
      refine ind_congr ⟨fun ⟨i, hi, hp⟩ => ⟨i, by omega, hp⟩, fun ⟨i, hi, hp⟩ => ⟨i, ⟨hi.1, ?_⟩, hp⟩⟩
      by_cases z : i = (n : Int)
      · rw [z] at hp
        exact absurd hp e
      · omega
/-- how many shadows by the lamp l the cell p is in -/
noncomputable def own (v : Vw) (p l : Int) : Int := cntN (fun i => shd v i l p) (v 0 6).toNat
theorem own_lkd {v : Vw} {p l : Int} (hv : WF v) (hp : 0 ≤ p ∧ p < 100) (hl : 0 ≤ l ∧ l < 3) : own v p l = ind (lkd v p l) := by
  have hm := hv.many
  unfold own
  rw [cnt_one _ (fun i j i0 i1 j0 j1 h1 h2 => shd_one hv ⟨i0, by omega⟩ ⟨j0, by omega⟩ hl hp h1 h2)]
  exact ind_congr ⟨fun ⟨i, hi, h⟩ => ⟨i, ⟨hi.1, by omega⟩, h⟩, fun ⟨i, hi, h⟩ => ⟨i, by have := hi.1; have := hi.2; omega, h⟩⟩
theorem sum_looked {v : Vw} {p : Int} (hv : WF v) (hp : 0 ≤ p ∧ p < 100) : sumN (fun l => own v p l) 3 = cntN (lkd v p) 3 := by
  have e : ∀ l : Nat, l < 3 → own v p (l : Int) = ind (lkd v p (l : Int)) := fun l hl => own_lkd hv hp (by omega)
  show 0 + own v p ((0 : Nat) : Int) + own v p ((1 : Nat) : Int) + own v p ((2 : Nat) : Int) = 0 + ind (lkd v p ((0 : Nat) : Int)) + ind (lkd v p ((1 : Nat) : Int)) + ind (lkd v p ((2 : Nat) : Int))
  rw [e 0 (by decide), e 1 (by decide), e 2 (by decide)]
theorem sum_dark {v : Vw} {p : Int} (hv : WF v) : sumN (fun l => own v p l) 3 = pc v p (-5) (-5) (3 * v 0 6).toNat := by
  have hm := hv.many
  have key : ∀ n : Nat, cntN (pr v p (-5) (-5)) (3 * n) = cntN (fun i => shd v i 0 p) n + cntN (fun i => shd v i 1 p) n + cntN (fun i => shd v i 2 p) n := by
    intro n
    induction n with
    | zero => rfl
    | succ n ih =>
      have e0 : ind (pr v p (-5) (-5) ((3 * n : Nat) : Int)) = ind (shd v (n : Int) 0 p) := by
        refine ind_congr ?_
        unfold pr
        rw [show ((3 * n : Nat) : Int) / 3 = (n : Int) by omega, show ((3 * n : Nat) : Int) % 3 = 0 by omega]
        exact ⟨fun h => h.2, fun h => ⟨⟨Or.inl rfl, Or.inl rfl⟩, h⟩⟩
      have e1 : ind (pr v p (-5) (-5) ((3 * n + 1 : Nat) : Int)) = ind (shd v (n : Int) 1 p) := by
        refine ind_congr ?_
        unfold pr
        rw [show ((3 * n + 1 : Nat) : Int) / 3 = (n : Int) by omega, show ((3 * n + 1 : Nat) : Int) % 3 = 1 by omega]
        exact ⟨fun h => h.2, fun h => ⟨⟨Or.inl rfl, Or.inl rfl⟩, h⟩⟩
      have e2 : ind (pr v p (-5) (-5) ((3 * n + 2 : Nat) : Int)) = ind (shd v (n : Int) 2 p) := by
        refine ind_congr ?_
        unfold pr
        rw [show ((3 * n + 2 : Nat) : Int) / 3 = (n : Int) by omega, show ((3 * n + 2 : Nat) : Int) % 3 = 2 by omega]
        exact ⟨fun h => h.2, fun h => ⟨⟨Or.inl rfl, Or.inl rfl⟩, h⟩⟩
      rw [show 3 * (n + 1) = 3 * n + 2 + 1 by omega, cntN_ind, cntN_ind, cntN_ind, ih, e0, e1, e2, cntN_ind, cntN_ind, cntN_ind]
      omega
  have h := key (v 0 6).toNat
  rw [show 3 * (v 0 6).toNat = (3 * v 0 6).toNat by omega] at h
  show 0 + own v p ((0 : Nat) : Int) + own v p ((1 : Nat) : Int) + own v p ((2 : Nat) : Int) = _
  unfold pc
  rw [h, Int.zero_add]
  rfl
theorem dkn_by {v : Vw} {l : Int} (hv : WF v) (hl : 0 ≤ l ∧ l < 3) : dkn v (-5) l = cntN (fun p => lkd v p l) 100 := by
  refine cntN_congr 100 (fun c c0 c1 => ?_)
  rw [pc_iff hv]
  constructor
  · rintro ⟨r, m, hr, hm, ⟨-, z⟩, h⟩
    have e : l = m := by omega
    subst e
    exact ⟨r, hr, h⟩
  · rintro ⟨r, hr, h⟩
    exact ⟨r, l, hr, hl, ⟨Or.inl rfl, Or.inr rfl⟩, h⟩
theorem own_bd {v : Vw} {p l : Int} (hv : WF v) : 0 ≤ own v p l ∧ own v p l ≤ 6 := by
  have hm := hv.many
  have := cntN_in (P := fun i => shd v i l p) (v 0 6).toNat
  unfold own
  omega
theorem own_pos {v : Vw} {p l : Int} (hv : WF v) (hp : 0 ≤ p ∧ p < 100) (hl : 0 ≤ l ∧ l < 3) : 0 < own v p l ↔ lkd v p l := by
  rw [own_lkd hv hp hl]
  by_cases e : lkd v p l
  · rw [ind_yes e]
    exact ⟨fun _ => e, fun _ => by decide⟩
  · rw [ind_no e]
    exact ⟨fun z => absurd z (by decide), fun z => absurd z e⟩
/-- how many cells each lamp has darkened, ahead of the cell p and the lamp l -/
def BI (v : Vw) (B : Nat) (K : sh_Mem) (p : Nat) (l : Int) : Prop := ∀ m, 0 ≤ m → m < 3 → K B m = cntN (fun q => lkd v q m) (if m < l then p + 1 else p)
theorem BI.mx {v : Vw} {B : Nat} {K J : sh_Mem} {p : Nat} {l : Int} (h : BI v B K p l) (hB : 119 ≤ B) : BI v B (mxM J K) p l := fun m a b => by
  rw [mx_ge hB]
  exact h m a b
theorem t_areShadows {c : sh_Cx} (hx : cx c) {G L N : Nat} (hG : dy c G 42) (hL : dy c L 12) (hN : dy c N 9) {m0 : Nat} {I0 I : sh_Mem} {Q : Int → sh_Mem → Prop} {v : Vw} (hm0 : m0 = c.1) (g : Gd m0 I0 G L N v I) (h : ∀ K, Gd m0 I0 G L N v K → Q 1 K) : cl c mL_areShadows [.inr 1, .inr G, .inr L, .inr N] I (li c Q) := by
  have fr : 119 ≤ G ∧ 119 ≤ L ∧ 119 ≤ N := ⟨hG.ge, hL.ge, hN.ge⟩
  have fl : G < m0 ∧ L < m0 ∧ N < m0 := by
    rw [hm0]
    exact ⟨hG.lt, hL.lt, hN.lt⟩
  have h9 : 119 ≤ m0 := by rw [hm0]; exact hx.1
  have hv := g.wf
  have hm := hv.many
  -- the array, and the world with it
  have hB : dy (cp c 3) c.1 3 := dy.top hx.1 (by decide)
  have hx2 : cx (cp c 3) := hx.push
  have hG2 : dy (cp c 3) G 42 := hG.push
  have hL2 : dy (cp c 3) L 12 := hL.push
  have hN2 : dy (cp c 3) N 9 := hN.push
  have he : ext c (cp c 3) := ext.push ext.rf
  have start : Gd m0 I0 G L N v (sh_cl I c.1) := g.aside fl h9 (fun k hk => sh_cl_lt (by omega))
  have hB0 : ∀ f, sh_cl I c.1 c.1 f = 0 := fun f => sh_cl_self
  refine eL_areShadows hx hG hL hN ?_
  generalize c.1 = B at *
  generalize cp c 3 = d at *
  have hB9 : 119 ≤ B := hB.ge
  have gw : ∀ {K : sh_Mem} {f x : Int}, Gd m0 I0 G L N v K → Gd m0 I0 G L N v (sh_u K B f x) := fun gK => gK.aside fl h9 (fun k hk => sh_u_ne (by omega))
  -- lamp by lamp, at the end
  have key209 : ∀ (n l : Nat) (K : sh_Mem), l + n = 3 → Gd m0 I0 G L N v K → BI v B K 100 0 → kl d (1, 3) mL_areShadows 209 [some (.inr 1), none, some (.inr L), none, some (.inl (dkn v (-5) (-5))), some (.inr B), some (.inl 1), some (.inl (l : Int)), none, none, none, none] [] K (qli c Q) := by
    intro n
    induction n with
    | zero =>
      intro l K g0 gK bK
      refine lL_areShadows_209 hx2 hG2 hL2 hN2 he hB ⟨bdi (by omega), fun _ => ⟨bd_lit (by decide), fun q => absurd q (by decide), fun _ => ?_⟩, fun q => absurd q (by omega)⟩
      exact gK.ask fr (a_c4 gK.ev hv) (fun J gJ => okk rfl (h _ gJ))
    | succ n ih =>
      intro l K g0 gK bK
      have hl : 0 ≤ (l : Int) ∧ (l : Int) < 3 := by omega
      refine lL_areShadows_209 hx2 hG2 hL2 hN2 he hB ⟨bdi (by omega), fun q => absurd q (by omega), fun _ => ⟨bd_lit (by decide), fun q => absurd q (by decide), fun _ => ?_⟩⟩
      refine gK.ask fr (a_lamp 2 gK.ev hl (by decide) (by decide)) (fun J1 g1 => ⟨by omega, okk (g1.2.2.l0 hl).symm ?_⟩)
      refine g1.ask fr (a_lamp 3 g1.ev hl (by decide) (by decide)) (fun J2 g2 => ⟨by omega, okk (g2.2.2.l1 hl).symm ?_⟩)
      refine g2.ask fr (a_lamp 4 g2.ev hl (by decide) (by decide)) (fun J3 g3 => ⟨by omega, okk (g3.2.2.l2 hl).symm ?_⟩)
      refine g3.ask fr (a_lamp 5 g3.ev hl (by decide) (by decide)) (fun J4 g4 => ⟨by omega, okk (g4.2.2.l3 hl).symm ?_⟩)
      refine g4.ask fr (a_lamp4 g4.ev hv hl) (fun J5 g5 => ⟨hl, okk ?_ ?_⟩)
      · rw [dkn_by hv hl, ((((bK.mx hB9).mx hB9).mx hB9).mx hB9).mx hB9 (l : Int) hl.1 hl.2, if_neg (by omega)]
      · exact g5.ask fr (a_lamp5 hl) (fun J6 g6 => okk rfl (ih (l + 1) _ (by omega) g6 ((((((bK.mx hB9).mx hB9).mx hB9).mx hB9).mx hB9).mx hB9)))
  -- the runners, for a cell and a lamp
  have key69 : ∀ (p l : Nat) (dk : Int), p < 100 → l < 3 → (∀ K, Gd m0 I0 G L N v K → BI v B K p ((l : Int) + 1) → kl d (1, 3) mL_areShadows 57 [some (.inr 1), some (.inr G), some (.inr L), some (.inr N), some (.inl dk), some (.inr B), none, some (.inl (p : Int)), some (.inl (sumN (fun m => own v (p : Int) m) (l + 1))), some (.inl ((l : Int) + 1)), none, none] [] K (qli c Q)) → ∀ (n i : Nat) (K : sh_Mem), (i : Int) + (n : Int) = v 0 6 → Gd m0 I0 G L N v K → BI v B K p (l : Int) → kl d (1, 3) mL_areShadows 69 [some (.inr 1), some (.inr G), some (.inr L), some (.inr N), some (.inl dk), some (.inr B), none, some (.inl (p : Int)), some (.inl (sumN (fun m => own v (p : Int) m) l)), some (.inl (l : Int)), some (.inl (cntN (fun i => shd v i (l : Int) (p : Int)) i)), some (.inl (i : Int))] [] K (qli c Q) := by
    intro p l dk hp hl nx n
    have hl3 : 0 ≤ (l : Int) ∧ (l : Int) < 3 := by omega
    have hp3 : 0 ≤ (p : Int) ∧ (p : Int) < 100 := by omega
    induction n with
    | zero =>
      intro i K g0 gK bK
      have e8 := gK.2.2.n8
      have ei : i = (v 0 6).toNat := by omega
      have eo : cntN (fun i => shd v i (l : Int) (p : Int)) i = own v (p : Int) (l : Int) := by rw [ei]; rfl
      have hob := own_bd (p := (p : Int)) (l := (l : Int)) hv
      have hop := own_pos hv hp3 hl3
      rw [eo]
      have put : ∀ z : Int, z = ind (lkd v (p : Int) (l : Int)) → kl d (1, 3) mL_areShadows 57 [some (.inr 1), some (.inr G), some (.inr L), some (.inr N), some (.inl dk), some (.inr B), none, some (.inl (p : Int)), some (.inl (sumN (fun m => own v (p : Int) m) l + own v (p : Int) (l : Int))), some (.inl ((l : Int) + 1)), none, none] [] (sh_u K B (l : Int) (K B (l : Int) + z)) (qli c Q) := by
        intro z hz
        refine nx _ (gw gK) (fun m a b => ?_)
        by_cases y : m = (l : Int)
        · subst y
          have := bK (l : Int) hl3.1 hl3.2
          rw [if_neg (by omega)] at this
          rw [if_pos (by omega), cntN_ind, ← this, ← hz]
          simp [sh_u]
        · have := bK m a b
          simp only [sh_u]
          rw [if_neg (by omega), this]
          by_cases w : m < (l : Int)
          · rw [if_pos w, if_pos (by omega)]
          · rw [if_neg w, if_neg (by omega)]
      refine lL_areShadows_69 hx2 hG2 hL2 hN2 he hB ⟨bdi (by omega), bdi (by omega), fun _ => ⟨hl3, bdi (by omega), fun q => put 0 ?_, fun q => put 1 ?_⟩, fun q => absurd q (by omega)⟩
      · rw [ind_no (fun z => by have := hop.mpr z; omega)]
      · rw [ind_yes (hop.mp q)]
    | succ n ih =>
      intro i K g0 gK bK
      have e8 := gK.2.2.n8
      have hi : isr v (i : Int) := ⟨by omega, by omega⟩
      refine lL_areShadows_69 hx2 hG2 hL2 hN2 he hB ⟨bdi (by omega), bdi (by omega), fun q => absurd q (by omega), fun _ => t_shades hx2 hG2 hL2 hN2 gK.2.2 hv hi hl3 hp3 (fun q => Or.inl ⟨rfl, ?_⟩) (fun q => Or.inr ⟨rfl, ?_⟩)⟩
      · have := ih (i + 1) K (by omega) gK bK
        rw [cntN_yes (P := fun i => shd v i (l : Int) (p : Int)) q] at this
        exact this
      · have := ih (i + 1) K (by omega) gK bK
        rw [cntN_no (P := fun i => shd v i (l : Int) (p : Int)) q] at this
        rw [Int.add_zero]
        exact this
  -- the lamps, for a cell
  have key57 : ∀ (p : Nat), p < 100 → (∀ K, Gd m0 I0 G L N v K → BI v B K (p + 1) 0 → kl d (1, 3) mL_areShadows 39 [some (.inr 1), some (.inr G), some (.inr L), some (.inr N), some (.inl (cntN (fun q => 0 < pc v q (-5) (-5) (3 * v 0 6).toNat) (p + 1))), some (.inr B), some (.inl 1), some (.inl ((p : Int) + 1)), none, none, none, none] [] K (qli c Q)) → ∀ (n l : Nat) (K : sh_Mem), l + n = 3 → Gd m0 I0 G L N v K → BI v B K p (l : Int) → kl d (1, 3) mL_areShadows 57 [some (.inr 1), some (.inr G), some (.inr L), some (.inr N), some (.inl (cntN (fun q => 0 < pc v q (-5) (-5) (3 * v 0 6).toNat) p)), some (.inr B), none, some (.inl (p : Int)), some (.inl (sumN (fun m => own v (p : Int) m) l)), some (.inl (l : Int)), none, none] [] K (qli c Q) := by
    intro p hp nx n
    have hp3 : 0 ≤ (p : Int) ∧ (p : Int) < 100 := by omega
    induction n with
    | zero =>
      intro l K g0 gK bK
      have el : l = 3 := by omega
      subst el
      have s1 := sum_looked hv hp3
      have s2 := sum_dark (p := (p : Int)) hv
      have hcb := cntN_in (P := lkd v (p : Int)) 3
      have b4 : BI v B K (p + 1) 0 := fun m a b => by
        have := bK m a b
        rw [if_pos (by omega)] at this
        rw [if_neg (by omega)]
        exact this
      rw [s2] at s1 ⊢
      have hcp : 0 ≤ pc v (p : Int) (-5) (-5) (3 * v 0 6).toNat ∧ pc v (p : Int) (-5) (-5) (3 * v 0 6).toNat ≤ 3 := by omega
      refine lL_areShadows_57 hx2 hG2 hL2 hN2 he hB ⟨bd_lit (by decide), fun _ => ⟨bdi (by omega), fun q => ?_, fun q => ?_⟩, fun q => absurd q (by decide)⟩
      · refine gK.ask fr (a_darkness gK.ev hv hp3) (fun J1 g1 => okk rfl ?_)
        refine g1.ask fr (a_looked g1.ev hv hp3) (fun J2 g2 => okk s1.symm ?_)
        refine g2.ask fr (a_at g2.ev hv hp3) (fun J3 g3 => t_who hx2 hG2 hN2 g3.2.2 hv (bdi (by omega)) (okk rfl ?_))
        have := nx _ g3 (((b4.mx hB9).mx hB9).mx hB9)
        rw [cntN_no (show ¬ 0 < pc v (p : Int) (-5) (-5) (3 * v 0 6).toNat by omega)] at this
        rw [Int.add_zero]
        exact this
      · refine gK.ask fr (a_darkness gK.ev hv hp3) (fun J1 g1 => okk rfl ?_)
        refine g1.ask fr (a_looked g1.ev hv hp3) (fun J2 g2 => okk s1.symm ?_)
        refine g2.ask fr (a_at g2.ev hv hp3) (fun J3 g3 => t_who hx2 hG2 hN2 g3.2.2 hv (bdi (by omega)) (okk rfl ?_))
        have := nx _ g3 (((b4.mx hB9).mx hB9).mx hB9)
        rw [cntN_yes (show 0 < pc v (p : Int) (-5) (-5) (3 * v 0 6).toNat from q)] at this
        exact this
    | succ n ih =>
      intro l K g0 gK bK
      refine lL_areShadows_57 hx2 hG2 hL2 hN2 he hB ⟨bdi (by omega), fun q => absurd q (by omega), fun _ => ?_⟩
      exact key69 p l _ hp (by omega) (fun M gM bM => ih (l + 1) M (by omega) gM bM) (v 0 6).toNat 0 K (by omega) gK bK
  -- the cells
  have key39 : ∀ (n p : Nat) (K : sh_Mem), p + n = 100 → Gd m0 I0 G L N v K → BI v B K p 0 → kl d (1, 3) mL_areShadows 39 [some (.inr 1), some (.inr G), some (.inr L), some (.inr N), some (.inl (cntN (fun q => 0 < pc v q (-5) (-5) (3 * v 0 6).toNat) p)), some (.inr B), some (.inl 1), some (.inl (p : Int)), none, none, none, none] [] K (qli c Q) := by
    intro n
    induction n with
    | zero =>
      intro p K g0 gK bK
      have ep : p = 100 := by omega
      subst ep
      exact lL_areShadows_39 hx2 hG2 hL2 hN2 he hB ⟨bdi (by omega), fun _ => key209 3 0 K rfl gK bK, fun q => absurd q (by omega)⟩
    | succ n ih =>
      intro p K g0 gK bK
      refine lL_areShadows_39 hx2 hG2 hL2 hN2 he hB ⟨bdi (by omega), fun q => absurd q (by omega), fun _ => ⟨bd_lit (by decide), fun q => absurd q (by decide), fun _ => ?_⟩⟩
      exact key57 p (by omega) (fun M gM bM => ih (p + 1) M (by omega) gM bM) 3 0 K rfl gK bK
  refine start.ask fr (a_c3 start.ev hv) (fun J gJ => okk gJ.2.2.b.symm ?_)
  exact key39 100 0 _ rfl gJ (fun m a b => by
    rw [mx_ge hB9, hB0]
    split <;> (try omega) <;> rfl)
