/-! ===== 41: the safest runner ===== -/
noncomputable def vl (v : Vw) (r : Int) : Int := @ite Int (sgh v r) (Classical.propDecidable _) (if wy v r = -5 then 100 else wy v r) 100
noncomputable def sfN (v : Vw) : Nat → Int × Int
  | 0 => (-5, -1)
  | n + 1 => if (n : Int) = v 0 1 then sfN v n else if (sfN v n).2 < vl v n then ((n : Int), vl v n) else sfN v n
theorem vl_yes {v : Vw} {r : Int} (h : sgh v r) : vl v r = if wy v r = -5 then 100 else wy v r := by unfold vl; rw [if_pos h]
theorem vl_no {v : Vw} {r : Int} (h : ¬ sgh v r) : vl v r = 100 := by unfold vl; rw [if_neg h]
def sfI (v : Vw) (n : Nat) : Prop := ((sfN v n).1 = -5 ∧ (sfN v n).2 = -1) ∨ ((0 ≤ (sfN v n).1 ∧ (sfN v n).1 < (n : Int)) ∧ 0 ≤ (sfN v n).2 ∧ (sfN v n).2 ≤ 100)
theorem sf_skip {v : Vw} {n : Nat} (h : (n : Int) = v 0 1) (i : sfI v n) : sfN v (n + 1) = sfN v n ∧ sfI v (n + 1) := by
  have e : sfN v (n + 1) = sfN v n := by
    show (if (n : Int) = v 0 1 then sfN v n else _) = _
    rw [if_pos h]
  refine ⟨e, ?_⟩
  unfold sfI at i ⊢
  rw [e]
  omega
theorem sf_take {v : Vw} {n : Nat} (h : ¬ (n : Int) = v 0 1) (g : (sfN v n).2 < vl v n) (b : 0 ≤ vl v n ∧ vl v n ≤ 100) : sfN v (n + 1) = ((n : Int), vl v n) ∧ sfI v (n + 1) := by
  have e : sfN v (n + 1) = ((n : Int), vl v n) := by
    show (if (n : Int) = v 0 1 then sfN v n else if (sfN v n).2 < vl v n then ((n : Int), vl v n) else sfN v n) = _
    rw [if_neg h, if_pos g]
  refine ⟨e, ?_⟩
  unfold sfI
  rw [e]
  exact Or.inr ⟨⟨by omega, by show (n : Int) < _; omega⟩, b⟩
theorem sf_keep {v : Vw} {n : Nat} (h : ¬ (n : Int) = v 0 1) (g : ¬ (sfN v n).2 < vl v n) (i : sfI v n) : sfN v (n + 1) = sfN v n ∧ sfI v (n + 1) := by
  have e : sfN v (n + 1) = sfN v n := by
    show (if (n : Int) = v 0 1 then sfN v n else if (sfN v n).2 < vl v n then ((n : Int), vl v n) else sfN v n) = _
    rw [if_neg h, if_neg g]
  refine ⟨e, ?_⟩
  unfold sfI at i ⊢
  rw [e]
  omega
theorem s_stepsFar {x : Int} {I : sh_Mem} {Q : Int → sh_Mem → Prop} {v : Vw} (ev : vP I oP = v) (hv : WF v) (hr : isr v x) (h : ∀ J, BO I J → 0 ≤ vl v x ∧ vl v x ≤ 100 → Q (vl v x) J) : cc mX6_stepsOrFarthest [.inr 1, .inl x] I (qi Q) := by
  have hr6 := isr_bd hv hr
  refine eX6_stepsOrFarthest (s_stepsTo ev hv (bdi (by omega)) (fun q => absurd hr q) (fun _ hs => ⟨bd_lit (by decide), fun q => absurd q (by decide), fun _ => ?_⟩) (fun _ hs J hJ hb => ?_))
  · have := h I BO.rf (by rw [vl_no hs]; omega)
    rw [vl_no hs] at this
    exact this
  · have hq := h J hJ (by
      rw [vl_yes hs]
      split <;> omega)
    rw [vl_yes hs] at hq
    refine ⟨bdi (by omega), fun q => ?_, fun q => ?_⟩
    · rw [if_neg (by omega)] at hq
      exact hq
    · rw [if_pos (by omega)] at hq
      exact hq
theorem b_safest {I : sh_Mem} (hI : Inv I) : Both mX6_safest mX7_safest [] I := by
  have hv := hI.wb.1
  have ec := hI.eq
  have hm := hv.many
  have hcb := hv.2.1
  refine both_read (r := (sfN (vM (I 120)) (vM (I 120) 0 6).toNat).1) hI (fun Q h => ?_) (fun J Q ev _ h => ?_)
  · have e6 : ∀ J, BO I J → J (oP + 1) 7 = vM (I 120) 0 6 := fun J hJ => by rw [rP0_6 (I := J) (b := oP), hJ.vP isP_oP, ec]
    have e1 : ∀ J, BO I J → J (oP + 1) 8 = vM (I 120) 0 1 := fun J hJ => by rw [rP0_1 (I := J) (b := oP), hJ.vP isP_oP, ec]
    have key : ∀ (n k : Nat) (J : sh_Mem), (k : Int) + (n : Int) = vM (I 120) 0 6 → BO I J → sfI (vM (I 120)) k → kk mX6_safest 27 [some (.inr 1), some (.inr (oP + 1)), some (.inl (sfN (vM (I 120)) k).1), some (.inl (sfN (vM (I 120)) k).2), some (.inl (k : Int)), none] [] J (qi Q) := by
      intro n
      induction n with
      | zero =>
        intro k J g0 g1 g2
        have a6 := e6 J g1
        refine lX6_safest_27 ⟨bdi (by omega), bdi (by omega), fun _ => ?_, fun q => absurd q (by omega)⟩
        have : k = (vM (I 120) 0 6).toNat := by omega
        rw [this]
        exact h J g1.same
      | succ n ih =>
        intro k J g0 g1 g2
        have a6 := e6 J g1
        have a1 := e1 J g1
        have hb2 : -5 ≤ (sfN (vM (I 120)) k).2 ∧ (sfN (vM (I 120)) k).2 ≤ 100 := by
          rcases g2 with z | z <;> omega
        refine lX6_safest_27 ⟨bdi (by omega), bdi (by omega), fun q => absurd q (by omega), fun q => ⟨bdi (by omega), fun q2 => s_stepsFar ((g1.vP isP_oP).trans ec) hv ⟨by omega, by omega⟩ (fun K hK hb => ⟨bdi (by omega), bdi (by omega), fun q3 => ?_, fun q3 => ?_⟩), fun q2 => ⟨bdi (by omega), fun q3 => ?_, fun q3 => ?_⟩⟩⟩
        · obtain ⟨f1, f2⟩ := sf_keep (v := vM (I 120)) (n := k) (by omega) (by omega) g2
          have := ih (k + 1) K (by omega) (g1.tr hK) f2
          rw [f1] at this
          exact this
        · obtain ⟨f1, f2⟩ := sf_take (v := vM (I 120)) (n := k) (by omega) q3 hb
          have := ih (k + 1) K (by omega) (g1.tr hK) f2
          rw [f1] at this
          exact this
        · obtain ⟨f1, f2⟩ := sf_skip (v := vM (I 120)) (n := k) (by omega) g2
          have := ih (k + 1) J (by omega) g1 f2
          rw [f1] at this
          exact this
        · rcases g2 with z | z <;> omega
    refine eX6_safest ⟨by rw [e6 I BO.rf]; exact bdi (by omega), fun _ => ?_, fun q => ?_⟩
    · exact key (vM (I 120) 0 6).toNat 0 I (by omega) BO.rf (Or.inl ⟨rfl, rfl⟩)
    · rw [e6 I BO.rf] at q
      have hz : (sfN (vM (I 120)) (vM (I 120) 0 6).toNat).1 = -5 := by
        by_cases z : vM (I 120) 0 6 = 0
        · rw [z]
          rfl
        · have z1 : (vM (I 120) 0 6).toNat = 0 + 1 := by omega
          rw [z1, (sf_skip (v := vM (I 120)) (n := 0) (by show (0 : Int) = _; omega) (Or.inl ⟨rfl, rfl⟩)).1]
          rfl
      have := h I CSame.rf
      rw [hz] at this
      exact this
  · generalize vM (I 120) = v at *
    have gv : ∀ x : Int, (if x = 100 then (1000 : Int) else x) = if x = 100 then 1000 else x := fun _ => rfl
    have key : ∀ (n k : Nat) (K : sh_Mem) (y : Int), (k : Int) + (n : Int) = v 0 6 → MW J K → sfI v k → ((sfN v k).1 = -5 ∨ y = if (sfN v k).2 = 100 then 1000 else (sfN v k).2) → (0 ≤ y ∧ y ≤ 1000) → kk mX7_safest 7 [some (.inr 119), some (.inl (sfN v k).1), some (.inl y), some (.inl (k : Int)), none, none, none] [] K (qi Q) := by
      intro n
      induction n with
      | zero =>
        intro k K y g0 g1 g2 g3 gy
        have a6 : K 120 20 = v 0 6 := by rw [← g1.v ev]; exact rM0_6
        refine lX7_safest_7 ⟨bdi (by omega), bdi (by omega), fun _ => ?_, fun q => absurd q (by omega)⟩
        have : k = (v 0 6).toNat := by omega
        rw [this]
        exact h K g1.same
      | succ n ih =>
        intro k K y g0 g1 g2 g3 gy
        have a6 : K 120 20 = v 0 6 := by rw [← g1.v ev]; exact rM0_6
        have hk : isr v (k : Int) := ⟨by omega, by omega⟩
        have hca : isr v (v 0 1) := by
          unfold isr
          omega
        have hb1 : -5 ≤ (sfN v k).1 ∧ (sfN v k).1 ≤ 6 := by
          rcases g2 with z | z <;> omega
        -- the choice, once the value is known
        have pick : ∀ (L : sh_Mem) (z : Int), MW J L → (0 ≤ vl v k ∧ vl v k ≤ 100) → z = (if vl v k = 100 then 1000 else vl v k) → kk mX7_safest 53 [some (.inr 119), some (.inl (sfN v k).1), some (.inl y), some (.inl (k : Int)), none, none, none] [.inl z] L (qi Q) := fun L z hL hvl ez => by
          have a1 : L 120 1 = v 0 1 := by rw [← hL.v ev]; exact rM0_1
          have hz : 0 ≤ z ∧ z ≤ 1000 := by
            rw [ez]
            split <;> omega
          have skip : sfN v (k + 1) = sfN v k → sfI v (k + 1) → kk mX7_safest 82 [some (.inr 119), some (.inl (sfN v k).1), some (.inl y), some (.inl (k : Int)), none, some (.inl z), none] [.inl 0] L (qi Q) := fun e i => by
            have := ih (k + 1) L y (by omega) hL i (by rw [e]; exact g3) gy
            rw [e] at this
            exact lX7_safest_82 ⟨bd_lit (by decide), fun _ => ⟨fun _ => this, fun q => absurd rfl q⟩, fun q => absurd rfl q⟩
          have take : sfN v (k + 1) = ((k : Int), vl v k) → sfI v (k + 1) → kk mX7_safest 82 [some (.inr 119), some (.inl (sfN v k).1), some (.inl y), some (.inl (k : Int)), none, some (.inl z), none] [.inl 1] L (qi Q) := fun e i => by
            have := ih (k + 1) L z (by omega) hL i (by rw [e]; exact Or.inr ez) hz
            rw [e] at this
            exact lX7_safest_82 ⟨bd_lit (by decide), fun q => absurd q (by decide), fun _ => ⟨fun q => absurd q (by decide), fun _ => this⟩⟩
          refine lX7_safest_53 ⟨bdi (by omega), by rw [a1]; exact bdi (by omega), fun q => ?_, fun q => ⟨bdi (by omega), fun q2 => ?_, fun q2 => ⟨bdi (by omega), bdi (by omega), fun q3 => ?_, fun q3 => ?_⟩⟩⟩
          · obtain ⟨f1, f2⟩ := sf_skip (v := v) (n := k) (q.trans a1) g2
            exact skip f1 f2
          · obtain ⟨f1, f2⟩ := sf_take (v := v) (n := k) (fun e => q (e.trans a1.symm)) (by rcases g2 with w | w <;> omega) hvl
            exact take f1 f2
          · have hy := g3.resolve_left q2
            obtain ⟨f1, f2⟩ := sf_keep (v := v) (n := k) (fun e => q (e.trans a1.symm)) (fun w => by
              rw [hy, ez] at q3
              have hb2 : 0 ≤ (sfN v k).2 ∧ (sfN v k).2 ≤ 100 := by
                rcases g2 with w | w <;> omega
              split at q3 <;> split at q3 <;> omega) g2
            exact skip f1 f2
          · have hy := g3.resolve_left q2
            obtain ⟨f1, f2⟩ := sf_take (v := v) (n := k) (fun e => q (e.trans a1.symm)) (by
              rw [hy, ez] at q3
              have hb2 : 0 ≤ (sfN v k).2 ∧ (sfN v k).2 ≤ 100 := by
                rcases g2 with w | w <;> omega
              split at q3 <;> split at q3 <;> omega) hvl
            exact take f1 f2
        refine lX7_safest_7 ⟨bdi (by omega), bdi (by omega), fun q => absurd q (by omega), fun q => r_isSought (g1.v ev) hv hk (fun hs L hL => Or.inl ⟨rfl, r_way ((g1.ms hL).v ev) hv hk hca (fun M hM hb => ?_)⟩) (fun hs L hL => Or.inr ⟨rfl, pick L 1000 (g1.ms hL) (by rw [vl_no hs]; omega) (by rw [vl_no hs]; rfl)⟩)⟩
        have hvl : 0 ≤ vl v k ∧ vl v k ≤ 100 := by
          rw [vl_yes hs]
          split <;> omega
        refine ⟨bdi (by omega), fun q2 => pick M _ ((g1.ms hL).tr hM) hvl ?_, fun q2 => pick M 1000 ((g1.ms hL).tr hM) hvl ?_⟩
        · rw [vl_yes hs, if_neg q2, if_neg (by omega)]
        · rw [vl_yes hs, if_pos q2]
          rfl
    exact eX7_safest (key (v 0 6).toNat 0 J 0 (by omega) MW.rf (Or.inl ⟨rfl, rfl⟩) (Or.inl rfl) (by omega))
