/-! ===== 54: a runner comes ===== -/
/-- the state with k fields of a new runner's row written -/
def upK (v : Vw) (p x : Int) (m : Nat) : Vw := fun a i => if i = v 0 6 ∧ 6 ≤ a ∧ a < 6 + m ∧ a ≤ 12 then (if a = 6 then p else if a = 7 then x else if a = 8 then 4 else 0) else v a i
theorem upK_0 {v : Vw} {p x : Int} : upK v p x 0 = v := by
  funext a i
  exact if_neg (fun z => by omega)
theorem upK_succ {v : Vw} {p x y : Int} {m : Nat} (hm : m ≤ 6) (hy : y = if m = 0 then p else if m = 1 then x else if m = 2 then 4 else 0) : up (upK v p x m) (6 + m) (v 0 6) y = upK v p x (m + 1) := by
  funext a i
  simp only [up, upK]
  by_cases z : a = 6 + m ∧ i = v 0 6
  · rw [if_pos z, if_pos ⟨z.2, by omega, by omega, by omega⟩, hy]
    by_cases m0 : m = 0
    · rw [if_pos m0, if_pos (by omega)]
    · rw [if_neg m0, if_neg (show ¬ a = 6 by omega)]
      by_cases m1 : m = 1
      · rw [if_pos m1, if_pos (by omega)]
      · rw [if_neg m1, if_neg (show ¬ a = 7 by omega)]
        by_cases m2 : m = 2
        · rw [if_pos m2, if_pos (by omega)]
        · rw [if_neg m2, if_neg (show ¬ a = 8 by omega)]
  · rw [if_neg z]
    by_cases w : i = v 0 6 ∧ 6 ≤ a ∧ a < 6 + m ∧ a ≤ 12
    · have w2 : i = v 0 6 ∧ 6 ≤ a ∧ a < 6 + (m + 1) ∧ a ≤ 12 := ⟨w.1, w.2.1, by omega, w.2.2.2⟩
      rw [if_pos w, if_pos w2]
    · rw [if_neg w, if_neg (fun u => w ⟨u.1, u.2.1, by omega, u.2.2.2⟩)]
theorem upK_end {v : Vw} {p x y : Int} (hy : y = if v 0 1 = -5 then v 0 6 else v 0 1) : (fun (a : Nat) (i : Int) => if a = 0 ∧ i = 6 then v 0 6 + 1 else if a = 0 ∧ i = 1 then y else upK v p x 7 a i) = addF v p x := by
  funext a i
  show (if a = 0 ∧ i = 6 then v 0 6 + 1 else if a = 0 ∧ i = 1 then y else upK v p x 7 a i) = addF v p x a i
  unfold addF upK
  by_cases w : i = v 0 6 ∧ 6 ≤ a ∧ a ≤ 12
  · rw [if_neg (show ¬ (a = 0 ∧ i = 6) by omega), if_neg (show ¬ (a = 0 ∧ i = 1) by omega), if_pos ⟨w.1, w.2.1, by omega, w.2.2⟩, if_pos w]
  · rw [if_neg (show ¬ (i = v 0 6 ∧ 6 ≤ a ∧ a < 6 + 7 ∧ a ≤ 12) from fun u => w ⟨u.1, u.2.1, u.2.2.2⟩), if_neg w, hy]
theorem t_comes {c : sh_Cx} (hx : cx c) {G L N : Nat} (hG : dy c G 42) (hL : dy c L 12) (hN : dy c N 9) (d : ap G L N) {x4 : Int} {I : sh_Mem} {Q : Int → sh_Mem → Prop} {v : Vw} (hI : CI I v) (e : LV I G L N v) (hA : AC v) (hz : v 0 6 = 0 → I N 1 = 0) (h : ∀ K w, Wd G L N I v K w → Q 1 K) : cl c mL_comes [.inr 1, .inr G, .inr N, .inl x4] I (li c Q) := by
  have fr : 119 ≤ G ∧ 119 ≤ L ∧ 119 ≤ N := ⟨hG.ge, hL.ge, hN.ge⟩
  have hB : WB v := hI.2.1
  have hv := hB.1
  have hm := hv.many
  have h00 := hv.2.2.2.2.2.2.2.1
  refine eL_comes hx hG hN (t_low hx (by decide) (fun p hp => fun u hu => t_low hx (by decide) (fun s hs => ?_)))
  have hsb := st_bd hv p
  have hx5 : 1 ≤ 1 + s ∧ 1 + s ≤ 5 := by omega
  have n0 : ¬ ¬ (0 ≤ p ∧ p < 100) := fun q => q hp
  have n1 : ¬ ¬ (1 ≤ 1 + s ∧ 1 + s ≤ 5) := fun q => q hx5
  obtain ⟨cb, cw, cf⟩ := comeF_ok (c := p) (x := 1 + s) hB
  have keepW : ∀ J, CI (mxM J I) v → (∀ k, k = 0 ∨ 119 ≤ k → mxM J I k = I k) → 1 ≤ v 0 6 → Wd G L N I v (mxM J I) v := fun J j1 j2 j3 => ⟨j1, e.same (j2 G (Or.inr fr.1)) (j2 L (Or.inr fr.2.1)) (j2 N (Or.inr fr.2.2)), j2 0 (Or.inl rfl), hA, by omega, j3⟩
  have e8 := e.n8
  refine t_who hx hG hN e hv (bdi (by omega)) ⟨bdi (by omega), fun q => ?_, fun q => ?_⟩
  · have hne : ¬ st v p = -5 := by omega
    have ef : comeF v p (1 + s) = (-4, v) := by
      unfold comeF
      rw [if_neg n0, if_neg n1, if_pos hne]
    have hir := (st_ne hv hne).1
    have a := a_come (c := p) (x := 1 + s) hI (bdi (by omega)) (bdi (by omega))
    rw [ef] at a cw cf
    refine a.law hI cw cf (fun J j1 j2 => ?_)
    have hW := keepW J j1 j2 (by have := hir.1; have := hir.2; omega)
    refine t_who hx hG hN hW.2.1 hv (bdi (by omega)) ⟨bdi (by omega), fun q2 => absurd q2 (by omega), fun _ => lL_comes_64 hx hG hN (okk rfl (h _ _ hW))⟩
  · have hst : st v p = -5 := by
      rcases st_spec hv p with w | w
      · exact w.1
      · have := w.1.1
        omega
    rw [e8]
    refine ⟨Or.inr ⟨bdi (by omega), bd_lit (by decide)⟩, fun q2 => ?_, fun q2 => ?_⟩
    · have ef : comeF v p (1 + s) = (v 0 6, addF v p (1 + s)) := by
        unfold comeF
        rw [if_neg n0, if_neg n1, if_neg (fun z => z hst), if_neg (by omega)]
      rw [ef] at cw cf
      have key : ∀ (n m : Nat) (K : sh_Mem), m + n = 7 → (∀ o, ¬ o = G → K o = I o) → LV K G L N (upK v p (1 + s) m) → kl c (0, 0) mL_comes 76 [some (.inr 1), some (.inr G), some (.inr N), none, some (.inl p), some (.inl (1 + s)), some (.inl (m : Int))] [] K (qli c Q) := by
        intro n
        induction n with
        | zero =>
          intro m K g0 o1 eK
          have em : m = 7 := by omega
          subst em
          have k8 : K N 8 = v 0 6 := by rw [o1 N (fun z => d.2.1 z.symm)]; exact e8
          have k1 : K N 1 = if v 0 1 = -5 then v 0 6 else v 0 1 := by
            rw [o1 N (fun z => d.2.1 z.symm)]
            rcases hv.2.1 with w | w
            · rw [hz w.1, if_pos w.2, w.1]
            · rw [e.n1 (by omega), if_neg (by omega)]
          have hK : CI (sh_u K N 8 (v 0 6 + 1)) v := hI.off (fun o ho => by rw [sh_u_ne (by omega)]; exact o1 o (by omega))
          have eW : LV (sh_u K N 8 (v 0 6 + 1)) G L N (addF v p (1 + s)) := by
            have := eK.wn8 d (x := v 0 6 + 1) (by omega)
            rw [k1, upK_end rfl] at this
            exact this
          have a := a_come (c := p) (x := 1 + s) hK (bdi (by omega)) (bdi (by omega))
          rw [ef] at a
          refine lL_comes_76 hx hG hN ⟨bd_lit (by decide), fun _ => ?_, fun z => absurd z (by decide)⟩
          rw [k8]
          refine a.law hK cw cf (fun J j1 j2 => okk ?_ (h _ (addF v p (1 + s)) ⟨j1, ?_, ?_, AC_add (by omega) h00.1 hA, ?_, ?_⟩))
          · rw [j2 N (Or.inr fr.2.2)]
            simp [sh_u]
          · exact eW.same (j2 G (Or.inr fr.1)) (j2 L (Or.inr fr.2.1)) (j2 N (Or.inr fr.2.2))
          · rw [j2 0 (Or.inl rfl), sh_u_ne (by omega)]
            exact o1 0 (by omega)
          · have e0 : addF v p (1 + s) 0 0 = v 0 0 := by simp [addF]
            omega
          · have e6 : addF v p (1 + s) 0 6 = v 0 6 + 1 := by simp [addF]
            omega
        | succ n ih =>
          intro m K g0 o1 eK
          have k8 : K N 8 = v 0 6 := by rw [o1 N (fun z => d.2.1 z.symm)]; exact e8
          have nx : ∀ y : Int, (y = if m = 0 then p else if m = 1 then 1 + s else if m = 2 then 4 else 0) → kl c (0, 0) mL_comes 76 [some (.inr 1), some (.inr G), some (.inr N), none, some (.inl p), some (.inl (1 + s)), some (.inl ((m : Int) + 1))] [] (sh_u K G ((7 * v 0 6) + (m : Int)) y) (qli c Q) := fun y hy => by
            have := ih (m + 1) (sh_u K G ((7 * v 0 6) + (m : Int)) y) (by omega) (fun o ho => by rw [sh_u_ne ho]; exact o1 o ho) (by
              rw [← upK_succ (by omega) hy]
              exact eK.wg d (6 + m) (by omega) (by omega) (by omega) rfl)
            exact this
          refine lL_comes_76 hx hG hN ?_
          rw [k8]
          refine ⟨bdi (by omega), fun z => absurd z (by omega), fun _ => ⟨fun q4 => ⟨Or.inr ⟨bdi (by omega), bd_lit (by decide)⟩, fun q5 => ⟨Or.inr ⟨bdi (by omega), bd_lit (by decide)⟩, fun q6 => ⟨by omega, nx 0 ?_⟩, fun q6 => ⟨by omega, nx 4 ?_⟩⟩, fun q5 => ⟨by omega, nx (1 + s) ?_⟩⟩, fun q4 => ⟨by omega, nx p ?_⟩⟩⟩
          · rw [if_neg (by omega), if_neg (by omega), if_neg (by omega)]
          · rw [if_neg (by omega), if_neg (by omega), if_pos (by omega)]
          · rw [if_neg (by omega), if_pos (by omega)]
          · rw [if_pos (by omega)]
      exact key 7 0 I rfl (fun _ _ => rfl) (by rw [upK_0]; exact e)
    · have ef : comeF v p (1 + s) = (-3, v) := by
        unfold comeF
        rw [if_neg n0, if_neg n1, if_neg (fun z => z hst), if_pos (by omega)]
      have a := a_come (c := p) (x := 1 + s) hI (bdi (by omega)) (bdi (by omega))
      rw [ef] at a cw cf
      refine a.law hI cw cf (fun J j1 j2 => ?_)
      have hW := keepW J j1 j2 (by omega)
      refine t_who hx hG hN hW.2.1 hv (bdi (by omega)) ⟨bdi (by omega), fun _ => lL_comes_64 hx hG hN (okk rfl (h _ _ hW)), fun q3 => absurd q3 (by omega)⟩
