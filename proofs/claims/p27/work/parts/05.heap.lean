/-! arrays -/
theorem sh_vin {i : Int} {n : Nat} (h : 0 ≤ i ∧ i < (n : Int)) (hn : n < 2147483648) : vp_in (Int32.ofInt i) n ∧ (Int32.ofInt i).toNatClampNeg = i.toNat := by
  have hb : sh_Bd i := ⟨by omega, by omega⟩
  have e : (Int32.ofInt i).toNatClampNeg = i.toNat := by
    show (Int32.ofInt i).toInt.toNat = i.toNat
    rw [sh_ti hb]
  refine ⟨?_, e⟩
  unfold vp_in
  rw [e, sh_z, sh_ltI hb sh_Bd0]
  omega
theorem sh_ia_at {I : sh_Mem} {o : Nat} {i : Int} (h : 0 ≤ i) : sh_ia I o i.toNat = Int32.ofInt (I o i) := by
  unfold sh_ia
  rw [Int.toNat_of_nonneg h]
theorem sh_narC {v : Int} (h : 0 ≤ v ∧ v < 65536) : vp_nar .char (Int32.ofInt v) = Int32.ofInt v := by
  show (Int32.ofInt v).toUInt32.toUInt16.toUInt32.toInt32 = Int32.ofInt v
  apply Int32.toInt_inj.mp
  rw [sh_ti ⟨by omega, by omega⟩]
  have e1 : ((Int32.ofInt v).toUInt32.toUInt16.toUInt32.toInt32).toBitVec = ((BitVec.ofInt 32 v).setWidth 16).setWidth 32 := rfl
  show ((Int32.ofInt v).toUInt32.toUInt16.toUInt32.toInt32).toBitVec.toInt = v
  rw [e1, BitVec.toInt_eq_toNat_of_lt]
  · simp only [BitVec.toNat_setWidth, BitVec.toNat_ofInt]
    omega
  · simp only [BitVec.toNat_setWidth, BitVec.toNat_ofInt]
    omega
theorem sh_iald {y : sh_M} {pc : Nat} {ls : List (Option sh_V)} {st : List sh_V} {cn : Nat × Nat} {n : Nat} {I : sh_Mem} {P : sh_Ptr} {Q : Option Int → sh_St → Prop} {o N : Nat} {i : Int} (hd : decode y.2.1 pc = .ok (.iaload, 1)) (hk : sh_is n o 8 N) (hN : N < 2147483648) (hi : 0 ≤ i ∧ i < (N : Int)) (h : sh_O y (pc + 1) ls (.inl (I o i) :: st) cn (n, I, P) Q) : sh_O y pc ls (.inl i :: .inr o :: st) cn (n, I, P) Q := by
  intro p l e R s m args below meth c Z D A H0 ad ac H locs la hX hA hR hL hc hret
  have he := sh_W_get (ad := ad) (ac := ac) (σ := (n, I, P)) hk
  rw [sh_E_arr (by decide) (by decide)] at he
  have hv := sh_vin hi hN
  refine va_iald hX.1 hX.2.1 (hR.1.one hk (by decide) (by decide)) hR.2.1 (o - 1) 0 he rfl hv.1 hd ?_
  rw [hv.2]
  show W p l e R s m args below meth c H locs cn.1 cn.2 Z (F0 m (pc + 1) la (.int (sh_ia I o i.toNat) :: st.map (sh_tr ad)))
  rw [sh_ia_at hi.1]
  exact h p l e R s m args below meth c Z D A H0 ad ac H locs la hX hA hR hL hc hret
theorem sh_bald {y : sh_M} {pc : Nat} {ls : List (Option sh_V)} {st : List sh_V} {cn : Nat × Nat} {n : Nat} {I : sh_Mem} {P : sh_Ptr} {Q : Option Int → sh_St → Prop} {o N : Nat} {i : Int} (hd : decode y.2.1 pc = .ok (.baload, 1)) (hk : sh_is n o 9 N) (hN : N < 2147483648) (hi : 0 ≤ i ∧ i < (N : Int)) (h : sh_O y (pc + 1) ls (.inl (I o i) :: st) cn (n, I, P) Q) : sh_O y pc ls (.inl i :: .inr o :: st) cn (n, I, P) Q := by
  intro p l e R s m args below meth c Z D A H0 ad ac H locs la hX hA hR hL hc hret
  have he := sh_W_get (ad := ad) (ac := ac) (σ := (n, I, P)) hk
  rw [sh_E_arr (by decide) (by decide)] at he
  have hv := sh_vin hi hN
  refine va_zald hX.1 hX.2.1 (hR.1.one hk (by decide) (by decide)) hR.2.1 (o - 1) 0 he rfl hv.1 hd ?_
  rw [hv.2]
  show W p l e R s m args below meth c H locs cn.1 cn.2 Z (F0 m (pc + 1) la (.int (sh_ia I o i.toNat) :: st.map (sh_tr ad)))
  rw [sh_ia_at hi.1]
  exact h p l e R s m args below meth c Z D A H0 ad ac H locs la hX hA hR hL hc hret
theorem sh_cald {y : sh_M} {pc : Nat} {ls : List (Option sh_V)} {st : List sh_V} {cn : Nat × Nat} {n : Nat} {I : sh_Mem} {P : sh_Ptr} {Q : Option Int → sh_St → Prop} {o N : Nat} {i : Int} (hd : decode y.2.1 pc = .ok (.caload, 1)) (hk : sh_is n o 10 N) (hN : N < 2147483648) (hi : 0 ≤ i ∧ i < (N : Int)) (h : sh_O y (pc + 1) ls (.inl (I o i) :: st) cn (n, I, P) Q) : sh_O y pc ls (.inl i :: .inr o :: st) cn (n, I, P) Q := by
  intro p l e R s m args below meth c Z D A H0 ad ac H locs la hX hA hR hL hc hret
  have he := sh_W_get (ad := ad) (ac := ac) (σ := (n, I, P)) hk
  rw [sh_E_arr (by decide) (by decide)] at he
  have hv := sh_vin hi hN
  refine va_cald hX.1 hX.2.1 (hR.1.one hk (by decide) (by decide)) hR.2.1 (o - 1) 0 he rfl hv.1 hd ?_
  rw [hv.2]
  show W p l e R s m args below meth c H locs cn.1 cn.2 Z (F0 m (pc + 1) la (.int (sh_ia I o i.toNat) :: st.map (sh_tr ad)))
  rw [sh_ia_at hi.1]
  exact h p l e R s m args below meth c Z D A H0 ad ac H locs la hX hA hR hL hc hret
theorem sh_iast {y : sh_M} {pc : Nat} {ls : List (Option sh_V)} {st : List sh_V} {cn : Nat × Nat} {n : Nat} {I : sh_Mem} {P : sh_Ptr} {Q : Option Int → sh_St → Prop} {o N : Nat} {i v : Int} (hd : decode y.2.1 pc = .ok (.iastore, 1)) (hk : sh_is n o 8 N) (hN : N < 2147483648) (hi : 0 ≤ i ∧ i < (N : Int))  (h : sh_O y (pc + 1) ls st cn (n, sh_u I o i v, P) Q) : sh_O y pc ls (.inl v :: .inl i :: .inr o :: st) cn (n, I, P) Q := by
  intro p l e R s m args below meth c Z D A H0 ad ac H locs la hX hA hR hL hc hret
  have he := sh_W_get (ad := ad) (ac := ac) (σ := (n, I, P)) hk
  rw [sh_E_arr (by decide) (by decide)] at he
  have hv := sh_vin hi hN
  refine va_iast hX.1 hX.2.1 (hR.1.one hk (by decide) (by decide)) hR.2.1 hR.2.2.1 hR.2.2.2.1 (o - 1) 0 he rfl hv.1 hd (fun H1 locs1 hP1 hD1 hS1 => ?_)
  have e1 : (sh_W ad ac (n, I, P)).set (o - 1) (ad o, .inl (ac o, N, .inl (upd (sh_ia I o) (Int32.ofInt i).toNatClampNeg (Int32.ofInt v)))) = sh_W ad ac (n, sh_u I o i v, P) := by
    rw [hv.2, sh_ia_set (v := v) hi.1 rfl]
    exact sh_W_set hk (fun k hk2 => sh_u_ne hk2) (fun _ _ => rfl) (sh_E_arr (by decide) (by decide))
  exact h p l e R s m args below meth c Z D A H0 ad ac H1 locs1 la hX hA (hR.putI hk.2.2 (by rw [← e1]; exact hP1) (by rw [← e1]; exact hD1) hS1) hL hc hret
theorem sh_bast {y : sh_M} {pc : Nat} {ls : List (Option sh_V)} {st : List sh_V} {cn : Nat × Nat} {n : Nat} {I : sh_Mem} {P : sh_Ptr} {Q : Option Int → sh_St → Prop} {o N : Nat} {i v : Int} (hd : decode y.2.1 pc = .ok (.bastore, 1)) (hk : sh_is n o 9 N) (hN : N < 2147483648) (hi : 0 ≤ i ∧ i < (N : Int)) (hv01 : v = 0 ∨ v = 1) (h : sh_O y (pc + 1) ls st cn (n, sh_u I o i v, P) Q) : sh_O y pc ls (.inl v :: .inl i :: .inr o :: st) cn (n, I, P) Q := by
  intro p l e R s m args below meth c Z D A H0 ad ac H locs la hX hA hR hL hc hret
  have he := sh_W_get (ad := ad) (ac := ac) (σ := (n, I, P)) hk
  rw [sh_E_arr (by decide) (by decide)] at he
  have hv := sh_vin hi hN
  refine va_zast hX.1 hX.2.1 (hR.1.one hk (by decide) (by decide)) hR.2.1 hR.2.2.1 hR.2.2.2.1 (o - 1) 0 he rfl hv.1 hd (fun H1 locs1 hP1 hD1 hS1 => ?_)
  have e1 : (sh_W ad ac (n, I, P)).set (o - 1) (ad o, .inl (ac o, N, .inl (upd (sh_ia I o) (Int32.ofInt i).toNatClampNeg (vp_nar .boolean (Int32.ofInt v))))) = sh_W ad ac (n, sh_u I o i v, P) := by
    rw [hv.2, sh_ia_set (v := v) hi.1 (by rcases hv01 with rfl | rfl <;> rfl)]
    exact sh_W_set hk (fun k hk2 => sh_u_ne hk2) (fun _ _ => rfl) (sh_E_arr (by decide) (by decide))
  exact h p l e R s m args below meth c Z D A H0 ad ac H1 locs1 la hX hA (hR.putI hk.2.2 (by rw [← e1]; exact hP1) (by rw [← e1]; exact hD1) hS1) hL hc hret
theorem sh_cast {y : sh_M} {pc : Nat} {ls : List (Option sh_V)} {st : List sh_V} {cn : Nat × Nat} {n : Nat} {I : sh_Mem} {P : sh_Ptr} {Q : Option Int → sh_St → Prop} {o N : Nat} {i v : Int} (hd : decode y.2.1 pc = .ok (.castore, 1)) (hk : sh_is n o 10 N) (hN : N < 2147483648) (hi : 0 ≤ i ∧ i < (N : Int)) (hvc : 0 ≤ v ∧ v < 65536) (h : sh_O y (pc + 1) ls st cn (n, sh_u I o i v, P) Q) : sh_O y pc ls (.inl v :: .inl i :: .inr o :: st) cn (n, I, P) Q := by
  intro p l e R s m args below meth c Z D A H0 ad ac H locs la hX hA hR hL hc hret
  have he := sh_W_get (ad := ad) (ac := ac) (σ := (n, I, P)) hk
  rw [sh_E_arr (by decide) (by decide)] at he
  have hv := sh_vin hi hN
  refine va_cast hX.1 hX.2.1 (hR.1.one hk (by decide) (by decide)) hR.2.1 hR.2.2.1 hR.2.2.2.1 (o - 1) 0 he rfl hv.1 hd (fun H1 locs1 hP1 hD1 hS1 => ?_)
  have e1 : (sh_W ad ac (n, I, P)).set (o - 1) (ad o, .inl (ac o, N, .inl (upd (sh_ia I o) (Int32.ofInt i).toNatClampNeg (vp_nar .char (Int32.ofInt v))))) = sh_W ad ac (n, sh_u I o i v, P) := by
    rw [hv.2, sh_ia_set (v := v) hi.1 (sh_narC hvc)]
    exact sh_W_set hk (fun k hk2 => sh_u_ne hk2) (fun _ _ => rfl) (sh_E_arr (by decide) (by decide))
  exact h p l e R s m args below meth c Z D A H0 ad ac H1 locs1 la hX hA (hR.putI hk.2.2 (by rw [← e1]; exact hP1) (by rw [← e1]; exact hD1) hS1) hL hc hret
theorem sh_aald {y : sh_M} {pc : Nat} {ls : List (Option sh_V)} {st : List sh_V} {cn : Nat × Nat} {n : Nat} {I : sh_Mem} {P : sh_Ptr} {Q : Option Int → sh_St → Prop} {o N q : Nat} {i : Int} (hd : decode y.2.1 pc = .ok (.aaload, 1)) (hk : sh_is n o 11 N) (hN : N < 2147483648) (hi : 0 ≤ i ∧ i < (N : Int)) (hq : P o i.toNat = some q) (h : sh_O y (pc + 1) ls (.inr q :: st) cn (n, I, P) Q) : sh_O y pc ls (.inl i :: .inr o :: st) cn (n, I, P) Q := by
  intro p l e R s m args below meth c Z D A H0 ad ac H locs la hX hA hR hL hc hret
  have he := sh_W_get (ad := ad) (ac := ac) (σ := (n, I, P)) hk
  rw [sh_E_ref] at he
  have hv := sh_vin hi hN
  refine va_aldq hX.1 hX.2.1 (hR.1.one hk (by decide) (by decide)) hR.2.1 (o - 1) 0 he rfl hv.1 hd ?_
  rw [hv.2]
  show W p l e R s m args below meth c H locs cn.1 cn.2 Z (F0 m (pc + 1) la (va_rf ((P o i.toNat).map ad) :: st.map (sh_tr ad)))
  rw [hq]
  exact h p l e R s m args below meth c Z D A H0 ad ac H locs la hX hA hR hL hc hret
theorem sh_aast {y : sh_M} {pc : Nat} {ls : List (Option sh_V)} {st : List sh_V} {cn : Nat × Nat} {n : Nat} {I : sh_Mem} {P : sh_Ptr} {Q : Option Int → sh_St → Prop} {o N q : Nat} {i : Int} (hd : decode y.2.1 pc = .ok (.aastore, 1)) (hk : sh_is n o 11 N) (hN : N < 2147483648) (hi : 0 ≤ i ∧ i < (N : Int)) (hq : sh_is n q 4 5) (h : sh_O y (pc + 1) ls st cn (n, I, sh_uP P o i.toNat q) Q) : sh_O y pc ls (.inr q :: .inl i :: .inr o :: st) cn (n, I, P) Q := by
  intro p l e R s m args below meth c Z D A H0 ad ac H locs la hX hA hR hL hc hret
  have he := sh_W_get (ad := ad) (ac := ac) (σ := (n, I, P)) hk
  rw [sh_E_ref] at he
  have heq := sh_W_get (ad := ad) (ac := ac) (σ := (n, I, P)) hq
  rw [sh_E_obj (by decide)] at heq
  have hv := sh_vin hi hN
  refine va_astq hX.1 hX.2.1 (hR.1.one hk (by decide) (by decide)) hR.2.1 hR.2.2.1 hR.2.2.2.1 (o - 1) 0 (q - 1) 4 he rfl heq rfl hv.1 hd (fun H1 locs1 hP1 hD1 hS1 => ?_)
  have e1 : (sh_W ad ac (n, I, P)).set (o - 1) (ad o, .inl (ac o, N, .inr (.inr (.inr (.inr (va_up (fun j => (P o j).map ad) (Int32.ofInt i).toNatClampNeg (some (ad q)))))))) = sh_W ad ac (n, I, sh_uP P o i.toNat q) := by
    rw [hv.2]
    refine sh_W_set hk (fun _ _ => rfl) (fun k hk2 => sh_uP_ne hk2) ?_
    rw [sh_E_ref]
    congr 7
    funext j
    by_cases hj : j = i.toNat
    · simp [va_up, sh_uP, hj]
    · simp [va_up, sh_uP, hj]
  obtain ⟨a1, -, -, -, b1, c1, d1, g1, j1⟩ := hR
  refine h p l e R s m args below meth c Z D A H0 ad ac H1 locs1 la hX hA ⟨a1, by rw [← e1]; exact hP1, by rw [← e1]; exact hD1, hS1, b1, c1, d1, fun o' f' q' hq' => ?_, j1⟩ hL hc hret
  have hq2 : sh_uP P o i.toNat q o' f' = some q' := hq'
  simp only [sh_uP] at hq2
  split at hq2
  · cases hq2
    exact hq.1
  · exact g1 o' f' q' hq2
theorem sh_alen {y : sh_M} {pc : Nat} {ls : List (Option sh_V)} {st : List sh_V} {cn : Nat × Nat} {n : Nat} {I : sh_Mem} {P : sh_Ptr} {Q : Option Int → sh_St → Prop} {o ci N : Nat} {v : Int} (hd : decode y.2.1 pc = .ok (.arraylength, 1)) (hk : sh_is n o ci N) (h8 : 8 ≤ ci) (h12 : ci < 12) (hv : (N : Int) = v) (h : sh_O y (pc + 1) ls (.inl v :: st) cn (n, I, P) Q) : sh_O y pc ls (.inr o :: st) cn (n, I, P) Q := by
  intro p l e R s m args below meth c Z D A H0 ad ac H locs la hX hA hR hL hc hret
  have he := sh_W_get (ad := ad) (ac := ac) (σ := (n, I, P)) hk
  subst hv
  have hx : ∃ x : vp_A, sh_E ad ac I P o (ci, N) = .inl (ac o, x) ∧ x.1 = N := by
    have h3 : ¬ ci < 8 := by omega
    have h4 : ¬ ci = 12 := by omega
    exact ⟨_, by simp only [sh_E, sh_len, h3, if_false, if_neg h4]; rfl, rfl⟩
  obtain ⟨x, hx1, hx2⟩ := hx
  have he2 : (sh_W ad ac (n, I, P))[o - 1]? = some (ad o, .inl (ac o, x)) := by rw [← hx1]; exact he
  exact va_alen hX.1 hX.2.1 (hR.1.one hk h8 (by omega)) hR.2.1 (o - 1) 0 he2 rfl (v := Int32.ofInt (N : Int)) (by rw [hx2]; rfl) hd (h p l e R s m args below meth c Z D A H0 ad ac H locs la hX hA hR hL hc hret)
/-- the script: object 0, its length at place 0, its ints behind -/
theorem sh_slen {y : sh_M} {pc : Nat} {ls : List (Option sh_V)} {st : List sh_V} {cn : Nat × Nat} {n : Nat} {I : sh_Mem} {P : sh_Ptr} {Q : Option Int → sh_St → Prop} (hd : decode y.2.1 pc = .ok (.arraylength, 1)) (hL0 : 0 ≤ I 0 0) (h : sh_O y (pc + 1) ls (.inl (I 0 0) :: st) cn (n, I, P) Q) : sh_O y pc ls (.inr 0 :: st) cn (n, I, P) Q := by
  intro p l e R s m args below meth c Z D A H0 ad ac H locs la hX hA hR hL hc hret
  have hk := h p l e R s m args below meth c Z D A H0 ad ac H locs la hX hA hR hL hc hret
  refine va_slen hX.1 hX.2.1 hR.2.2.2.2.1 hR.2.2.2.2.2.1 hR.2.2.2.2.2.2.1 hR.2.2.2.1 hd ?_
  have ee : Int32.ofNat (I 0 0).toNat = Int32.ofInt (I 0 0) := by
    rw [← Int32.ofInt_eq_ofNat, Int.toNat_of_nonneg hL0]
  show W p l e R s m args below meth c H locs cn.1 cn.2 Z (F0 m (pc + 1) la (.int (Int32.ofNat (I 0 0).toNat) :: st.map (sh_tr ad)))
  rw [ee]
  exact hk
theorem sh_sld {y : sh_M} {pc : Nat} {ls : List (Option sh_V)} {st : List sh_V} {cn : Nat × Nat} {n : Nat} {I : sh_Mem} {P : sh_Ptr} {Q : Option Int → sh_St → Prop} {i : Int} (hd : decode y.2.1 pc = .ok (.iaload, 1)) (hi : 0 ≤ i ∧ i < I 0 0) (hB : I 0 0 < 2147483648) (h : sh_O y (pc + 1) ls (.inl (I 0 (i + 1)) :: st) cn (n, I, P) Q) : sh_O y pc ls (.inl i :: .inr 0 :: st) cn (n, I, P) Q := by
  intro p l e R s m args below meth c Z D A H0 ad ac H locs la hX hA hR hL hc hret
  have hk := h p l e R s m args below meth c Z D A H0 ad ac H locs la hX hA hR hL hc hret
  have hv := sh_vin (i := i) (n := (I 0 0).toNat) (by omega) (by omega)
  refine va_sld hX.1 hX.2.1 hR.2.2.2.2.1 hR.2.2.2.2.2.1 hR.2.2.2.2.2.2.1 hR.2.2.2.1 hv.1 hd ?_
  rw [hv.2]
  show W p l e R s m args below meth c H locs cn.1 cn.2 Z (F0 m (pc + 1) la (.int (Int32.ofInt (I 0 (((i.toNat : Nat) : Int) + 1))) :: st.map (sh_tr ad)))
  rw [Int.toNat_of_nonneg hi.1]
  exact hk
/-! returns -/
theorem sh_iret {y : sh_M} {pc : Nat} {ls : List (Option sh_V)} {st : List sh_V} {cn : Nat × Nat} {n : Nat} {I : sh_Mem} {P : sh_Ptr} {Q : Option Int → sh_St → Prop} {v : Int} {ty : FieldType} (hd : decode y.2.1 pc = .ok (.ireturn, 1)) (ht : y.2.2.2.1 = some ty) (hv : narrow ty (.int (Int32.ofInt v)) = .int (Int32.ofInt v)) (h : Q (some v) (n, I, P)) : sh_O y pc ls [.inl v] cn (n, I, P) Q := by
  intro p l e R s m args below meth c Z D A H0 ad ac H locs la hX hA hR hL hc hret
  exact W.widen hc.1 hc.2 (hret (some v) (n, I, P) ad ac H locs la pc h hR (fun _ => ⟨rfl, rfl⟩) (fun _ _ => ⟨rfl, rfl⟩) (Nat.le_refl _) ⟨hd, ty, ht, hv⟩)
theorem sh_vret {y : sh_M} {pc : Nat} {ls : List (Option sh_V)} {st : List sh_V} {cn : Nat × Nat} {n : Nat} {I : sh_Mem} {P : sh_Ptr} {Q : Option Int → sh_St → Prop} (hd : decode y.2.1 pc = .ok (.return_, 1)) (ht : y.2.2.2.1 = none) (h : Q none (n, I, P)) : sh_O y pc ls [] cn (n, I, P) Q := by
  intro p l e R s m args below meth c Z D A H0 ad ac H locs la hX hA hR hL hc hret
  exact W.widen hc.1 hc.2 (hret none (n, I, P) ad ac H locs la pc h hR (fun _ => ⟨rfl, rfl⟩) (fun _ _ => ⟨rfl, rfl⟩) (Nat.le_refl _) ⟨hd, ht⟩)
/-! making objects -/
theorem sh_catsum (ad : Nat → Nat) (st : List sh_V) : ((st.map (sh_tr ad)).map fun v => v.category).sum = st.length := by
  induction st with
  | nil => rfl
  | cons v st ih => simp only [List.map_cons, List.sum_cons, sh_tr_cat, ih, List.length_cons]; omega
def sh_noref (n : Nat) (st : List sh_V) : Prop := ∀ o : Nat, Sum.inr o ∈ st → o < n
theorem sh_tr_same {ad ad' : Nat → Nat} {n : Nat} {st : List sh_V} (h : sh_noref n st) (he : ∀ k, k < n → ad' k = ad k) : st.map (sh_tr ad') = st.map (sh_tr ad) := by
  apply List.map_congr_left
  intro v hv
  cases v with
  | inl z => rfl
  | inr o => simp only [sh_tr, he o (h o hv)]
theorem sh_L.same {ad ad' : Nat → Nat} {la : Array Slot} {n k : Nat} {ls : List (Option sh_V)} (h : sh_L ad la n ls) (hr : ∀ o : Nat, some (Sum.inr o) ∈ ls → o < k) (he : ∀ j, j < k → ad' j = ad j) : sh_L ad' la n ls := by
  refine ⟨h.1, h.2.1, fun i v hi => ?_⟩
  rw [h.2.2 i v hi]
  cases v with
  | inl z => rfl
  | inr o => simp only [sh_tr, he o (hr o (List.mem_of_getElem? hi))]
theorem sh_E_same {ad ad' : Nat → Nat} {ac ac' : Nat → ClassId} {n o : Nat} {I : sh_Mem} {P : sh_Ptr} {kd : Nat × Nat} (ho : o < n) (hP : ∀ o f q, P o f = some q → q < n) (he : ∀ k, k < n → ad' k = ad k ∧ ac' k = ac k) : sh_E ad' ac' I P o kd = sh_E ad ac I P o kd := by
  have h1 : ∀ f, (P o f).map ad' = (P o f).map ad := by
    intro f
    cases hq : P o f with
    | none => rfl
    | some q => simp only [Option.map_some, (he q (hP o f q hq)).1]
  simp only [sh_E, sh_fs, h1, (he o ho).2]
theorem sh_W_same {ad ad' : Nat → Nat} {ac ac' : Nat → ClassId} {n : Nat} {I : sh_Mem} {P : sh_Ptr} (hP : ∀ o f q, P o f = some q → q < n) (he : ∀ k, k < n → ad' k = ad k ∧ ac' k = ac k) : sh_W ad' ac' (n, I, P) = sh_W ad ac (n, I, P) := by
  apply List.map_congr_left
  intro k hk
  have hk2 : k < n - 1 := List.mem_range.mp hk
  rw [sh_E_same (by omega) hP he, (he (k + 1) (by omega)).1]
theorem sh_W_push {ad : Nat → Nat} {ac : Nat → ClassId} {n : Nat} {I : sh_Mem} {P : sh_Ptr} (h0 : 0 < n) : sh_W ad ac (n + 1, I, P) = sh_W ad ac (n, I, P) ++ [(ad n, sh_E ad ac I P n (sh_KD n))] := by
  have e : n + 1 - 1 = (n - 1) + 1 := by omega
  have e2 : n - 1 + 1 = n := by omega
  simp only [sh_W]
  rw [e, List.range_succ, List.map_append, List.map_cons, List.map_nil, e2]
def sh_ext {α : Type} (ad : Nat → α) (n : Nat) (q : α) : Nat → α := fun k => if k = n then q else ad k
theorem sh_ext_lt {α : Type} {ad : Nat → α} {n k : Nat} {q : α} (h : k < n) : sh_ext ad n q k = ad k := by
  have : ¬ k = n := by omega
  simp [sh_ext, this]
theorem sh_ext_self {α : Type} {ad : Nat → α} {n : Nat} {q : α} : sh_ext ad n q n = q := by simp [sh_ext]
/-- behind the making of the object n, of a kind that the plan foresees -/
theorem sh_made {y : sh_M} {pc1 : Nat} {ls : List (Option sh_V)} {st : List sh_V} {cn : Nat × Nat} {n ci N M : Nat} {I : sh_Mem} {P : sh_Ptr} {Q : Option Int → sh_St → Prop}
    {p : Program} {l : Launch} {e : Env} {R : Room} {s : State} {m : MethodId} {args : Array Value} {below : List Frame} {meth : Method} {c : Code} {Z : State → Prop}
    {D : va_G} {A : Nat → Prop} {H0 : Heap} {ad : Nat → Nat} {ac : Nat → ClassId} {H : Heap} {locs : List Loc} {la : Array Slot}
    (hX : sh_X y p R s m args meth c) (hA : ∀ q, H0.size ≤ q → A q) (hR : sh_R D ad ac (n, I, P) A s H0 H locs) (hL : sh_L ad la y.2.2.1 ls) (hmc : cn.1 + 1 ≤ y.2.2.2.2.2.1 ∧ cn.2 + M ≤ y.2.2.2.2.2.2)
    (hret : ∀ (r : Option Int) (σ' : sh_St) (ad' : Nat → Nat) (ac' : Nat → ClassId) (H' : Heap) (locs' : List Loc) (la' : Array Slot) (pc' : Nat), Q r σ' → sh_R D ad' ac' σ' A s H0 H' locs' →
      (y.2.2.2.2.2.1 = 0 → ad' = ad ∧ ac' = ac) → (∀ k, k < n → ad' k = ad k ∧ ac' k = ac k) → n ≤ σ'.1 → sh_ret y pc' r →
      W p l e R s m args below meth c H' locs' y.2.2.2.2.2.1 y.2.2.2.2.2.2 Z (F0 m pc' la' (r.map (fun z => Value.int (Int32.ofInt z))).toList))
    (hst : sh_noref n st) (hls : ∀ o : Nat, some (Sum.inr o) ∈ ls → o < n) (hk : sh_KD n = (ci, N))
    (h : sh_O y pc1 ls (.inr n :: st) (cn.1 + 1, cn.2 + M) (n + 1, I, P) Q)
    {q : Nat} {cA : ClassId} {H1 : Heap} {E : va_E} (hE : sh_E (sh_ext ad n q) (sh_ext ac n cA) I P n (ci, N) = E)
    (hK : 8 ≤ ci → ci < 13 → ArrOfT s cA (sh_et ci) ∧ va_RA s cA (sh_et ci))
    (hP1 : va_P D vwCl (sh_W ad ac (n, I, P) ++ [(q, E)]) H1) (hD1 : va_D A (sh_W ad ac (n, I, P) ++ [(q, E)])) (hS1 : va_S A H0 H1 locs) :
    W p l e R s m args below meth c H1 locs (cn.1 + 1) (cn.2 + M) Z (F0 m pc1 la (.ref q :: st.map (sh_tr ad))) := by
  obtain ⟨a1, a2, a3, a4, b1, c1, d1, g1, j1⟩ := hR
  have hsame : ∀ k, k < n → sh_ext ad n q k = ad k ∧ sh_ext ac n cA k = ac k := fun k hk => ⟨sh_ext_lt hk, sh_ext_lt hk⟩
  have eW : sh_W (sh_ext ad n q) (sh_ext ac n cA) (n + 1, I, P) = sh_W ad ac (n, I, P) ++ [(q, E)] := by
    rw [sh_W_push j1, sh_W_same g1 hsame, hk, hE, sh_ext_self]
  have est : (Value.ref q :: st.map (sh_tr ad)) = (Sum.inr n :: st).map (sh_tr (sh_ext ad n q)) := by
    rw [List.map_cons, sh_tr_same hst (fun k hk => (hsame k hk).1)]
    show _ = Value.ref (sh_ext ad n q n) :: _
    rw [sh_ext_self]
  rw [est]
  refine h p l e R s m args below meth c Z D A H0 (sh_ext ad n q) (sh_ext ac n cA) H1 locs la hX hA ⟨⟨a1.1, fun o ci' N' ho h8 h12 => ?_, a1.2.2.1, a1.2.2.2⟩, by rw [eW]; exact hP1, by rw [eW]; exact hD1, hS1, ?_, ?_, ?_, fun o f q' hq' => Nat.lt_succ_of_lt (g1 o f q' hq'), Nat.succ_pos _⟩ (hL.same hls (fun k hk => (hsame k hk).1)) hmc ?_
  · by_cases hon : o = n
    · subst hon
      have hk2 := ho.2.1
      rw [hk] at hk2
      cases hk2
      rw [sh_ext_self]
      exact hK h8 h12
    · have h1 : o < n + 1 := ho.1
      have hlt : o < n := by omega
      rw [(hsame o hlt).2]
      exact a1.2.1 o ci' N' ⟨hlt, ho.2.1, ho.2.2⟩ h8 h12
  · rw [(hsame 0 j1).1]
    exact b1
  · rw [(hsame 0 j1).1]
    exact c1
  · rw [(hsame 0 j1).1]
    exact d1
  · intro r σ' ad' ac' H' locs' la' pc' hQ hR' h0 hs hle hr
    exact hret r σ' ad' ac' H' locs' la' pc' hQ hR' (fun h9 => absurd h9 (by omega)) (fun k hk => ⟨(hs k (Nat.lt_succ_of_lt hk)).1.trans (hsame k hk).1, (hs k (Nat.lt_succ_of_lt hk)).2.trans (hsame k hk).2⟩) (Nat.le_of_succ_le hle) hr
theorem sh_new {y : sh_M} {pc : Nat} {ls : List (Option sh_V)} {st : List sh_V} {cn : Nat × Nat} {n : Nat} {I : sh_Mem} {P : sh_Ptr} {Q : Option Int → sh_St → Prop} {idx ci N : Nat} {C : String} {T : u_T} (hd : decode y.2.1 pc = .ok (.new idx, 3)) (hC : sh_cls ci C T N) (hw1 : Cond.classLink y.1.cls idx C ∈ sh_ws) (hw2 : Cond.instantiable C N ∈ sh_ws) (hw3 : Cond.initialized C ∈ sh_ws) (hk : sh_KD n = (ci, N)) (hz : ∀ f, I n f = 0) (hzP : ∀ f, P n f = none) (hdef : ∀ f, f < N → defaultValue (sh_ty ci f) = if sh_isr (sh_ty ci f) then Value.null else Value.int 0)
    (hst : sh_noref n st) (hls : ∀ o : Nat, some (Sum.inr o) ∈ ls → o < n) (hmc : cn.1 + 1 ≤ y.2.2.2.2.2.1 ∧ cn.2 + N ≤ y.2.2.2.2.2.2) (h : sh_O y (pc + 3) ls (.inr n :: st) (cn.1 + 1, cn.2 + N) (n + 1, I, P) Q) : sh_O y pc ls st cn (n, I, P) Q := by
  intro p l e R s m args below meth c Z D A H0 ad ac H locs la hX hA hR hL hc hret
  obtain ⟨h1, h2, h3, h4, h5⟩ := hC
  have hRR : y.2.2.2.2.2.1 = R.cells ∧ y.2.2.2.2.2.2 = R.slots := by rw [hX.2.2.2.2.2.2]; exact ⟨rfl, rfl⟩
  refine va_new (ci := ci) (fs := sh_fs ad I P n ci N) hX.1 hX.2.1 hX.2.2.2.2.1 h2 (sh_ty ci) h3 hX.2.2.2.1 (hX.2.2.2.2.1 _ hw1) (hX.2.2.2.2.1 _ hw2) (hX.2.2.2.2.1 _ hw3) hR.1.none hR.2.1 hR.2.2.1 hR.2.2.2.1 hA h1 (fun j hj => ?_) (by rw [← hRR.1]; exact hmc.1) (by rw [← hRR.2]; exact hmc.2) hd (fun q H1 hP1 hD1 hS1 => ?_)
  · have hv := sh_fs_get (ad := ad) (I := I) (P := P) (k := n) (ci := ci) hj
    rw [hz, hzP] at hv
    unfold vp_V
    rw [List.getD_eq_getElem?_getD, hv, hdef j hj]
    cases sh_isr (sh_ty ci j) <;> rfl
  · refine sh_made (cA := D.1 0) hX hA hR hL hmc hret hst hls hk h ?_ (fun h8 => absurd h8 (by omega)) hP1 hD1 hS1
    rw [sh_E_obj h5]
    congr 2
    simp only [sh_fs, hzP, Option.map_none]
theorem sh_newa {y : sh_M} {pc : Nat} {ls : List (Option sh_V)} {st : List sh_V} {cn : Nat × Nat} {n : Nat} {I : sh_Mem} {P : sh_Ptr} {Q : Option Int → sh_St → Prop} {atype : ArrayType} {ci N : Nat} {z : Int} (hd : decode y.2.1 pc = .ok (.newarray atype, 2)) (hty : newarray.typeOf atype = sh_et ci) (hci : ci = 8 ∨ ci = 9 ∨ ci = 10) (hw : Cond.arrayClass (newarray.typeOf atype) ∈ sh_ws) (hzN : z = (N : Int)) (hN : N ≤ 100000) (hk : sh_KD n = (ci, N)) (hz : ∀ f, I n f = 0) (hzP : ∀ f, P n f = none)
    (hst : sh_noref n st) (hls : ∀ o : Nat, some (Sum.inr o) ∈ ls → o < n) (hmc : cn.1 + 1 ≤ y.2.2.2.2.2.1 ∧ cn.2 + N ≤ y.2.2.2.2.2.2) (h : sh_O y (pc + 2) ls (.inr n :: st) (cn.1 + 1, cn.2 + N) (n + 1, I, P) Q) : sh_O y pc ls (.inl z :: st) cn (n, I, P) Q := by
  intro p l e R s m args below meth c Z D A H0 ad ac H locs la hX hA hR hL hc hret
  have hRR : y.2.2.2.2.2.1 = R.cells ∧ y.2.2.2.2.2.2 = R.slots := by rw [hX.2.2.2.2.2.2]; exact ⟨rfl, rfl⟩
  subst hzN
  have hb : sh_Bd (N : Int) := ⟨by omega, by omega⟩
  have hia : sh_ia I n = fun _ => (0 : Int32) := by
    funext j
    simp only [sh_ia, hz]
    rfl
  refine va_newa (N' := N) (a0 := (N, .inl (sh_ia I n))) hX.1 hX.2.1 (hX.2.2.2.2.1 _ hw) hty hR.1.none hR.2.1 hR.2.2.1 hR.2.2.2.1 hA (fun cA => ?_) ?_ ?_ ?_ (by rw [← hRR.1]; exact hmc.1) (by rw [← hRR.2]; exact hmc.2) hd (fun q cA H1 hK1 hP1 hD1 hS1 => ?_)
  · rw [hia, vp_cell_i]
    rcases hci with rfl | rfl | rfl <;> rfl
  · rw [sh_z, sh_ltI hb sh_Bd0]
    omega
  · show (Int32.ofInt (N : Int)).toInt.toNat = N
    rw [sh_ti hb]
    rfl
  · have : componentBytes (sh_et ci) ≤ 4 := by rcases hci with rfl | rfl | rfl <;> decide
    calc N * componentBytes (sh_et ci) ≤ 100000 * 4 := Nat.mul_le_mul hN this
      _ ≤ 536870912 := by decide
  · refine sh_made (cA := cA) hX hA hR hL hmc hret hst hls hk h ?_ (fun _ _ => ?_) hP1 hD1 hS1
    · rw [sh_E_arr (by omega) (by omega), sh_ext_self]
    · exact hK1.2 0 (cA, sh_et ci) rfl
theorem sh_newq {y : sh_M} {pc : Nat} {ls : List (Option sh_V)} {st : List sh_V} {cn : Nat × Nat} {n : Nat} {I : sh_Mem} {P : sh_Ptr} {Q : Option Int → sh_St → Prop} {idx N : Nat} {z : Int} (hd : decode y.2.1 pc = .ok (.anewarray idx, 3)) (hw : Cond.classLink y.1.cls idx RX4 ∈ sh_ws) (hzN : z = (N : Int)) (hN : N ≤ 100000) (hk : sh_KD n = (11, N)) (hzP : ∀ f, P n f = none)
    (hst : sh_noref n st) (hls : ∀ o : Nat, some (Sum.inr o) ∈ ls → o < n) (hmc : cn.1 + 1 ≤ y.2.2.2.2.2.1 ∧ cn.2 + N ≤ y.2.2.2.2.2.2) (h : sh_O y (pc + 3) ls (.inr n :: st) (cn.1 + 1, cn.2 + N) (n + 1, I, P) Q) : sh_O y pc ls (.inl z :: st) cn (n, I, P) Q := by
  intro p l e R s m args below meth c Z D A H0 ad ac H locs la hX hA hR hL hc hret
  have hRR : y.2.2.2.2.2.1 = R.cells ∧ y.2.2.2.2.2.2 = R.slots := by rw [hX.2.2.2.2.2.2]; exact ⟨rfl, rfl⟩
  subst hzN
  have hb : sh_Bd (N : Int) := ⟨by omega, by omega⟩
  refine va_newq (N' := N) hX.1 hX.2.1 hX.2.2.2.1 (hX.2.2.2.2.1 _ hw) hR.1.2.2.2 hR.1.none hR.2.1 hR.2.2.1 hR.2.2.2.1 hA ?_ ?_ (by omega) (by rw [← hRR.1]; exact hmc.1) (by rw [← hRR.2]; exact hmc.2) hd (fun q cA H1 hK1 hP1 hD1 hS1 => ?_)
  · rw [sh_z, sh_ltI hb sh_Bd0]
    omega
  · show (Int32.ofInt (N : Int)).toInt.toNat = N
    rw [sh_ti hb]
    rfl
  · refine sh_made (cA := cA) hX hA hR hL hmc hret hst hls hk h ?_ (fun _ _ => ?_) hP1 hD1 hS1
    · rw [sh_E_ref, sh_ext_self]
      congr 7
      funext j
      simp [hzP]
    · exact hK1.2 0 (cA, .object RX4) rfl
theorem sh_objInit {y : sh_M} {pc : Nat} {ls : List (Option sh_V)} {st : List sh_V} {cn : Nat × Nat} {σ : sh_St} {Q : Option Int → sh_St → Prop} {idx o : Nat} (hd : decode y.2.1 pc = .ok (.invokespecial idx, 3)) (hw1 : Cond.methodLink y.1.cls idx objectInit ∈ sh_ws) (hw2 : Cond.instanceMethod objectInit ∈ sh_ws) (hw3 : Cond.code objectInit ⟨#[0xb1]⟩ 1 none ∈ sh_ws) (hfr : 1 ≤ y.2.2.2.2.1.1) (hlo : 20 ≤ y.2.2.2.2.1.2) (hst : st.length ≤ 8) (h : sh_O y (pc + 3) ls st cn σ Q) : sh_O y pc ls (.inr o :: st) cn σ Q := by
  intro p l e R s m args below meth c Z D A H0 ad ac H locs la hX hA hR hL hc hret
  have hRR : y.2.2.2.2.1.1 = R.frames ∧ y.2.2.2.2.1.2 = R.locals := by rw [hX.2.2.2.2.2.2]; exact ⟨rfl, rfl⟩
  refine W.objInit hX.1 hX.2.1 hX.2.2.2.1 (hX.2.2.2.2.1 _ hw1) (hX.2.2.2.2.1 _ hw2) (hX.2.2.2.2.1 _ hw3) rfl (by rw [hX.2.2.1]; exact hL.1) rfl hd (by rw [← hRR.1]; exact hfr) ?_ ?_
  · have hs := sh_catsum ad st
    show 2 * 0 + ((st.map (sh_tr ad)).map fun v => v.category).sum + 12 ≤ R.locals
    rw [hs, ← hRR.2]
    omega
  · exact h p l e R s m args below meth c Z D A H0 ad ac H locs la hX hA hR hL hc hret
theorem sh_min {y : sh_M} {pc : Nat} {ls : List (Option sh_V)} {st : List sh_V} {cn : Nat × Nat} {σ : sh_St} {Q : Option Int → sh_St → Prop} {idx : Nat} {a b : Int} (hd : decode y.2.1 pc = .ok (.invokestatic idx, 3)) (hw1 : Cond.methodLink y.1.cls idx Lib.Math.min.name ∈ sh_ws) (hw2 : Cond.static Lib.Math.min.name ∈ sh_ws) (hw3 : Cond.initialized "java/lang/Math" ∈ sh_ws) (hw4 : Cond.code Lib.Math.min.name Lib.Math.min.code 2 (some .int) ∈ sh_ws) (hfr : 1 ≤ y.2.2.2.2.1.1) (hlo : 30 ≤ y.2.2.2.2.1.2) (hst : st.length ≤ 8) (ha : sh_Bd a) (hb : sh_Bd b) (h : sh_O y (pc + 3) ls (.inl (min a b) :: st) cn σ Q) : sh_O y pc ls (.inl b :: .inl a :: st) cn σ Q := by
  intro p l e R s m args below meth c Z D A H0 ad ac H locs la hX hA hR hL hc hret
  have hRR : y.2.2.2.2 = ((R.frames, R.locals), (R.cells, R.slots)) := by rw [hX.2.2.2.2.2.2]; rfl
  rw [hRR] at hfr hlo
  have hc2 := hc
  rw [hRR] at hc2
  refine va_mmin hX.1 hX.2.1 (by rw [hX.2.2.1]; exact hL.1.symm) hX.2.2.2.1 (hX.2.2.2.2.1 _ hw1) (hX.2.2.2.2.1 _ hw2) (hX.2.2.2.2.1 _ hw3) (hX.2.2.2.2.1 _ hw4) hfr ?_ hc2.1 hc2.2 hd ?_
  · have hs := sh_catsum ad st
    rw [hs]
    have : 30 ≤ R.locals := hlo
    omega
  · have ee : (if Int32.ofInt b < Int32.ofInt a then Int32.ofInt b else Int32.ofInt a) = Int32.ofInt (min a b) := by
      by_cases hba : b < a
      · rw [if_pos ((sh_ltI hb ha).mpr hba), Int.min_eq_right (by omega)]
      · rw [if_neg (fun q => hba ((sh_ltI hb ha).mp q)), Int.min_eq_left (by omega)]
    rw [ee]
    exact h p l e R s m args below meth c Z D A H0 ad ac H locs la hX hA hR hL hc hret
def sh_cpy (I : sh_Mem) (src dst : Nat) (sp dp k : Int) : sh_Mem := fun a b => if a = dst ∧ dp ≤ b ∧ b < dp + k then I src (sp + (b - dp)) else I a b
theorem sh_copy {y : sh_M} {pc : Nat} {ls : List (Option sh_V)} {st : List sh_V} {cn : Nat × Nat} {n : Nat} {I : sh_Mem} {P : sh_Ptr} {Q : Option Int → sh_St → Prop} {idx o1 o2 N1 N2 : Nat} {k sp dp : Int} (hd : decode y.2.1 pc = .ok (.invokestatic idx, 3)) (hw1 : Cond.methodLink y.1.cls idx arraycopyName ∈ sh_ws) (hw2 : Cond.native arraycopyName ∈ sh_ws) (hw3 : Cond.static arraycopyName ∈ sh_ws) (hw4 : Cond.initialized "java/lang/System" ∈ sh_ws) (hfr : 1 ≤ y.2.2.2.2.1.1) (hlo : 60 ≤ y.2.2.2.2.1.2) (hst : st.length ≤ 8) (hk1 : sh_is n o1 8 N1) (hk2 : sh_is n o2 8 N2) (hN1 : N1 < 2147483648) (hN2 : N2 < 2147483648)
    (h0 : 0 ≤ k ∧ 0 ≤ sp ∧ 0 ≤ dp) (h1 : sp + k ≤ (N1 : Int)) (h2 : dp + k ≤ (N2 : Int)) (h : sh_O y (pc + 3) ls st cn (n, sh_cpy I o1 o2 sp dp k, P) Q) : sh_O y pc ls (.inl k :: .inl dp :: .inr o2 :: .inl sp :: .inr o1 :: st) cn (n, I, P) Q := by
  intro p l e R s m args below meth c Z D A H0 ad ac H locs la hX hA hR hL hc hret
  have hRR : y.2.2.2.2 = ((R.frames, R.locals), (R.cells, R.slots)) := by rw [hX.2.2.2.2.2.2]; rfl
  rw [hRR] at hfr hlo
  have he1 := sh_W_get (ad := ad) (ac := ac) (σ := (n, I, P)) hk1
  rw [sh_E_arr (by decide) (by decide)] at he1
  have he2 := sh_W_get (ad := ad) (ac := ac) (σ := (n, I, P)) hk2
  rw [sh_E_arr (by decide) (by decide)] at he2
  have bk : sh_Bd k := ⟨by omega, by omega⟩
  have bs : sh_Bd sp := ⟨by omega, by omega⟩
  have bd : sh_Bd dp := ⟨by omega, by omega⟩
  have ek : (Int32.ofInt k).toNatClampNeg = k.toNat := by show (Int32.ofInt k).toInt.toNat = _; rw [sh_ti bk]
  have es : (Int32.ofInt sp).toNatClampNeg = sp.toNat := by show (Int32.ofInt sp).toInt.toNat = _; rw [sh_ti bs]
  have ed : (Int32.ofInt dp).toNatClampNeg = dp.toNat := by show (Int32.ofInt dp).toInt.toNat = _; rw [sh_ti bd]
  have hK2 : va_K D vwCl [(ac o1, .int), (ac o2, .int)] s := by
    refine ⟨hR.1.1, fun j q hq => ?_⟩
    match j, hq with
    | 0, hq => cases hq; exact hR.1.2.1 o1 8 N1 hk1 (by decide) (by decide)
    | 1, hq => cases hq; exact hR.1.2.1 o2 8 N2 hk2 (by decide) (by decide)
    | j + 2, hq => simp at hq
  refine va_copyi hX.1 hX.2.1 (by rw [hX.2.2.1]; exact hL.1.symm) hX.2.2.2.1 (hX.2.2.2.2.1 _ hw1) (hX.2.2.2.2.1 _ hw2) (hX.2.2.2.2.1 _ hw3) (hX.2.2.2.2.1 _ hw4) hK2 hR.2.1 hR.2.2.1 hR.2.2.2.1 (o1 - 1) (o2 - 1) 0 1 he1 he2 rfl rfl rfl ?_ ?_ ?_ ?_ ?_ (fun i _ => rfl) hfr ?_ hd (fun H1 locs1 hP1 hD1 hS1 => ?_)
  · rw [sh_z, sh_ltI bs sh_Bd0]; omega
  · rw [sh_z, sh_ltI bd sh_Bd0]; omega
  · rw [sh_z, sh_ltI bk sh_Bd0]; omega
  · rw [ek, es]; omega
  · rw [ek, ed]; omega
  · rw [sh_catsum]
    have h9 : nativeFrameWords "java/lang/System" "arraycopy" 5 + 11 ≤ 50 := by decide +kernel
    have : 60 ≤ R.locals := hlo
    omega
  · have e1 : (sh_W ad ac (n, I, P)).set (o2 - 1) (ad o2, .inl (ac o2, N2, .inl (va_cpy (sh_ia I o1) (sh_ia I o2) (Int32.ofInt sp).toNatClampNeg (Int32.ofInt dp).toNatClampNeg (Int32.ofInt k).toNatClampNeg))) = sh_W ad ac (n, sh_cpy I o1 o2 sp dp k, P) := by
      refine sh_W_set hk2 (fun j hj => ?_) (fun _ _ => rfl) ?_
      · funext b
        simp [sh_cpy, hj]
      · rw [sh_E_arr (by decide) (by decide), ek, es, ed]
        congr 4
        funext j
        simp only [va_cpy, sh_ia, sh_cpy]
        by_cases hj : dp.toNat ≤ j ∧ j < dp.toNat + k.toNat
        · rw [if_pos hj, if_pos ⟨trivial, by omega, by omega⟩]
          congr 2
          omega
        · rw [if_neg hj, if_neg (fun q => hj ⟨by omega, by omega⟩)]
    obtain ⟨a1, -, -, -, b1, c1, d1, g1, j1⟩ := hR
    have hz : sh_cpy I o1 o2 sp dp k 0 = I 0 := by
      funext b
      have : ¬ 0 = o2 := fun q => absurd hk2.2.2 (by omega)
      simp [sh_cpy, this]
    refine h p l e R s m args below meth c Z D A H0 ad ac H1 locs1 la hX hA ⟨a1, by rw [← e1]; exact hP1, by rw [← e1]; exact hD1, hS1, ?_, c1, d1, g1, j1⟩ hL hc hret
    show va_X (ad 0) (sh_cpy I o1 o2 sp dp k 0 0).toNat (fun j => Int32.ofInt (sh_cpy I o1 o2 sp dp k 0 ((j : Int) + 1))) s H0
    rw [hz]
    exact b1
/-! switches -/
theorem sh_tableOut {y : sh_M} {pc : Nat} {ls : List (Option sh_V)} {st : List sh_V} {cn : Nat × Nat} {σ : sh_St} {Q : Option Int → sh_St → Prop} {dflt lo hi : Int} {offs : Array Int} {len : Nat} {x : Int} {tgt : Nat} (hd : decode y.2.1 pc = .ok (.tableswitch dflt lo hi offs, len)) (hx : sh_Bd x) (hh : x < lo ∨ hi < x) (ht : (pc : Int) + dflt = (tgt : Int)) (h : sh_O y tgt ls st cn σ Q) : sh_O y pc ls (.inl x :: st) cn σ Q := by
  intro p l e R s m args below meth c Z D A H0 ad ac H locs la hX hA hR hL hc hret
  exact lv_tableOut hX.1 hX.2.1 hd (by rw [sh_ti hx]; exact hh) ht (h p l e R s m args below meth c Z D A H0 ad ac H locs la hX hA hR hL hc hret)
theorem sh_tableIn {y : sh_M} {pc : Nat} {ls : List (Option sh_V)} {st : List sh_V} {cn : Nat × Nat} {σ : sh_St} {Q : Option Int → sh_St → Prop} {dflt lo hi : Int} {offs : Array Int} {len : Nat} {x k off : Int} {tgt : Nat} (hd : decode y.2.1 pc = .ok (.tableswitch dflt lo hi offs, len)) (hx : x = k) (hk : sh_Bd k) (h1 : ¬ k < lo) (h2 : ¬ hi < k) (ho : offs[(k - lo).toNat]? = some off) (ht : (pc : Int) + off = (tgt : Int)) (h : sh_O y tgt ls st cn σ Q) : sh_O y pc ls (.inl x :: st) cn σ Q := by
  intro p l e R s m args below meth c Z D A H0 ad ac H locs la hX hA hR hL hc hret
  subst hx
  exact lv_tableIn hX.1 hX.2.1 hd (by rw [sh_ti hk]; exact h1) (by rw [sh_ti hk]; exact h2) (by rw [sh_ti hk]; exact ho) ht (h p l e R s m args below meth c Z D A H0 ad ac H locs la hX hA hR hL hc hret)
theorem sh_lookup {y : sh_M} {pc : Nat} {ls : List (Option sh_V)} {st : List sh_V} {cn : Nat × Nat} {σ : sh_St} {Q : Option Int → sh_St → Prop} {dflt : Int} {ps : Array (Int × Int)} {len : Nat} {x off : Int} {tgt : Nat} (hd : decode y.2.1 pc = .ok (.lookupswitch dflt ps, len)) (hp : (ps.toList.zip (ps.toList.drop 1)).all (fun (a, next) => a.1 < next.1) = true) (hx : sh_Bd x) (ho : Op.lookupswitch.offset ps.toList dflt x = off) (ht : (pc : Int) + off = (tgt : Int)) (h : sh_O y tgt ls st cn σ Q) : sh_O y pc ls (.inl x :: st) cn σ Q := by
  intro p l e R s m args below meth c Z D A H0 ad ac H locs la hX hA hR hL hc hret
  exact lv_lookup hX.1 hX.2.1 hd hp (by rw [sh_ti hx]; exact ho) ht (h p l e R s m args below meth c Z D A H0 ad ac H locs la hX hA hR hL hc hret)
