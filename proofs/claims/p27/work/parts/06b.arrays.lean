/-! ===== 06b: the law's own arrays, and worlds that grow and shrink ===== -/
/-- a world: how many objects there are, and the map of objects -/
abbrev sh_Cx : Type := Nat × sh_Ptr
/-- the object o is an array of the law's own, of N whole numbers -/
def dy (c : sh_Cx) (o N : Nat) : Prop := (119 ≤ o ∧ o < c.1) ∧ c.2 o 0 = some N ∧ N < 119
theorem sh_KD_dyn {o : Nat} (h : 119 ≤ o) : sh_KD o = (12, 0) := by
  have e : sh_KDl.length = 119 := by decide +kernel
  show sh_KDl.getD o (12, 0) = (12, 0)
  rw [List.getD_eq_getElem?_getD, List.getElem?_eq_none (by omega)]
  rfl
theorem dy.is {c : sh_Cx} {o N : Nat} (h : dy c o N) : sh_is c.1 o 12 0 := ⟨h.1.2, sh_KD_dyn h.1.1, by have := h.1.1; omega⟩
/-- from this place of y on, in the world c over the memory I -/
abbrev kl (c : sh_Cx) (cn : Nat × Nat) (y : sh_M) (pc : Nat) (ls : List (Option sh_V)) (st : List sh_V) (I : sh_Mem) (Q : Option Int → sh_St → Prop) : Prop := sh_O y pc ls st cn (c.1, I, c.2) Q
theorem l_ald {y : sh_M} {pc : Nat} {ls : List (Option sh_V)} {st : List sh_V} {cn : Nat × Nat} {c : sh_Cx} {I : sh_Mem} {Q : Option Int → sh_St → Prop} {o N : Nat} {i : Int} (hd : decode y.2.1 pc = .ok (.iaload, 1)) (hk : dy c o N) (hi : 0 ≤ i ∧ i < (N : Int)) (h : kl c cn y (pc + 1) ls (.inl (I o i) :: st) I Q) : kl c cn y pc ls (.inl i :: .inr o :: st) I Q := by
  intro p l e R s m args below meth cc Z D A H0 ad ac H locs la hX hA hR hL hc hret
  have he := sh_W_get (ad := ad) (ac := ac) (σ := (c.1, I, c.2)) hk.is
  rw [sh_E_dyn hk.2.1] at he
  have hv := sh_vin hi (by have := hk.2.2; omega)
  refine va_iald hX.1 hX.2.1 (hR.1.one hk.is (by decide) (by decide)) hR.2.1 (o - 1) 0 he rfl hv.1 hd ?_
  rw [hv.2]
  show W p l e R s m args below meth cc H locs cn.1 cn.2 Z (F0 m (pc + 1) la (.int (sh_ia I o i.toNat) :: st.map (sh_tr ad)))
  rw [sh_ia_at hi.1]
  exact h p l e R s m args below meth cc Z D A H0 ad ac H locs la hX hA hR hL hc hret
theorem l_ast {y : sh_M} {pc : Nat} {ls : List (Option sh_V)} {st : List sh_V} {cn : Nat × Nat} {c : sh_Cx} {I : sh_Mem} {Q : Option Int → sh_St → Prop} {o N : Nat} {i v : Int} (hd : decode y.2.1 pc = .ok (.iastore, 1)) (hk : dy c o N) (hi : 0 ≤ i ∧ i < (N : Int)) (h : kl c cn y (pc + 1) ls st (sh_u I o i v) Q) : kl c cn y pc ls (.inl v :: .inl i :: .inr o :: st) I Q := by
  intro p l e R s m args below meth cc Z D A H0 ad ac H locs la hX hA hR hL hc hret
  have he := sh_W_get (ad := ad) (ac := ac) (σ := (c.1, I, c.2)) hk.is
  rw [sh_E_dyn hk.2.1] at he
  have hv := sh_vin hi (by have := hk.2.2; omega)
  refine va_iast hX.1 hX.2.1 (hR.1.one hk.is (by decide) (by decide)) hR.2.1 hR.2.2.1 hR.2.2.2.1 (o - 1) 0 he rfl hv.1 hd (fun H1 locs1 hP1 hD1 hS1 => ?_)
  have e1 : (sh_W ad ac (c.1, I, c.2)).set (o - 1) (ad o, .inl (ac o, N, .inl (upd (sh_ia I o) (Int32.ofInt i).toNatClampNeg (Int32.ofInt v)))) = sh_W ad ac (c.1, sh_u I o i v, c.2) := by
    rw [hv.2, sh_ia_set (v := v) hi.1 rfl]
    exact sh_W_set hk.is (fun k hk2 => sh_u_ne hk2) (fun _ _ => rfl) (sh_E_dyn hk.2.1)
  exact h p l e R s m args below meth cc Z D A H0 ad ac H1 locs1 la hX hA (hR.putI hk.is.2.2 (by rw [← e1]; exact hP1) (by rw [← e1]; exact hD1) hS1) hL hc hret
theorem l_alen {y : sh_M} {pc : Nat} {ls : List (Option sh_V)} {st : List sh_V} {cn : Nat × Nat} {c : sh_Cx} {I : sh_Mem} {Q : Option Int → sh_St → Prop} {o N : Nat} (hd : decode y.2.1 pc = .ok (.arraylength, 1)) (hk : dy c o N) (h : kl c cn y (pc + 1) ls (.inl (N : Int) :: st) I Q) : kl c cn y pc ls (.inr o :: st) I Q := by
  intro p l e R s m args below meth cc Z D A H0 ad ac H locs la hX hA hR hL hc hret
  have he := sh_W_get (ad := ad) (ac := ac) (σ := (c.1, I, c.2)) hk.is
  rw [sh_E_dyn hk.2.1] at he
  exact va_alen hX.1 hX.2.1 (hR.1.one hk.is (by decide) (by decide)) hR.2.1 (o - 1) 0 he rfl (v := Int32.ofInt (N : Int)) rfl hd (h p l e R s m args below meth cc Z D A H0 ad ac H locs la hX hA hR hL hc hret)
/-! a world with one array more -/
def sh_cl (I : sh_Mem) (n : Nat) : sh_Mem := fun o => if o = n then fun _ => 0 else I o
def cp (c : sh_Cx) (N : Nat) : sh_Cx := (c.1 + 1, sh_uP c.2 c.1 0 N)
theorem sh_cl_lt {I : sh_Mem} {n k : Nat} (h : k ≠ n) : sh_cl I n k = I k := by simp [sh_cl, h]
theorem sh_cl_self {I : sh_Mem} {n : Nat} {f : Int} : sh_cl I n n f = 0 := by simp [sh_cl]
theorem dy.push {c : sh_Cx} {o N M : Nat} (h : dy c o N) : dy (cp c M) o N := ⟨⟨h.1.1, by have := h.1.2; show o < c.1 + 1; omega⟩, by
  show sh_uP c.2 c.1 0 M o 0 = some N
  rw [sh_uP_ne (by have := h.1.2; omega)]
  exact h.2.1, h.2.2⟩
theorem dy.top {c : sh_Cx} {M : Nat} (h : 119 ≤ c.1) (hM : M < 119) : dy (cp c M) c.1 M := ⟨⟨h, by show c.1 < c.1 + 1; omega⟩, by show sh_uP c.2 c.1 0 M c.1 0 = some M; simp [sh_uP], hM⟩
theorem sh_W_ext {ad : Nat → Nat} {ac : Nat → ClassId} {n : Nat} {I I' : sh_Mem} {P P' : sh_Ptr} (h1 : ∀ k, 0 < k → k < n → I' k = I k) (h2 : ∀ k, 0 < k → k < n → P' k = P k) : sh_W ad ac (n, I', P') = sh_W ad ac (n, I, P) := by
  apply List.map_congr_left
  intro k hk
  have hk2 : k < n - 1 := List.mem_range.mp hk
  show (ad (k + 1), sh_E ad ac I' P' (k + 1) (sh_KD (k + 1))) = (ad (k + 1), sh_E ad ac I P (k + 1) (sh_KD (k + 1)))
  rw [sh_E_congr (h1 _ (by omega) (by omega)) (h2 _ (by omega) (by omega))]
theorem l_newa {y : sh_M} {pc : Nat} {ls : List (Option sh_V)} {st : List sh_V} {cn : Nat × Nat} {c : sh_Cx} {I : sh_Mem} {Q : Option Int → sh_St → Prop} {N : Nat} {z : Int} (hd : decode y.2.1 pc = .ok (.newarray .int, 2)) (hw : Cond.arrayClass (newarray.typeOf .int) ∈ sh_ws) (hzN : z = (N : Int)) (hN : N < 119) (hn : 119 ≤ c.1)
    (hst : sh_noref c.1 st) (hls : ∀ o : Nat, some (Sum.inr o) ∈ ls → o < c.1) (hmc : cn.1 + 1 ≤ y.2.2.2.2.2.1 ∧ cn.2 + N ≤ y.2.2.2.2.2.2) (h : kl (cp c N) (cn.1 + 1, cn.2 + N) y (pc + 2) ls (.inr c.1 :: st) (sh_cl I c.1) Q) : kl c cn y pc ls (.inl z :: st) I Q := by
  intro p l e R s m args below meth cc Z D A H0 ad ac H locs la hX hA hR hL hc hret
  have hRR : y.2.2.2.2.2.1 = R.cells ∧ y.2.2.2.2.2.2 = R.slots := by rw [hX.2.2.2.2.2.2]; exact ⟨rfl, rfl⟩
  subst hzN
  have hb : sh_Bd (N : Int) := ⟨by omega, by omega⟩
  have hia : sh_ia (sh_cl I c.1) c.1 = fun _ => (0 : Int32) := by
    funext j
    simp only [sh_ia, sh_cl_self]
    rfl
  have eI : ∀ k, k < c.1 → sh_cl I c.1 k = I k := fun k hk => sh_cl_lt (by omega)
  have eP : ∀ k, k < c.1 → sh_uP c.2 c.1 0 N k = c.2 k := fun k hk => sh_uP_ne (by omega)
  have eW := sh_W_ext (ad := ad) (ac := ac) (n := c.1) (I := I) (I' := sh_cl I c.1) (P := c.2) (P' := sh_uP c.2 c.1 0 N) (fun k _ hk => eI k hk) (fun k _ hk => eP k hk)
  have hR' : sh_R D ad ac (c.1, sh_cl I c.1, sh_uP c.2 c.1 0 N) A s H0 H locs := by
    obtain ⟨a1, a2, a3, a4, b1, c1, d1, g1, j1⟩ := hR
    refine ⟨a1, by rw [eW]; exact a2, by rw [eW]; exact a3, a4, ?_, c1, d1, fun o f q hq => ?_, j1⟩
    · show va_X (ad 0) (sh_cl I c.1 0 0).toNat (fun j => Int32.ofInt (sh_cl I c.1 0 ((j : Int) + 1))) s H0
      rw [eI 0 j1]
      exact b1
    · have hq2 : sh_uP c.2 c.1 0 N o f = some q := hq
      simp only [sh_uP] at hq2
      show q < c.1
      split at hq2
      · cases hq2
        omega
      · exact g1 o f q hq2
  refine va_newa (N' := N) (a0 := (N, .inl (sh_ia (sh_cl I c.1) c.1))) hX.1 hX.2.1 (hX.2.2.2.2.1 _ hw) rfl hR'.1.none hR'.2.1 hR'.2.2.1 hR'.2.2.2.1 hA (fun cA => ?_) ?_ ?_ ?_ (by rw [← hRR.1]; exact hmc.1) (by rw [← hRR.2]; exact hmc.2) hd (fun q cA H1 hK1 hP1 hD1 hS1 => ?_)
  · rw [hia, vp_cell_i]
    rfl
  · rw [sh_z, sh_ltI hb sh_Bd0]
    omega
  · show (Int32.ofInt (N : Int)).toInt.toNat = N
    rw [sh_ti hb]
    rfl
  · calc N * componentBytes (newarray.typeOf .int) ≤ 119 * 4 := Nat.mul_le_mul (by omega) (by decide)
      _ ≤ 536870912 := by decide
  · refine sh_made (M := N) (cA := cA) hX hA hR' hL hmc hret hst hls (sh_KD_dyn hn) h ?_ (fun _ _ => ?_) hP1 hD1 hS1
    · rw [sh_E_dyn (M := N) (show sh_uP c.2 c.1 0 N c.1 0 = some N by simp [sh_uP]), sh_ext_self]
    · exact hK1.2 0 (cA, newarray.typeOf .int) rfl
/-! numbers of the law's own -/
theorem sh_and31' {a : Int} : ∃ v : Int, (0 ≤ v ∧ v < 2147483648) ∧ Int32.ofInt a &&& Int32.ofInt 2147483647 = Int32.ofInt v := by
  refine ⟨(Int32.ofInt a &&& Int32.ofInt 2147483647).toInt, ?_, (Int32.ofInt_toInt _).symm⟩
  have h1 := Int32.toInt_lt (Int32.ofInt a &&& Int32.ofInt 2147483647)
  refine ⟨?_, h1⟩
  have e : (Int32.ofInt a &&& Int32.ofInt 2147483647).toInt = ((Int32.ofInt a).toBitVec &&& 2147483647#32).toInt := rfl
  rw [e, BitVec.toInt_eq_toNat_of_lt]
  · omega
  · have h2 : ((Int32.ofInt a).toBitVec &&& 2147483647#32).toNat ≤ 2147483647 := by
      rw [BitVec.toNat_and]
      exact Nat.and_le_right
    omega
theorem l_iand {y : sh_M} {pc : Nat} {ls : List (Option sh_V)} {st : List sh_V} {cn : Nat × Nat} {σ : sh_St} {Q : Option Int → sh_St → Prop} {a : Int} (hd : decode y.2.1 pc = .ok (.iand, 1)) (h : ∀ v : Int, 0 ≤ v ∧ v < 2147483648 → sh_O y (pc + 1) ls (.inl v :: st) cn σ Q) : sh_O y pc ls (.inl 2147483647 :: .inl a :: st) cn σ Q := by
  intro p l e R s m args below meth c Z D A H0 ad ac H locs la hX hA hR hL hc hret
  obtain ⟨v, h1, h2⟩ := sh_and31' (a := a)
  refine lv_iand hX.1 hX.2.1 hd ?_
  rw [h2]
  exact h v h1 p l e R s m args below meth c Z D A H0 ad ac H locs la hX hA hR hL hc hret
theorem l_ishr {y : sh_M} {pc : Nat} {ls : List (Option sh_V)} {st : List sh_V} {cn : Nat × Nat} {σ : sh_St} {Q : Option Int → sh_St → Prop} {a b : Int} (hd : decode y.2.1 pc = .ok (.ishr, 1)) (h : ∀ v : Int, sh_Bd v → sh_O y (pc + 1) ls (.inl v :: st) cn σ Q) : sh_O y pc ls (.inl b :: .inl a :: st) cn σ Q := by
  intro p l e R s m args below meth c Z D A H0 ad ac H locs la hX hA hR hL hc hret
  refine lv_ishr hX.1 hX.2.1 hd ?_
  have hh := h (Int32.ofInt a >>> (Int32.ofInt b &&& 31)).toInt ⟨Int32.le_toInt _, Int32.toInt_lt _⟩ p l e R s m args below meth c Z D A H0 ad ac H locs la hX hA hR hL hc hret
  have e1 : sh_tr ad (.inl (Int32.ofInt a >>> (Int32.ofInt b &&& 31)).toInt) = .int (Int32.ofInt a >>> (Int32.ofInt b &&& 31)) := by
    show Value.int (Int32.ofInt _) = _
    rw [Int32.ofInt_toInt]
  rw [List.map_cons, e1] at hh
  exact hh
theorem l_icmp_eq {y : sh_M} {pc : Nat} {ls : List (Option sh_V)} {st : List sh_V} {cn : Nat × Nat} {σ : sh_St} {Q : Option Int → sh_St → Prop} {a b off : Int} {tgt : Nat} (hd : decode y.2.1 pc = .ok (.if_icmp .eq off, 3)) (ht : (pc : Int) + off = (tgt : Int)) (hb : a = b ∨ (sh_Bd a ∧ sh_Bd b)) (h1 : a = b → sh_O y tgt ls st cn σ Q) (h2 : ¬ a = b → sh_O y (pc + 3) ls st cn σ Q) : sh_O y pc ls (.inl b :: .inl a :: st) cn σ Q := by
  by_cases e : a = b
  · intro p l e' R s m args below meth c Z D A H0 ad ac H locs la hX hA hR hL hc hret
    subst e
    exact lv_icmp_eq hX.1 hX.2.1 hd ht (fun _ => h1 rfl p l e' R s m args below meth c Z D A H0 ad ac H locs la hX hA hR hL hc hret) (fun q => absurd rfl q)
  · have hb2 := hb.resolve_left e
    exact sh_icmp_eq hd ht hb2.1 hb2.2 h1 h2
theorem l_icmp_ne {y : sh_M} {pc : Nat} {ls : List (Option sh_V)} {st : List sh_V} {cn : Nat × Nat} {σ : sh_St} {Q : Option Int → sh_St → Prop} {a b off : Int} {tgt : Nat} (hd : decode y.2.1 pc = .ok (.if_icmp .ne off, 3)) (ht : (pc : Int) + off = (tgt : Int)) (hb : a = b ∨ (sh_Bd a ∧ sh_Bd b)) (h1 : ¬ a = b → sh_O y tgt ls st cn σ Q) (h2 : a = b → sh_O y (pc + 3) ls st cn σ Q) : sh_O y pc ls (.inl b :: .inl a :: st) cn σ Q := by
  by_cases e : a = b
  · intro p l e' R s m args below meth c Z D A H0 ad ac H locs la hX hA hR hL hc hret
    subst e
    exact lv_icmp_ne hX.1 hX.2.1 hd ht (fun q => absurd rfl q) (fun _ => h2 rfl p l e' R s m args below meth c Z D A H0 ad ac H locs la hX hA hR hL hc hret)
  · have hb2 := hb.resolve_left e
    exact sh_icmp_ne hd ht hb2.1 hb2.2 h1 h2
theorem l_astore {y : sh_M} {pc : Nat} {ls : List (Option sh_V)} (ls' : List (Option sh_V)) {st : List sh_V} {cn : Nat × Nat} {σ : sh_St} {Q : Option Int → sh_St → Prop} {i x : Nat} (hd : decode y.2.1 pc = .ok (.astore i, 2)) (hs : ls.set i (some (.inr x)) = ls') (hn : i < y.2.2.1) (h : sh_O y (pc + 2) ls' st cn σ Q) : sh_O y pc ls (.inr x :: st) cn σ Q := by
  intro p l e R s m args below meth c Z D A H0 ad ac H locs la hX hA hR hL hc hret
  subst hs
  exact lv_astore hX.1 hX.2.1 hd hL.has hn rfl (fun la' hl' => h p l e R s m args below meth c Z D A H0 ad ac H locs la' hX hA hR (sh_L.set (v := .inr x) hl') hc hret)
