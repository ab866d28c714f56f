/-! ===== 09b: a method that answers an object: the history's place along the ring ===== -/
/-- what a call of y with these arguments brings about: nothing changes, the object q is answered -/
def sh_CR (y : sh_M) (as : List sh_V) (σ : sh_St) (q : Nat) : Prop :=
  ∀ (l : Launch) (D : va_G) (ad : Nat → Nat) (ac : Nat → ClassId) (sz : Nat),
    Met l y.1 (sh_wsy y) (sh_rm y) (va_Pc (as.map (sh_tr ad)) (fun U => U.heap.size = sz ∧ sh_U D ad ac σ (fun _ => True) U))
      (fun _ st o t => (o = .returned (some (.ref (ad q))) ∧ sh_U D ad ac σ (va_A (sh_W ad ac σ) sz) t) ∧ va_F (va_A (sh_W ad ac σ) sz) st t)
      y.2.2.2.2.2.1 y.2.2.2.2.2.2 (va_A (sh_W ad ac σ) sz)
theorem cr_ringPlace {I : sh_Mem} {i : Int} {q : Nat} (hi : 0 ≤ i ∧ i < 2147483648) (hq : sh_PT 48 (i % 4).toNat = some q) : sh_CR mX2_ringPlace [.inr 47, .inl i] (sh_S I) q := by
  intro l D ad ac sz
  refine Met.ofW (cc := mX2_ringPlace.2.1) (maxL := mX2_ringPlace.2.2.1) (ret := mX2_ringPlace.2.2.2.1) cd_X2_ringPlace.2.2.2 rfl ?_
  intro p e s m args below meth c s₁ B hml hv
  obtain ⟨rfl, hsz, a1, a2, a3, a4, a5, a6, a7, a8⟩ := hv
  have hts := atoms_spec (ws := sh_wsy mX2_ringPlace) B.pre
  have hX : sh_X mX2_ringPlace p (sh_rm mX2_ringPlace) s m (([.inr 47, .inl i] : List sh_V).map (sh_tr ad)).toArray meth c := ⟨B.exec, B.bytes, hml, findClass_of_methodNamed B.named, fun w hw => hts w (List.mem_cons_of_mem _ hw), fun hi => (name_of_methodNamed B.named B.method).1.trans hi, rfl⟩
  have hA : ∀ q : Nat, s.heap.size ≤ q → va_A (sh_W ad ac (sh_S I)) sz q := fun q hq => Or.inr (by omega)
  have hnA : ¬ va_A (sh_W ad ac (sh_S I)) sz (ad 0) := by
    rintro (⟨k, e9, hk⟩ | hle)
    · exact a6 k _ hk rfl
    · omega
  have hR : sh_R D ad ac (sh_S I) (va_A (sh_W ad ac (sh_S I)) sz) s s.heap s.heap [] := ⟨a1, a2, a3.self, va_S.rf, a4, a5, hnA, a7, a8⟩
  have hbd : sh_Bd i := ⟨by omega, hi.2⟩
  have hL := sh_L_entry (ad := ad) (as := [.inr 47, .inl i]) (n := 2) (Nat.le_refl 2)
  have hL0 := hL.2.2 0 (.inr 47) rfl
  have hL1 := hL.2.2 1 (.inl i) rfl
  rw [lg_entry_eq]
  refine lv_iload_n (pc := 0) (rest := []) hX.1 hX.2.1 dX2_ringPlace_0 rfl hL1 ?_
  refine lv_if_ge (pc := 1) (rest := []) (tgt := 8) hX.1 hX.2.1 dX2_ringPlace_1 (by decide) (fun _ => ?_) (fun q => absurd ((sh_ge0 hbd).2 q) (by omega))
  refine lv_aload_n (pc := 8) (rest := []) hX.1 hX.2.1 dX2_ringPlace_8 rfl hL0 ?_
  have g1 : W p l e (sh_rm mX2_ringPlace) s m (([.inr 47, .inl i] : List sh_V).map (sh_tr ad)).toArray below meth c s.heap [] 0 0 (MQ below (fun _ st o t => (o = .returned (some (.ref (ad q))) ∧ sh_U D ad ac (sh_S I) (va_A (sh_W ad ac (sh_S I)) sz) t) ∧ va_F (va_A (sh_W ad ac (sh_S I)) sz) st t) (([.inr 47, .inl i] : List sh_V).map (sh_tr ad)).toArray s 0 0 (va_A (sh_W ad ac (sh_S I)) sz)) (F0 m 12 ((lg_sl (([.inr 47, .inl i] : List sh_V).map (sh_tr ad)) ++ List.replicate (2 - (lg_sl (([.inr 47, .inl i] : List sh_V).map (sh_tr ad))).length) Slot.unset).toArray) [.ref (ad 48)]) := by
    refine lv_iload_n (pc := 12) (rest := [.ref (ad 48)]) hX.1 hX.2.1 dX2_ringPlace_12 rfl hL1 ?_
    refine lv_iconst (pc := 13) (v := Int32.ofInt 4) hX.1 hX.2.1 dX2_ringPlace_13 rfl ?_
    refine lv_irem (pc := 14) hX.1 hX.2.1 dX2_ringPlace_14 (sh_nz (by decide) (by decide)) ?_
    show W p l e _ s m _ below meth c s.heap [] 0 0 _ (F0 m 15 _ (.int (Int32.ofInt i - Int32.ofInt i / Int32.ofInt 4 * Int32.ofInt 4) :: [.ref (ad 48)]))
    rw [sh_mod hi.1 hi.2 (by decide) (by decide)]
    have hk : sh_is 119 48 11 4 := is_48
    have he := sh_W_get (ad := ad) (ac := ac) (σ := sh_S I) is_48
    rw [sh_E_ref] at he
    have hv := sh_vin (i := i % 4) (n := 4) (by omega) (by decide)
    refine va_aldq (pc := 15) hX.1 hX.2.1 (hR.1.one is_48 (by decide) (by decide)) hR.2.1 (48 - 1) 0 he rfl hv.1 dX2_ringPlace_15 ?_
    rw [hv.2]
    show W p l e _ s m _ below meth c s.heap [] 0 0 _ (F0 m 16 _ [va_rf ((sh_PT 48 (i % 4).toNat).map ad)])
    rw [hq]
    refine W.aret (pc := 16) (rt := .object "ShadowTag$Platform") hX.1 hX.2.1 (by rw [B.returns]) (Or.inl ⟨_, rfl⟩) (Or.inr ⟨_, rfl⟩) (fun t ht hW => ⟨⟨rfl, ?_⟩, hR.2.2.2.1.F ht⟩) hR.2.2.2.1.2.2 dX2_ringPlace_16 B.notSynchronized
    obtain ⟨c1, c2, c3, c4, c5, c6, c7, c8, c9⟩ := hR
    refine ⟨c1.moved hW, by rw [ht]; exact c2, c3, ?_, ?_, fun k q hk he => c7 (by rw [← he]; exact c3.2 k q hk), c8, c9⟩
    · rw [ht]
      exact (c5.kept (c4.2.1 _ c6 c7)).moved hW.alike
    · rw [ht]
      exact Nat.lt_of_lt_of_le c6 c4.1
  obtain ⟨C, T, ⟨h1, h2, h3, h4, h5⟩, hf, hw, hfin⟩ := fl_X2_11
  have he := sh_W_get (ad := ad) (ac := ac) (σ := sh_S I) is_47
  rw [sh_E_obj h5] at he
  have hv := sh_fs_get (ad := ad) (I := I) (P := sh_PT) (k := 47) (ci := 2) hf
  rw [show sh_isr (sh_ty 2 0) = true from rfl, if_pos rfl, pt_47_0] at hv
  exact va_get (pc := 9) hX.1 hX.2.1 hX.2.2.2.2.1 h2 hX.2.2.2.1 hR.1.none hR.2.1 (47 - 1) he h1 0 hf (hX.2.2.2.2.1 _ hw) (fun _ h9 => h9) hv dX2_ringPlace_9 g1
/-- a call of the history's place along the ring, and what comes behind it -/
theorem k_ring {y : sh_M} {pc : Nat} {ls : List (Option sh_V)} {st : List sh_V} {I : sh_Mem} {Q : Option Int → sh_St → Prop} {idx q : Nat} {i : Int} (hd : decode y.2.1 pc = .ok (.invokevirtual idx, 3)) (hl : sh_LV y.1.cls idx mX2_ringPlace 1 2 3) (hz : sh_fit0 y mX2_ringPlace st.length = true) (hi : 0 ≤ i ∧ i < 2147483648) (hq : sh_PT 48 (i % 4).toNat = some q) (h : kk y (pc + 3) ls (.inr q :: st) I Q) : kk y pc ls (.inl i :: .inr 47 :: st) I Q := by
  intro p l e R s m args below meth c Z D A H0 ad ac H locs la hX hA hR hL hc hret
  obtain ⟨hcd, hw1, hw2, hw3, T, hcl⟩ := hl
  have hf := (sh_fit0_ok hz).1
  have hRR : y.2.2.2.2 = ((R.frames, R.locals), (R.cells, R.slots)) := by rw [hX.2.2.2.2.2.2]; rfl
  unfold sh_fit at hf
  rw [hRR] at hf
  have hroom : 2 * (F0 m pc la ((Sum.inl i :: Sum.inr 47 :: st : List sh_V).map (sh_tr ad))).monitorRoom + ((st.map (sh_tr ad)).map fun v => v.category).sum ≤ 8 := by
    show 2 * 0 + _ ≤ 8
    rw [sh_catsum]
    have := hf.2.2.2.2
    omega
  have hC := cr_ringPlace (I := I) hi hq
  have hr := va_runV (e := e) (below := below) (meth := meth) (locs := locs) (C := mX2_ringPlace.1.cls) (b := ad 47) (As := [Value.int (Int32.ofInt i)]) (rest := st.map (sh_tr ad)) (g := F0 m pc la ((Sum.inl i :: Sum.inr 47 :: st : List sh_V).map (sh_tr ad))) ⟨hX.1, hX.2.1, hX.2.2.1, hX.2.2.2.1, hX.2.2.2.2.1⟩ (hC l D ad ac H.size) ⟨callB_of 1 hX.2.2.2.2.1 (sh_good hcd.1) rfl rfl rfl (hX.2.2.2.2.1 _ hcd.2.2.1) (hX.2.2.2.2.1 _ hw1) hcd.2.1 ⟨hf.1, hf.2.1⟩, hX.2.2.2.2.1 _ hw2, hX.2.2.2.2.1 _ hw3⟩ ⟨(sh_preS (as := [.inr 47, .inl i]) hR).1, sh_recv hR hcl is_47, (sh_preS (as := [.inr 47, .inl i]) hR).2⟩ rfl rfl hL.1 rfl hroom hd ⟨hf.2.2.1, hf.2.2.2.1⟩
  intro T0 hT X
  obtain ⟨v, st₀, t, T', L, g0, X', hLf, e1, e2, ⟨⟨ho, hU⟩, hz2, hk⟩, stp⟩ := hr T0 hT X
  cases ho
  rw [g0] at hz2 hk
  obtain ⟨a1, a2, a3, a4, b1, c1, d1, g1, j1⟩ := hR
  have hAA : ∀ q, va_A (sh_W ad ac (sh_S I)) H.size q → A q := by
    rintro q (⟨k, e9, hk9⟩ | hle)
    · exact a3.2 k _ hk9
    · exact hA q (Nat.le_trans a4.1 hle)
  have hS1 : va_S A H0 T'.heap (locs ++ L) := ⟨Nat.le_trans a4.1 (by rw [e1]; exact hz2), fun q h1 h2 => by
      rw [e1, hk q (Nat.lt_of_lt_of_le h1 a4.1) (fun z => h2 (hAA q z))]
      exact a4.2.1 q h1 h2, fun q hq => by
      rcases List.mem_append.mp hq with h | h
      · exact a4.2.2 q h
      · exact hAA _ (hLf q h)⟩
  obtain ⟨u1, u2, u3, u4, u5, u6, u7, u8⟩ := hU
  have hal : t.vm.Alike s.vm := by rw [← e2]; exact X'.warmed.alike.symm
  have hK1 : sh_K D ac (sh_S I).1 s := ⟨a1.1, fun o ci N x y z => ⟨arrOfT_moved hal (u1.2.1 o ci N x y z).1, (u1.2.1 o ci N x y z).2.moved hal⟩, a1.2.2.1, a1.2.2.2⟩
  have hX1 : va_X (ad 0) ((sh_S I).2.1 0 0).toNat (fun j => Int32.ofInt ((sh_S I).2.1 0 ((j : Int) + 1))) s H0 := by
    have h1 : va_X (ad 0) ((sh_S I).2.1 0 0).toNat (fun j => Int32.ofInt ((sh_S I).2.1 0 ((j : Int) + 1))) s t.heap := u4.moved hal
    refine h1.kept ?_
    have h9 := hS1.2.1 _ c1 d1
    rw [e1] at h9
    exact h9.symm
  have hR1 : sh_R D ad ac (sh_S I) A s H0 T'.heap (locs ++ L) := ⟨hK1, by rw [e1]; exact u2, u3.weaken (fun k q hk h => hAA _ h), hS1, hX1, c1, d1, u7, u8⟩
  have hgo := h p l e R s m args below meth c Z D A H0 ad ac T'.heap (locs ++ L) la hX hA hR1 hL hc hret
  obtain ⟨t2, q1, q2⟩ := hgo T' rfl X'
  exact ⟨t2, stp t2 q1, q2⟩
