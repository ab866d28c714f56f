/-! calls -/
def sh_U (D : va_G) (ad : Nat → Nat) (ac : Nat → ClassId) (σ : sh_St) (A : Nat → Prop) (U : State) : Prop :=
  sh_K D ac σ.1 U ∧ va_P D vwCl (sh_W ad ac σ) U.heap ∧ va_D A (sh_W ad ac σ) ∧ va_X (ad 0) (σ.2.1 0 0).toNat (fun j => Int32.ofInt (σ.2.1 0 ((j : Int) + 1))) U U.heap ∧ ad 0 < U.heap.size ∧ (∀ (k : Nat) (q : Nat × va_E), (sh_W ad ac σ)[k]? = some q → q.1 ≠ ad 0) ∧ (∀ o f q, σ.2.2 o f = some q → q < σ.1) ∧ 0 < σ.1
/-- what a call of y with these arguments brings about, from any heap that holds the memory -/
def sh_C (y : sh_M) (as : List sh_V) (σ : sh_St) (Q : Option Int → sh_St → Prop) : Prop :=
  ∀ (l : Launch) (D : va_G) (ad : Nat → Nat) (ac : Nat → ClassId) (sz : Nat),
    Met l y.1 (sh_wsy y) (sh_rm y) (va_Pc (as.map (sh_tr ad)) (fun U => U.heap.size = sz ∧ sh_U D ad ac σ (fun _ => True) U))
      (fun _ st o t => (∃ (r : Option Int) (σ' : sh_St) (ad' : Nat → Nat) (ac' : Nat → ClassId), Q r σ' ∧ o = .returned (r.map (fun z => Value.int (Int32.ofInt z))) ∧ sh_U D ad' ac' σ' (va_A (sh_W ad ac σ) sz) t ∧
        (y.2.2.2.2.2.1 = 0 → ad' = ad ∧ ac' = ac) ∧ (∀ k, k < σ.1 → ad' k = ad k ∧ ac' k = ac k) ∧ σ.1 ≤ σ'.1) ∧ va_F (va_A (sh_W ad ac σ) sz) st t)
      y.2.2.2.2.2.1 y.2.2.2.2.2.2 (va_A (sh_W ad ac σ) sz)
theorem sh_U.blind {D : va_G} {ad : Nat → Nat} {ac : Nat → ClassId} {σ : sh_St} {A : Nat → Prop} {U : State} {g : JFrame} {mk : MethodId} {a : Array Value} (h : sh_U D ad ac σ A U) : sh_U D ad ac σ A (U.calling g mk a) := by
  obtain ⟨a1, a2, a3, a4, a5, a6, a7, a8⟩ := h
  have hv : U.vm.Alike (U.calling g mk a).vm := Vm.Alike.refl U.vm
  exact ⟨⟨fun c q hq => u_Kn_moved hv (a1.1 c q hq), fun o ci N x y z => ⟨arrOfT_moved hv (a1.2.1 o ci N x y z).1, (a1.2.1 o ci N x y z).2.moved hv⟩, fun q hq => va_Nw.same (u := U) (U := U.calling g mk a) rfl rfl (a1.2.2.1 q hq), a1.2.2.2.moved hv⟩, a2, a3, a4.moved hv, a5, a6, a7, a8⟩
theorem sh_C.mono {y : sh_M} {as : List sh_V} {σ : sh_St} {Q Q' : Option Int → sh_St → Prop} (h : sh_C y as σ Q) (hq : ∀ r σ', Q r σ' → Q' r σ') : sh_C y as σ Q' := by
  intro l D ad ac sz
  intro p e b1 b2 b3 s m args below b4 b5 b6 b7
  obtain ⟨k, o, c1, c2, c3, ⟨⟨r, σ', ad', ac', h1, h2⟩, h3⟩, c5⟩ := h l D ad ac sz p e b1 b2 b3 s m args below b4 b5 b6 b7
  exact ⟨k, o, c1, c2, c3, ⟨⟨r, σ', ad', ac', hq r σ' h1, h2⟩, h3⟩, c5⟩
theorem sh_lg_one {ad : Nat → Nat} (vs : List sh_V) : lg_sl (vs.map (sh_tr ad)) = vs.map (fun v => Slot.val (sh_tr ad v)) := by
  induction vs with
  | nil => rfl
  | cons v vs ih =>
    simp only [lg_sl, List.map_cons, List.flatMap_cons] at ih ⊢
    rw [ih, if_neg (by rw [sh_tr_cat]; decide)]
    rfl
theorem sh_lg_len {ad : Nat → Nat} (vs : List sh_V) : (lg_sl (vs.map (sh_tr ad))).length = vs.length := by rw [sh_lg_one, List.length_map]
theorem sh_L_entry {ad : Nat → Nat} {as : List sh_V} {n : Nat} (hn : as.length ≤ n) : sh_L ad ((lg_sl (as.map (sh_tr ad)) ++ List.replicate (n - (lg_sl (as.map (sh_tr ad))).length) Slot.unset).toArray) n (as.map some ++ List.replicate (n - as.length) none) := by
  have hlv := lv_entry (as.map (sh_tr ad)) (n := n) (by rw [sh_lg_len]; exact hn)
  refine ⟨hlv.1, hlv.2.1, fun i v hi => ?_⟩
  rw [sh_lg_one]
  by_cases h : i < as.length
  · rw [List.getElem?_append_left (by simpa using h), List.getElem?_map] at hi
    rw [List.getElem?_toArray, List.getElem?_append_left (by simpa using h), List.getElem?_map]
    cases hq : as[i]? with
    | none => rw [hq] at hi; cases hi
    | some w => rw [hq] at hi; simp only [Option.map_some, Option.some.injEq] at hi ⊢; rw [hi]
  · rw [List.getElem?_append_right (by simpa using h)] at hi
    rw [List.getElem?_replicate] at hi
    split at hi <;> simp at hi
/-- a body's walk is a contract -/
theorem sh_call {y : sh_M} {as : List sh_V} {σ : sh_St} {Q : Option Int → sh_St → Prop} (hy : plainName y.1.cls = true) (hlen : as.length ≤ y.2.2.1) (h : sh_O y 0 (as.map some ++ List.replicate (y.2.2.1 - as.length) none) [] (0, 0) σ Q) : sh_C y as σ Q := by
  intro l D ad ac sz
  refine Met.ofW (cc := y.2.1) (maxL := y.2.2.1) (ret := y.2.2.2.1) hy rfl ?_
  intro p e s m args below meth c s₁ B hml hv
  obtain ⟨rfl, hsz, a1, a2, a3, a4, a5, a6, a7, a8⟩ := hv
  have hts := atoms_spec (ws := sh_wsy y) B.pre
  have hX : sh_X y p (sh_rm y) s m (as.map (sh_tr ad)).toArray meth c := ⟨B.exec, B.bytes, hml, findClass_of_methodNamed B.named, fun w hw => hts w (List.mem_cons_of_mem _ hw), fun hi => (name_of_methodNamed B.named B.method).1.trans hi, rfl⟩
  have hA : ∀ q : Nat, s.heap.size ≤ q → va_A (sh_W ad ac σ) sz q := fun q hq => Or.inr (by omega)
  have hnA : ¬ va_A (sh_W ad ac σ) sz (ad 0) := by
    rintro (⟨k, e9, hk⟩ | hle)
    · exact a6 k _ hk rfl
    · omega
  have hR : sh_R D ad ac σ (va_A (sh_W ad ac σ) sz) s s.heap s.heap [] := ⟨a1, a2, a3.self, va_S.rf, a4, a5, hnA, a7, a8⟩
  rw [lg_entry_eq]
  refine h p l e (sh_rm y) s m _ below meth c _ D (va_A (sh_W ad ac σ) sz) s.heap ad ac s.heap [] _ hX hA hR (sh_L_entry hlen) ⟨Nat.zero_le _, Nat.zero_le _⟩ ?_
  intro r σ' ad' ac' H' locs' la' pc' hQ hR' h0 hs hle hr
  have hU : ∀ t : State, t.heap = H' → s.WarmedH t.vm → sh_U D ad' ac' σ' (va_A (sh_W ad ac σ) sz) t := by
    intro t ht hW
    obtain ⟨c1, c2, c3, c4, c5, c6, c7, c8, c9⟩ := hR'
    refine ⟨c1.moved hW, by rw [ht]; exact c2, c3, ?_, ?_, fun k q hk he => c7 (by rw [← he]; exact c3.2 k q hk), c8, c9⟩
    · rw [ht]
      exact (c5.kept (c4.2.1 _ c6 c7)).moved hW.alike
    · rw [ht]
      exact Nat.lt_of_lt_of_le c6 c4.1
  cases r with
  | none =>
    obtain ⟨hd, hrt⟩ := hr
    exact W.vret hX.1 hX.2.1 (by rw [B.returns]; exact hrt) (fun t ht hW => ⟨⟨none, σ', ad', ac', hQ, rfl, hU t ht hW, h0, hs, hle⟩, hR'.2.2.2.1.F ht⟩) hR'.2.2.2.1.2.2 hd B.notSynchronized
  | some z =>
    obtain ⟨hd, ty, hrt, hnr⟩ := hr
    exact W.zret hX.1 hX.2.1 (ty := ty) (by rw [B.returns]; exact hrt) hnr (fun t ht hW => ⟨⟨some z, σ', ad', ac', hQ, rfl, hU t ht hW, h0, hs, hle⟩, hR'.2.2.2.1.F ht⟩) hR'.2.2.2.1.2.2 hd B.notSynchronized
/-- the words of a callee among ours -/
theorem sh_good {y : sh_M} (h : Cond.code y.1 y.2.1 y.2.2.1 y.2.2.2.1 ∈ sh_ws) : GoodIn sh_ws (sh_wsy y) := by
  have hg : ∀ w ∈ sh_ws, w ∈ sh_ws ∧ ((w.onTables && w.keeps) = true ∨ ∃ ty, w = .arrayClass ty) := fun w hw => ⟨hw, good_of_word (List.mem_filter.mp hw).2⟩
  intro w hw
  rcases List.mem_cons.mp hw with e | hw
  · rw [e]
    exact hg _ h
  · exact hg w hw
def sh_cd (y : sh_M) (n : Nat) : Prop := Cond.code y.1 y.2.1 y.2.2.1 y.2.2.2.1 ∈ sh_ws ∧ (y.1.cls ≠ "java/lang/invoke/MethodHandle" ∧ y.1.cls ≠ "java/lang/invoke/VarHandle" ∧ (parseMethodDescriptor y.1.desc).map (fun d => d.parameters.length) = some n) ∧ Cond.initialized y.1.cls ∈ sh_ws ∧ plainName y.1.cls = true
def sh_LV (own : String) (idx : Nat) (y : sh_M) (n ci N : Nat) : Prop := sh_cd y n ∧ Cond.methodLink own idx y.1 ∈ sh_ws ∧ Cond.instanceMethod y.1 ∈ sh_ws ∧ Cond.selects y.1.cls y.1 y.1 ∈ sh_ws ∧ ∃ T, sh_cls ci y.1.cls T N
def sh_LS (own : String) (idx : Nat) (y : sh_M) (n : Nat) : Prop := sh_cd y n ∧ Cond.methodLink own idx y.1 ∈ sh_ws ∧ Cond.static y.1 ∈ sh_ws
def sh_LSN (own : String) (idx : Nat) (y : sh_M) (n : Nat) : Prop := sh_cd y n ∧ (∃ host, (own, idx, y.1, host) ∈ sh_nest) ∧ Cond.static y.1 ∈ sh_ws
def sh_LI (own : String) (idx : Nat) (y : sh_M) (n : Nat) : Prop := sh_cd y n ∧ Cond.methodLink own idx y.1 ∈ sh_ws ∧ Cond.instanceMethod y.1 ∈ sh_ws ∧ y.1.name = "<init>" ∧ y.2.2.2.1 = none
def sh_LIN (own : String) (idx : Nat) (y : sh_M) (n : Nat) : Prop := sh_cd y n ∧ (∃ host, (own, idx, y.1, host) ∈ sh_nest) ∧ Cond.instanceMethod y.1 ∈ sh_ws ∧ y.1.name = "<init>" ∧ y.2.2.2.1 = none
/-- room for a call of y2 in y, with cells and slots made so far -/
def sh_fit (y y2 : sh_M) (cn : Nat × Nat) (k : Nat) : Prop := y2.2.2.2.2.1.1 + 1 ≤ y.2.2.2.2.1.1 ∧ 8 + (y2.2.2.1 + 11) + y2.2.2.2.2.1.2 ≤ y.2.2.2.2.1.2 ∧ cn.1 + y2.2.2.2.2.2.1 ≤ y.2.2.2.2.2.1 ∧ cn.2 + y2.2.2.2.2.2.2 ≤ y.2.2.2.2.2.2 ∧ k ≤ 8
/-- behind a call, whatever kind it was -/
theorem sh_back {y y2 : sh_M} {pc : Nat} {ls : List (Option sh_V)} {st : List sh_V} {st0 : List Value} {cn : Nat × Nat} {σ : sh_St} {Q Q1 : Option Int → sh_St → Prop}
    {p : Program} {l : Launch} {e : Env} {R : Room} {s : State} {m : MethodId} {args : Array Value} {below : List Frame} {meth : Method} {c : Code} {Z : State → Prop}
    {D : va_G} {A : Nat → Prop} {H0 : Heap} {ad : Nat → Nat} {ac : Nat → ClassId} {H : Heap} {locs : List Loc} {la : Array Slot}
    (hX : sh_X y p R s m args meth c) (hA : ∀ q, H0.size ≤ q → A q) (hR : sh_R D ad ac σ A s H0 H locs) (hL : sh_L ad la y.2.2.1 ls) (hmc : cn.1 + y2.2.2.2.2.2.1 ≤ y.2.2.2.2.2.1 ∧ cn.2 + y2.2.2.2.2.2.2 ≤ y.2.2.2.2.2.2)
    (hret : ∀ (r : Option Int) (σ' : sh_St) (ad' : Nat → Nat) (ac' : Nat → ClassId) (H' : Heap) (locs' : List Loc) (la' : Array Slot) (pc' : Nat), Q r σ' → sh_R D ad' ac' σ' A s H0 H' locs' →
      (y.2.2.2.2.2.1 = 0 → ad' = ad ∧ ac' = ac) → (∀ k, k < σ.1 → ad' k = ad k ∧ ac' k = ac k) → σ.1 ≤ σ'.1 → sh_ret y pc' r →
      W p l e R s m args below meth c H' locs' y.2.2.2.2.2.1 y.2.2.2.2.2.2 Z (F0 m pc' la' (r.map (fun z => Value.int (Int32.ofInt z))).toList))
    (hst : y2.2.2.2.2.2.1 = 0 ∨ (sh_noref σ.1 st ∧ ∀ o : Nat, some (Sum.inr o) ∈ ls → o < σ.1))
    (h : ∀ r σ', Q1 r σ' → sh_O y (pc + 3) ls (r.toList.map Sum.inl ++ st) (cn.1 + y2.2.2.2.2.2.1, cn.2 + y2.2.2.2.2.2.2) σ' Q)
    (hr : va_Run p l e R s m args below meth c H locs cn.1 cn.2 y2.2.2.2.2.2.1 y2.2.2.2.2.2.2 (F0 m pc la st0) (st.map (sh_tr ad)) (fun st o t => (∃ (r : Option Int) (σ' : sh_St) (ad' : Nat → Nat) (ac' : Nat → ClassId), Q1 r σ' ∧ o = .returned (r.map (fun z => Value.int (Int32.ofInt z))) ∧ sh_U D ad' ac' σ' (va_A (sh_W ad ac σ) H.size) t ∧
        (y2.2.2.2.2.2.1 = 0 → ad' = ad ∧ ac' = ac) ∧ (∀ k, k < σ.1 → ad' k = ad k ∧ ac' k = ac k) ∧ σ.1 ≤ σ'.1) ∧ va_F (va_A (sh_W ad ac σ) H.size) st t) (va_A (sh_W ad ac σ) H.size)) :
    W p l e R s m args below meth c H locs cn.1 cn.2 Z (F0 m pc la st0) := by
  intro T hT X
  obtain ⟨v, st₀, t, T', L, g0, X', hLf, e1, e2, ⟨⟨r, σ', ad', ac', hQ, ho, hU, k0, ks, kle⟩, hz, hk⟩, stp⟩ := hr T hT X
  cases ho
  rw [g0] at hz hk
  obtain ⟨a1, a2, a3, a4, b1, c1, d1, g1, j1⟩ := hR
  have hAA : ∀ q, va_A (sh_W ad ac σ) H.size q → A q := by
    rintro q (⟨k, e9, hk9⟩ | hle)
    · exact a3.2 k _ hk9
    · exact hA q (Nat.le_trans a4.1 hle)
  have hS1 : va_S A H0 T'.heap (locs ++ L) := ⟨Nat.le_trans a4.1 (by rw [e1]; exact hz), fun q h1 h2 => by
      rw [e1, hk q (Nat.lt_of_lt_of_le h1 a4.1) (fun z => h2 (hAA q z))]
      exact a4.2.1 q h1 h2, fun q hq => by
      rcases List.mem_append.mp hq with h | h
      · exact a4.2.2 q h
      · exact hAA _ (hLf q h)⟩
  obtain ⟨u1, u2, u3, u4, u5, u6, u7, u8⟩ := hU
  have hal : t.vm.Alike s.vm := by rw [← e2]; exact X'.warmed.alike.symm
  have hK1 : sh_K D ac' σ'.1 s := ⟨a1.1, fun o ci N x y z => ⟨arrOfT_moved hal (u1.2.1 o ci N x y z).1, (u1.2.1 o ci N x y z).2.moved hal⟩, a1.2.2.1, a1.2.2.2⟩
  have hX1 : va_X (ad' 0) (σ'.2.1 0 0).toNat (fun j => Int32.ofInt (σ'.2.1 0 ((j : Int) + 1))) s H0 := by
    have h1 : va_X (ad' 0) (σ'.2.1 0 0).toNat (fun j => Int32.ofInt (σ'.2.1 0 ((j : Int) + 1))) s t.heap := u4.moved hal
    refine h1.kept ?_
    rw [(ks 0 j1).1]
    have h9 := hS1.2.1 _ c1 d1
    rw [e1] at h9
    exact h9.symm
  have hR1 : sh_R D ad' ac' σ' A s H0 T'.heap (locs ++ L) := ⟨hK1, by rw [e1]; exact u2, u3.weaken (fun k q hk h => hAA _ h), hS1, hX1, by rw [(ks 0 j1).1]; exact c1, by rw [(ks 0 j1).1]; exact d1, u7, u8⟩
  have hsame : st.map (sh_tr ad') = st.map (sh_tr ad) ∧ sh_L ad' la y.2.2.1 ls := by
    rcases hst with h9 | ⟨h9, h10⟩
    · rw [(k0 h9).1]
      exact ⟨rfl, hL⟩
    · exact ⟨sh_tr_same h9 (fun k hk => (ks k hk).1), hL.same h10 (fun k hk => (ks k hk).1)⟩
  have hgo := h r σ' hQ p l e R s m args below meth c Z D A H0 ad' ac' T'.heap (locs ++ L) la hX hA hR1 hsame.2 hmc (fun r2 σ2 ad2 ac2 H2 locs2 la2 pc2 q1 q2 q3 q4 q5 q6 =>
    hret r2 σ2 ad2 ac2 H2 locs2 la2 pc2 q1 q2 (fun h9 => by
      have hz9 : y2.2.2.2.2.2.1 = 0 := by have := hmc.1; omega
      exact ⟨(q3 h9).1.trans (k0 hz9).1, (q3 h9).2.trans (k0 hz9).2⟩) (fun k hk => ⟨(q4 k (Nat.lt_of_lt_of_le hk kle)).1.trans (ks k hk).1, (q4 k (Nat.lt_of_lt_of_le hk kle)).2.trans (ks k hk).2⟩) (Nat.le_trans kle q5) q6)
  have est : (r.toList.map Sum.inl ++ st).map (sh_tr ad') = (r.map (fun z => Value.int (Int32.ofInt z))).toList ++ st.map (sh_tr ad) := by
    rw [List.map_append, hsame.1]
    cases r <;> rfl
  rw [est] at hgo
  obtain ⟨t2, q1, q2⟩ := hgo T' rfl X'
  exact ⟨t2, stp t2 q1, q2⟩
theorem sh_preS {D : va_G} {ad : Nat → Nat} {ac : Nat → ClassId} {σ : sh_St} {A : Nat → Prop} {s : State} {H0 H : Heap} {locs : List Loc} {as : List sh_V} (hR : sh_R D ad ac σ A s H0 H locs) : PreS s H (va_Pc (as.map (sh_tr ad)) (fun U => U.heap.size = H.size ∧ sh_U D ad ac σ (fun _ => True) U)) (as.map (sh_tr ad)) := by
  obtain ⟨a1, a2, a3, a4, b1, c1, d1, g1, j1⟩ := hR
  refine ⟨fun a U g mk q => ⟨q.1, q.2.1, q.2.2.blind⟩, fun U hU hW => ⟨rfl, by rw [hU], a1.moved hW, by rw [hU]; exact a2, a3.weaken (fun _ _ _ _ => trivial), ?_, ?_, fun k q hk he => d1 (by rw [← he]; exact a3.2 k q hk), g1, j1⟩⟩
  · have h9 : va_X (ad 0) (σ.2.1 0 0).toNat (fun j => Int32.ofInt (σ.2.1 0 ((j : Int) + 1))) s U.heap := by
      rw [hU]
      exact b1.kept (a4.2.1 _ c1 d1)
    exact h9.moved hW.alike
  · rw [hU]
    exact Nat.lt_of_lt_of_le c1 a4.1
theorem sh_recv {D : va_G} {ad : Nat → Nat} {ac : Nat → ClassId} {σ : sh_St} {A : Nat → Prop} {s : State} {H0 H : Heap} {locs : List Loc} {o ci N : Nat} {C : String} {T : u_T} (hR : sh_R D ad ac σ A s H0 H locs) (hC : sh_cls ci C T N) (hk : sh_is σ.1 o ci N) : ∃ cellB : Cell, H[ad o]? = some cellB ∧ cellB.vm.isStatics = false ∧ s.vm.findClass C = some cellB.cls := by
  have he := sh_W_get (ad := ad) (ac := ac) hk
  rw [sh_E_obj hC.2.2.2.2] at he
  exact va_recv hR.1.none hR.2.1 hC.1 he
theorem sh_callS {y y2 : sh_M} {pc : Nat} {ls : List (Option sh_V)} {st : List sh_V} {cn : Nat × Nat} {σ : sh_St} {Q Q1 : Option Int → sh_St → Prop} {idx n : Nat} {as : List sh_V}  (hd : decode y.2.1 pc = .ok (.invokestatic idx, 3)) (hl : sh_LS y.1.cls idx y2 n) (hC : sh_C y2 as σ Q1) (hn : as.length = n) (hf : sh_fit y y2 cn st.length) (hst : y2.2.2.2.2.2.1 = 0 ∨ (sh_noref σ.1 st ∧ ∀ o : Nat, some (Sum.inr o) ∈ ls → o < σ.1)) (h : ∀ r σ', Q1 r σ' → sh_O y (pc + 3) ls (r.toList.map Sum.inl ++ st) (cn.1 + y2.2.2.2.2.2.1, cn.2 + y2.2.2.2.2.2.2) σ' Q) : sh_O y pc ls (as.reverse ++ st) cn σ Q := by
  intro p l e R s m args below meth c Z D A H0 ad ac H locs la hX hA hR hL hc hret
  obtain ⟨hcd, hw1, hw2⟩ := hl
  have hRR : y.2.2.2.2 = ((R.frames, R.locals), (R.cells, R.slots)) := by rw [hX.2.2.2.2.2.2]; rfl
  have hf0 := hf
  unfold sh_fit at hf
  rw [hRR] at hf
  have hroom : 2 * (F0 m pc la ((as.reverse ++ st).map (sh_tr ad))).monitorRoom + ((st.map (sh_tr ad)).map fun v => v.category).sum ≤ 8 := by
    show 2 * 0 + _ ≤ 8
    rw [sh_catsum]
    have := hf.2.2.2.2
    omega
  exact sh_back hX hA hR hL ⟨hf0.2.2.1, hf0.2.2.2.1⟩ hret hst h (va_runS (As := as.map (sh_tr ad)) (rest := st.map (sh_tr ad)) ⟨hX.1, hX.2.1, hX.2.2.1, hX.2.2.2.1, hX.2.2.2.2.1⟩ (hC l D ad ac H.size) ⟨callB_of n hX.2.2.2.2.1 (sh_good hcd.1) rfl rfl rfl (hX.2.2.2.2.1 _ hcd.2.2.1) (hX.2.2.2.2.1 _ hw1) hcd.2.1 ⟨hf.1, hf.2.1⟩, hX.2.2.2.2.1 _ hw2⟩ (sh_preS hR) rfl (by rw [List.length_map]; exact hn) hL.1 (by rw [List.map_append, List.map_reverse]) hroom hd ⟨hf.2.2.1, hf.2.2.2.1⟩)
theorem sh_callSN {y y2 : sh_M} {pc : Nat} {ls : List (Option sh_V)} {st : List sh_V} {cn : Nat × Nat} {σ : sh_St} {Q Q1 : Option Int → sh_St → Prop} {idx n : Nat} {as : List sh_V}  (hd : decode y.2.1 pc = .ok (.invokestatic idx, 3)) (hl : sh_LSN y.1.cls idx y2 n) (hC : sh_C y2 as σ Q1) (hn : as.length = n) (hf : sh_fit y y2 cn st.length) (hst : y2.2.2.2.2.2.1 = 0 ∨ (sh_noref σ.1 st ∧ ∀ o : Nat, some (Sum.inr o) ∈ ls → o < σ.1)) (h : ∀ r σ', Q1 r σ' → sh_O y (pc + 3) ls (r.toList.map Sum.inl ++ st) (cn.1 + y2.2.2.2.2.2.1, cn.2 + y2.2.2.2.2.2.2) σ' Q) : sh_O y pc ls (as.reverse ++ st) cn σ Q := by
  intro p l e R s m args below meth c Z D A H0 ad ac H locs la hX hA hR hL hc hret
  obtain ⟨hcd, ⟨host, hw1⟩, hw2⟩ := hl
  have hRR : y.2.2.2.2 = ((R.frames, R.locals), (R.cells, R.slots)) := by rw [hX.2.2.2.2.2.2]; rfl
  have hf0 := hf
  unfold sh_fit at hf
  rw [hRR] at hf
  have hroom : 2 * (F0 m pc la ((as.reverse ++ st).map (sh_tr ad))).monitorRoom + ((st.map (sh_tr ad)).map fun v => v.category).sum ≤ 8 := by
    show 2 * 0 + _ ≤ 8
    rw [sh_catsum]
    have := hf.2.2.2.2
    omega
  exact sh_back hX hA hR hL ⟨hf0.2.2.1, hf0.2.2.2.1⟩ hret hst h (va_runSN (As := as.map (sh_tr ad)) (rest := st.map (sh_tr ad)) ⟨hX.1, hX.2.1, hX.2.2.1, hX.2.2.2.1, hX.2.2.2.2.1⟩ (hC l D ad ac H.size) ⟨va_cnB n hX.2.2.2.2.1 (sh_good hcd.1) rfl rfl rfl (hR.1.2.2.1 _ hw1) (hX.2.2.2.2.1 _ hcd.2.2.1) hcd.2.1 ⟨hf.1, hf.2.1⟩, hX.2.2.2.2.1 _ hw2, trivial⟩ (sh_preS hR) rfl (by rw [List.length_map]; exact hn) hL.1 (by rw [List.map_append, List.map_reverse]) hroom hd ⟨hf.2.2.1, hf.2.2.2.1⟩)
theorem sh_callV {y y2 : sh_M} {pc : Nat} {ls : List (Option sh_V)} {st : List sh_V} {cn : Nat × Nat} {σ : sh_St} {Q Q1 : Option Int → sh_St → Prop} {idx n : Nat} {as : List sh_V} {o ci N : Nat} (hk : sh_is σ.1 o ci N) (hd : decode y.2.1 pc = .ok (.invokevirtual idx, 3)) (hl : sh_LV y.1.cls idx y2 n ci N) (hC : sh_C y2 (.inr o :: as) σ Q1) (hn : as.length = n) (hf : sh_fit y y2 cn st.length) (hst : y2.2.2.2.2.2.1 = 0 ∨ (sh_noref σ.1 st ∧ ∀ o : Nat, some (Sum.inr o) ∈ ls → o < σ.1)) (h : ∀ r σ', Q1 r σ' → sh_O y (pc + 3) ls (r.toList.map Sum.inl ++ st) (cn.1 + y2.2.2.2.2.2.1, cn.2 + y2.2.2.2.2.2.2) σ' Q) : sh_O y pc ls (as.reverse ++ .inr o :: st) cn σ Q := by
  intro p l e R s m args below meth c Z D A H0 ad ac H locs la hX hA hR hL hc hret
  obtain ⟨hcd, hw1, hw2, hw3, T, hcl⟩ := hl
  have hRR : y.2.2.2.2 = ((R.frames, R.locals), (R.cells, R.slots)) := by rw [hX.2.2.2.2.2.2]; rfl
  have hf0 := hf
  unfold sh_fit at hf
  rw [hRR] at hf
  have hroom : 2 * (F0 m pc la ((as.reverse ++ .inr o :: st).map (sh_tr ad))).monitorRoom + ((st.map (sh_tr ad)).map fun v => v.category).sum ≤ 8 := by
    show 2 * 0 + _ ≤ 8
    rw [sh_catsum]
    have := hf.2.2.2.2
    omega
  exact sh_back hX hA hR hL ⟨hf0.2.2.1, hf0.2.2.2.1⟩ hret hst h (va_runV (C := y2.1.cls) (b := ad o) (As := as.map (sh_tr ad)) (rest := st.map (sh_tr ad)) ⟨hX.1, hX.2.1, hX.2.2.1, hX.2.2.2.1, hX.2.2.2.2.1⟩ (hC l D ad ac H.size) ⟨callB_of n hX.2.2.2.2.1 (sh_good hcd.1) rfl rfl rfl (hX.2.2.2.2.1 _ hcd.2.2.1) (hX.2.2.2.2.1 _ hw1) hcd.2.1 ⟨hf.1, hf.2.1⟩, hX.2.2.2.2.1 _ hw2, hX.2.2.2.2.1 _ hw3⟩ ⟨(sh_preS (as := .inr o :: as) hR).1, sh_recv hR hcl hk, (sh_preS (as := .inr o :: as) hR).2⟩ rfl (by rw [List.length_map]; exact hn) hL.1 (by rw [List.map_append, List.map_reverse]; rfl) hroom hd ⟨hf.2.2.1, hf.2.2.2.1⟩)
theorem sh_callI {y y2 : sh_M} {pc : Nat} {ls : List (Option sh_V)} {st : List sh_V} {cn : Nat × Nat} {σ : sh_St} {Q Q1 : Option Int → sh_St → Prop} {idx n : Nat} {as : List sh_V} {o : Nat} (hd : decode y.2.1 pc = .ok (.invokespecial idx, 3)) (hl : sh_LI y.1.cls idx y2 n) (hC : sh_C y2 (.inr o :: as) σ Q1) (hn : as.length = n) (hf : sh_fit y y2 cn st.length) (hst : y2.2.2.2.2.2.1 = 0 ∨ (sh_noref σ.1 st ∧ ∀ o : Nat, some (Sum.inr o) ∈ ls → o < σ.1)) (h : ∀ r σ', Q1 r σ' → sh_O y (pc + 3) ls (r.toList.map Sum.inl ++ st) (cn.1 + y2.2.2.2.2.2.1, cn.2 + y2.2.2.2.2.2.2) σ' Q) : sh_O y pc ls (as.reverse ++ .inr o :: st) cn σ Q := by
  intro p l e R s m args below meth c Z D A H0 ad ac H locs la hX hA hR hL hc hret
  obtain ⟨hcd, hw1, hw2, hnm, hrn⟩ := hl
  have hRR : y.2.2.2.2 = ((R.frames, R.locals), (R.cells, R.slots)) := by rw [hX.2.2.2.2.2.2]; rfl
  have hf0 := hf
  unfold sh_fit at hf
  rw [hRR] at hf
  have hroom : 2 * (F0 m pc la ((as.reverse ++ .inr o :: st).map (sh_tr ad))).monitorRoom + ((st.map (sh_tr ad)).map fun v => v.category).sum ≤ 8 := by
    show 2 * 0 + _ ≤ 8
    rw [sh_catsum]
    have := hf.2.2.2.2
    omega
  exact sh_back hX hA hR hL ⟨hf0.2.2.1, hf0.2.2.2.1⟩ hret hst h (va_runI (b := ad o) (As := as.map (sh_tr ad)) (rest := st.map (sh_tr ad)) ⟨hX.1, hX.2.1, hX.2.2.1, hX.2.2.2.1, hX.2.2.2.2.1⟩ (hC l D ad ac H.size) ⟨callB_of n hX.2.2.2.2.1 (sh_good (y := y2) hcd.1) (by rw [← hrn]; rfl) rfl rfl (hX.2.2.2.2.1 _ hcd.2.2.1) (hX.2.2.2.2.1 _ hw1) hcd.2.1 ⟨hf.1, hf.2.1⟩, hnm, hX.2.2.2.2.1 _ hw2⟩ (sh_preS (as := .inr o :: as) hR) rfl (by rw [List.length_map]; exact hn) hL.1 (by rw [List.map_append, List.map_reverse]; rfl) hroom hd ⟨hf.2.2.1, hf.2.2.2.1⟩)
theorem sh_callIN {y y2 : sh_M} {pc : Nat} {ls : List (Option sh_V)} {st : List sh_V} {cn : Nat × Nat} {σ : sh_St} {Q Q1 : Option Int → sh_St → Prop} {idx n : Nat} {as : List sh_V} {o : Nat} (hd : decode y.2.1 pc = .ok (.invokespecial idx, 3)) (hl : sh_LIN y.1.cls idx y2 n) (hC : sh_C y2 (.inr o :: as) σ Q1) (hn : as.length = n) (hf : sh_fit y y2 cn st.length) (hst : y2.2.2.2.2.2.1 = 0 ∨ (sh_noref σ.1 st ∧ ∀ o : Nat, some (Sum.inr o) ∈ ls → o < σ.1)) (h : ∀ r σ', Q1 r σ' → sh_O y (pc + 3) ls (r.toList.map Sum.inl ++ st) (cn.1 + y2.2.2.2.2.2.1, cn.2 + y2.2.2.2.2.2.2) σ' Q) : sh_O y pc ls (as.reverse ++ .inr o :: st) cn σ Q := by
  intro p l e R s m args below meth c Z D A H0 ad ac H locs la hX hA hR hL hc hret
  obtain ⟨hcd, ⟨host, hw1⟩, hw2, hnm, hrn⟩ := hl
  have hRR : y.2.2.2.2 = ((R.frames, R.locals), (R.cells, R.slots)) := by rw [hX.2.2.2.2.2.2]; rfl
  have hf0 := hf
  unfold sh_fit at hf
  rw [hRR] at hf
  have hroom : 2 * (F0 m pc la ((as.reverse ++ .inr o :: st).map (sh_tr ad))).monitorRoom + ((st.map (sh_tr ad)).map fun v => v.category).sum ≤ 8 := by
    show 2 * 0 + _ ≤ 8
    rw [sh_catsum]
    have := hf.2.2.2.2
    omega
  exact sh_back hX hA hR hL ⟨hf0.2.2.1, hf0.2.2.2.1⟩ hret hst h (va_runIN (b := ad o) (As := as.map (sh_tr ad)) (rest := st.map (sh_tr ad)) ⟨hX.1, hX.2.1, hX.2.2.1, hX.2.2.2.1, hX.2.2.2.2.1⟩ (hC l D ad ac H.size) ⟨va_cnB n hX.2.2.2.2.1 (sh_good (y := y2) hcd.1) (by rw [← hrn]; rfl) rfl rfl (hR.1.2.2.1 _ hw1) (hX.2.2.2.2.1 _ hcd.2.2.1) hcd.2.1 ⟨hf.1, hf.2.1⟩, hnm, hX.2.2.2.2.1 _ hw2⟩ (sh_preS (as := .inr o :: as) hR) rfl (by rw [List.length_map]; exact hn) hL.1 (by rw [List.map_append, List.map_reverse]; rfl) hroom hd ⟨hf.2.2.1, hf.2.2.2.1⟩)
