/-! ===== 59: the claim ===== -/
/-! THE CLAIM OUT OF ONE WALK OF THE LAW'S BODY. Your part is whole_start (and what it stands on); all else here is the same for every law, but numbers. -/
def R_law : String := "ShadowTagLaw"
def lw_P (b : Addr) (xs : List Int32) (args : Array Value) (s : State) : Prop := args = #[.ref b] ∧ s.IntsAt b xs ∧ xs.length ≤ 260 ∧ (Jvm.Cond.and given_1 narrow_1).before args s = true
def lw_Q (_ : Array Value) (s : State) (o : Outcome) (t : State) : Prop := o = .returned (some (.int 1)) ∧ Framed s o t [] 600000 7302250
def lw_Z (below : List Frame) (a : Array Value) (s : State) : State → Prop := fun t => ∃ o, t.status = .running ∧ Ended t below o ∧ lw_Q a s o t
/-- the law's own end, with 1 on the stack, nothing written that was there before, its room as the claim has it -/
theorem lw_ret {p : Program} {l : Launch} {e : Env} {s : State} {m : MethodId} {below : List Frame} {meth : Method} {c : Code} {b : Nat} (hx : p.tables.exec = Jvm.exec) (hb : c.code = code) (hr : meth.sig.returnType = ret) (hlocks : meth.locks = false) {pc : Nat} {H : Heap} {ls : Array Slot} (hdg : decode code pc = .ok (.ireturn, 1)) : W p l e room_1 s m #[Value.ref b] below meth c H [] 600000 7302250 (lw_Z below #[Value.ref b] s) (F0 m pc ls [.int 1]) := by
  intro T hT X
  obtain ⟨fs, hret, hrun, hended, hW, hframe⟩ := X.leave (v := some (.int 1)) (hlocks := hlocks) (fun h => by rw [hr] at h; cases h)
  have hmeth' : T.vm.method? m = some meth := X.method'
  refine ⟨T.setFrames fs, ?_, .returned (some (.int 1)), hrun, hended, rfl, ⟨_, rfl⟩, hW, hframe⟩
  jvm_step X.here [X.here.top, hx, hb, hdg, hmeth', hr, ret, narrow_b1]
  (try refine ⟨rfl, ?_⟩); (try refine ⟨rfl, ?_⟩)
  first | (intro acts; rw [hret _ acts rfl rfl rfl]) | rw [hret _ _ rfl rfl rfl]
  exact Steps.refl _
/-- what holds at the law's entry: the machine, the code, the tables' words (any of lw_tbl by 'hts w (by decide +kernel)'), the script of L ints xs at the cell b, what the Statement gives of the start (any of its parts by flat_of_before) -/
def lw_At (p : Program) (s : State) (m : MethodId) (meth : Method) (c : Code) (b L : Nat) (xs : Nat → Int32) : Prop :=
  p.tables.exec = Jvm.exec ∧ c.code = code ∧ meth.sig.returnType = ret ∧ c.maxLocals = 8 ∧ s.vm.findClass R_law = some m.cls ∧ (∀ w ∈ lw_tbl, w.before #[Value.ref b] s = true) ∧ va_X b L xs s s.heap ∧ b < s.heap.size ∧ meth.locks = false ∧ (Jvm.Cond.and given_1 narrow_1).before #[Value.ref b] s = true
/-- the memory at the start: the script alone -/
def mS (L : Nat) (xs : Nat → Int32) : Int → Int := fun k => if k = 0 then (L : Int) else if 0 < k then (xs (k - 1).toNat).toInt else 0
def mI (L : Nat) (xs : Nat → Int32) : sh_Mem := fun o => if o = 0 then mS L xs else fun _ => 0
theorem law_body {L : Nat} {xs : Nat → Int32} (hL : L ≤ 260) : sh_O mL_law 0 [some (.inr 0), none, none, none, none, none, none, none] [] (0, 0) (1, mI L xs, fun _ _ => none) (qli (119, sh_PT) fun v _ => v = 1) := by
  have hF : Fr 1 (mI L xs) (fun _ _ => none) := fun k hk => ⟨fun f => by unfold mI; rw [if_neg (by omega)], fun _ => rfl⟩
  have h0 : ∀ k, 1 ≤ k → ∀ f, mI L xs k f = 0 := fun k hk f => (hF k hk).1 f
  refine sh_new (pc := 0) dL_law_0 cl_X6 wk_L_36 wn_X6 wi_X6 is_1.2.1 (fun f => (hF 1 (Nat.le_refl 1)).1 f) (fun f => (hF 1 (Nat.le_refl 1)).2 f) (by decide +kernel) (by simp [sh_noref]) (by simp) (by decide) ?_
  replace hF := hF.s
  refine sh_dup (pc := 3) dL_law_3 ?_
  refine sh_callI (as := []) (pc := 4) dL_law_4 lk_L_113 (Q1 := fun r σ' => r = none ∧ ∃ K R, σ' = (119, K, R) ∧ K = _ ∧ R = _ ∧ Fr 119 K R) (i_6 hF (fun q => ⟨rfl, _, _, rfl, rfl, rfl, q⟩)) rfl (show sh_fit mL_law mX6_init (1, 9) 1 from ⟨by decide, by decide, by decide, by decide, by decide⟩) (Or.inr ⟨by simp [sh_noref], by simp⟩) ?_
  rintro r σ' ⟨rfl, K, R, rfl, eK, eR, hF2⟩
  clear hF hF2
  subst eK; subst eR
  refine k_astore_n (pc := 7) [some (.inr 0), some (.inr 1), none, none, none, none, none, none] dL_law_7 rfl rfl (by decide) ?_
  rw [iP_all]
  obtain ⟨hC, hC0⟩ := ci_start h0
  have hS0 : iI6 (mI L xs) 0 0 = (L : Int) := by rw [hC0]; rfl
  exact t_law (Q := fun v _ => v = 1) (by rw [hS0]; omega) hC (fun _ => rfl)
theorem law_known {args : Array Value} {s : State} (hts : ∀ w ∈ lw_tbl, w.before args s = true) : ∃ D : va_G, (∀ (c : Nat) (q : vw_C), vwCl[c]? = some q → u_Kn s q.1 q.2.1 q.2.2 (D.1 c) (D.2 c)) := by
  have hw : ∀ w ∈ sh_ws, w.before args s = true := fun w h => hts w (List.mem_filter.mp h).1
  have one : ∀ (c : Nat), ∃ d : ClassId × (Nat → Nat), ∀ q : vw_C, vwCl[c]? = some q → u_Kn s q.1 q.2.1 q.2.2 d.1 d.2 := by
    intro c
    have go : ∀ {ci N : Nat} {C : String} {T : u_T}, sh_cls ci C T N → Cond.instantiable C N ∈ sh_ws → c = ci → ∃ d : ClassId × (Nat → Nat), ∀ q : vw_C, vwCl[c]? = some q → u_Kn s q.1 q.2.1 q.2.2 d.1 d.2 := by
      intro ci N C T h1 h2 h3
      subst h3
      obtain ⟨cC, iS, hk⟩ := u_known (ws := sh_ws) hw h1.2.1 (hw _ h2)
      refine ⟨(cC, iS), fun q hq => ?_⟩
      rw [h1.1] at hq
      cases hq
      exact hk
    by_cases hc : c < 7
    · have h8 : c = 0 ∨ c = 1 ∨ c = 2 ∨ c = 3 ∨ c = 4 ∨ c = 5 ∨ c = 6 := by omega
      rcases h8 with e | e | e | e | e | e | e
      · exact go cl_X0 wn_X0 e
      · exact go cl_X1 wn_X1 e
      · exact go cl_X2 wn_X2 e
      · exact go cl_X3 wn_X3 e
      · exact go cl_X4 wn_X4 e
      · exact go cl_X5 wn_X5 e
      · exact go cl_X6 wn_X6 e
    · refine ⟨(default, fun _ => 0), fun q hq => ?_⟩
      have h9 : c < 7 := (List.getElem?_eq_some_iff.mp hq).1
      exact absurd h9 hc
  exact ⟨(fun c => (Classical.choose (one c)).1, fun c => (Classical.choose (one c)).2), fun c q hq => Classical.choose_spec (one c) q hq⟩
theorem law_nest : ∀ q ∈ sh_nest, (Cond.methodLinkNest q.1 q.2.1 q.2.2.1 q.2.2.2) ∈ lw_tbl := by decide +kernel
theorem whole_start {p : Program} {e : Env} {s : State} {m : MethodId} {below : List Frame} {meth : Method} {c : Code} (l : Launch) (hflags : l.flags = flags0) {b L : Nat} {xs : Nat → Int32} (hL : L ≤ 260) (C0 : lw_At p s m meth c b L xs) : W p l e room_1 s m #[Value.ref b] below meth c s.heap [] 0 0 (lw_Z below #[Value.ref b] s) (entryFrame m ([Value.ref b] : List Value).toArray 8) := by
  obtain ⟨hx, hcode, hret, hml, hown, hts, hX, hbl, hnl, hgv⟩ := C0
  obtain ⟨D, hD⟩ := law_known hts
  have hXX : sh_X mL_law p room_1 s m #[Value.ref b] meth c := ⟨hx, hcode, hml, hown, fun w hw => hts w (List.mem_filter.mp hw).1, fun h => absurd h (by decide), rfl⟩
  have hK : sh_K D (fun _ => default) 1 s := ⟨hD, fun o ci N ho => absurd ho.2.2 (by have := ho.1; omega), fun q hq => va_Nw.of rfl (hts _ (law_nest q hq)), va_AO.of (hts _ (by decide +kernel))⟩
  have hW0 : sh_W (fun _ => b) (fun _ => (default : ClassId)) (1, mI L xs, fun _ _ => none) = [] := rfl
  have hR : sh_R D (fun _ => b) (fun _ => default) (1, mI L xs, fun _ _ => none) (fun q => s.heap.size ≤ q) s s.heap s.heap [] := by
    refine ⟨hK, ?_, ?_, va_S.rf, ?_, hbl, fun h => absurd hbl (Nat.not_lt.mpr h), fun o f q h => (by cases h), Nat.one_pos⟩
    · rw [hW0]
      exact fun k q h => by simp at h
    · rw [hW0]
      exact ⟨fun i j p q h => by simp at h, fun k q h => by simp at h⟩
    · have e1 : (mI L xs 0 0).toNat = L := rfl
      have e2 : (fun j : Nat => Int32.ofInt (mI L xs 0 ((j : Int) + 1))) = xs := by
        funext j
        have h1 : ¬ (j : Int) + 1 = 0 := by omega
        have h2 : 0 < (j : Int) + 1 := by omega
        have e3 : mI L xs 0 ((j : Int) + 1) = (xs j).toInt := by
          show (if (j : Int) + 1 = 0 then (L : Int) else if 0 < (j : Int) + 1 then (xs ((j : Int) + 1 - 1).toNat).toInt else 0) = _
          rw [if_neg h1, if_pos h2]
          congr 2
          omega
        rw [e3]
        exact Int32.ofInt_toInt _
      show va_X b (mI L xs 0 0).toNat (fun j : Nat => Int32.ofInt (mI L xs 0 ((j : Int) + 1))) s s.heap
      rw [e1, e2]
      exact hX
  have hbody := law_body (xs := xs) hL
  show W p l e room_1 s m #[Value.ref b] below meth c s.heap [] 0 0 (lw_Z below #[Value.ref b] s) (entryFrame m (([Sum.inr 0] : List sh_V).map (sh_tr (fun _ => b))).toArray 8)
  rw [lg_entry_eq]
  refine hbody p l e room_1 s m #[Value.ref b] below meth c (lw_Z below #[Value.ref b] s) D (fun q => s.heap.size ≤ q) s.heap (fun _ => b) (fun _ => default) s.heap [] _ hXX (fun q h => h) hR (sh_L_entry (as := [Sum.inr 0]) (n := 8) (by decide)) ⟨Nat.zero_le _, Nat.zero_le _⟩ ?_
  intro r σ' ad' ac' H' locs' la' pc' hQ hR' h0 hs hle hr
  obtain ⟨c', I, v, -, rfl, rfl, rfl⟩ := hQ
  refine va_forget (fun q hq => hR'.2.2.2.1.2.2 q hq) ?_
  exact lw_ret hx hcode hret hnl hr.1
set_option maxHeartbeats 4000000 in
theorem lw_walk (l : Launch) (hflags : l.flags = flags0) (b : Addr) (xs : List Int32) : MetFree l x (headSpec (Jvm.Cond.code x code maxLocals ret :: tables_1) room_1) (lw_P b xs) (fun _ _ _ _ _ => True) lw_Q := by
  refine MetFree.of_bodyS (code := code) (maxLocals := maxLocals) (ret := ret) (by decide) ?_ ?_
  · intro args s m h hn
    obtain ⟨meth, c, h1, h2, h3, h4, h5, h6, -, -⟩ := Cond.code_spec hn (atoms_spec (ws := Jvm.Cond.code x code maxLocals ret :: tables_1) h _ List.mem_cons_self)
    exact ⟨meth, c, h1, h2, h3, h4, h5, h6⟩
  · intro p e s m args below meth c s₁ B hml0 hP _
    obtain ⟨rfl, hx, hbd, hgv⟩ := hP
    obtain ⟨scr, harrAt, hlist, hof, hsmall⟩ := hx
    obtain ⟨hcb, hkn, -, -⟩ := State.arrayAt?_spec harrAt
    have hown : s.vm.findClass R_law = some m.cls := findClass_of_methodNamed B.named
    have hts0 : ∀ c ∈ (Jvm.Cond.code x code maxLocals ret :: tables_1), c.before #[Value.ref b] s = true := atoms_spec (ws := Jvm.Cond.code x code maxLocals ret :: tables_1) B.pre
    have hts : ∀ w ∈ lw_tbl, w.before #[Value.ref b] s = true := k2_hts_sels lw_privs (fun w hw => hts0 w (List.mem_cons_of_mem _ hw)) lw_privs_ok
    have hml : c.maxLocals = 8 := B.maxLocals_eq (hts0 _ List.mem_cons_self)
    have X₀ : Stand p l e room_1 s m #[Value.ref b] below meth c s₁ [] 0 0 := Stand.of_body B
    have hh0 : s₁.heap = s.heap := by rw [B.state]; rfl
    have hsz : scr.slots.size = xs.length := by rw [← Array.length_toList, hlist, List.length_map]
    have hval : ∀ j : Nat, j < xs.length → scr.slots[j]? = some (.int (xs.getD j 0)) := fun j hj => by
      rw [← Array.getElem?_toList, hlist]
      simp [hj]
    have hbl : b < s.heap.size := (Array.getElem?_eq_some_iff.mp hcb).1
    have hX : va_X b xs.length (fun j => xs.getD j 0) s s.heap := ⟨scr, hcb, hof, hkn, hsz, hval⟩
    have K : W p l e room_1 s m #[Value.ref b] below meth c s₁.heap [] 0 0 (lw_Z below #[Value.ref b] s) (entryFrame m ([Value.ref b] : List Value).toArray 8) := by
      rw [hh0]
      exact whole_start l hflags hbd ⟨B.exec, B.bytes, B.returns, hml, hown, hts, hX, hbl, B.notSynchronized, hgv⟩
    obtain ⟨t, a1, o, b1, b2, b3⟩ := K s₁ rfl X₀
    exact ⟨t, o, a1, b1, b2, b3⟩
theorem lw_pre_spec {args : Array Value} {s : State} (h : (Jvm.Cond.and given_1 narrow_1).before args s = true) (hr : rest_1_c.before args s = true) : ∃ (b : Addr) (xs : List Int32), lw_P b xs args s := by
  have hs := flat_of_before _ h
  have hq := flat_of_before _ hr
  have hc : (Cond.count 1).before args s = true := hs _ (by decide +kernel)
  have harr : (Cond.arrayOf (.arg 0) .int).before args s = true := hs _ (by decide +kernel)
  have hle : (Cond.le (.length (.arg 0)) (.int 260)).before args s = true := hs _ (by decide +kernel)
  have hlen : (Cond.isInt (.length (.arg 0))).before args s = true := hq _ (by decide +kernel)
  have hall : (Cond.all (.arg 0) (.isInt (.elem (.arg 0) (.index 0)))).before args s = true := hq _ (by decide +kernel)
  obtain ⟨b, xs, hb, hx⟩ := State.ints_of_pre rfl harr hlen hall
  have hsm : xs.length < 2 ^ 31 := hx.choose_spec.2.2.2
  have hev : (Term.length (.arg 0)).eval args s none [] s = some (.int xs.length.toInt32) := hx.length_eval hb
  have hv := Cond.le_ints hev (show (Term.int 260).eval args s none [] s = some (.int 260) from rfl)
  have hd : xs.length.toInt32 ≤ 260 := by
    simpa [Cond.before, Cond.holds, hv] using hle
  have hN : xs.length ≤ 260 := (Int32.ofNat_le_ofNat hsm (by decide)).mp (show Int32.ofNat xs.length ≤ Int32.ofNat 260 from hd)
  exact ⟨b, xs, Cond.one_arg hc (show args[0]? = some (.ref b) from hb), hx, hN, h⟩
theorem lw_comes (l : Launch) (hflags : l.flags = flags0) : Comes l x (Jvm.Cond.code x code maxLocals ret :: tables_1) room_1 (fun tb e args s => Calls_1 tb e args s ∧ rest_1 tb e args s ∧ Pre_1 tb e args s)
    (fun _ _ args s o t => lw_Q args s o t) := by
  intro p e ha hc hk s m args below hf hfit hheap happ hpre
  obtain ⟨b, xs, hP⟩ := lw_pre_spec hpre.2.2 hpre.2.1
  obtain ⟨k, o, h1, h2, h3, hQ⟩ := lw_walk l hflags b xs p e ha hc hk s m args below hf ((Spec.applies_iff_loose hf).mp happ).1 hP trivial
  exact ⟨k, o, h1, h2, h3, hQ⟩
theorem lw_frame {s t : State} {o : Outcome} {args : Array Value} (h : Framed s o t [] 600000 7302250) :
    Framed s o t (fieldLocs frame_1_writes args s ++ arrayLocs frame_1_arrays args s ++ staticLocs frame_1_statics s) 600000 7302250 := h
theorem lw_limb (L : Cond) (hL : ∀ (args : Array Value) (s t : State), L.after args s (.returned (some (.int 1))) t = true) :
    ArmFor flags0 classFile x code maxLocals ret World_1 tables_1 room_1 Calls_1 rest_1 Pre_1
      (fun tb e a s o t => postC L tb e a s o t ∧ Framed s o t (fieldLocs frame_1_writes a s ++ arrayLocs frame_1_arrays a s ++ staticLocs frame_1_statics s) 600000 7302250) := by
  intro l hflags _ _ p e ha hc hk s m args below hf hfit hheap happ hpre
  obtain ⟨k, o, h1, h2, h3, rfl, hF⟩ := lw_comes l hflags p e ha hc hk s m args below hf hfit hheap happ hpre
  exact ⟨k, _, h1, h2, h3, hL args s _, lw_frame hF⟩
theorem i_vc : Claimed_1_1 ∧ Claimed_1_2 := ⟨lw_limb limb_1_1 (fun args s t => by simp [limb_1_1, Cond.after, Cond.holds, Cond.value]), lw_limb limb_1_2 (fun args s t => Cond.after_iff.mpr (by
  first | (rw [show limb_1_2 = Cond.eq .result (.int 1) from rfl, Cond.eq_ints (x := 1) (y := 1) rfl rfl]; simp; done) | (simp [limb_1_2, Cond.value, Term.eval]; done)))⟩
