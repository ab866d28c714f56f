/-! ===== 03: the frame of this proof: whole numbers for ints, objects by their order of making, one memory for the whole system ===== -/
abbrev sh_V : Type := Int ⊕ Nat
abbrev sh_Mem : Type := Nat → Int → Int
abbrev sh_Ptr : Type := Nat → Nat → Option Nat
abbrev sh_St : Type := Nat × sh_Mem × sh_Ptr
abbrev sh_M : Type := MethodName × ByteArray × Nat × Option FieldType × (Nat × Nat) × (Nat × Nat)
def sh_rm (y : sh_M) : Room := { frames := y.2.2.2.2.1.1, cells := y.2.2.2.2.2.1, slots := y.2.2.2.2.2.2, locals := y.2.2.2.2.1.2 }
def sh_tr (ad : Nat → Nat) (v : sh_V) : Value := match v with
  | .inl z => .int (Int32.ofInt z)
  | .inr o => .ref (ad o)
def sh_ws : List Cond := lw_tbl.filter goodWord
def sh_wsy (y : sh_M) : List Cond := Cond.code y.1 y.2.1 y.2.2.1 y.2.2.2.1 :: sh_ws
def sh_isr (t : FieldType) : Bool := match t with
  | .object _ => true
  | .array _ => true
  | _ => false
def sh_et (k : Nat) : FieldType := match k with
  | 8 => .int
  | 9 => .boolean
  | 10 => .char
  | 12 => .int
  | _ => .object RX4
def sh_fs (ad : Nat → Nat) (I : sh_Mem) (P : sh_Ptr) (k ci N : Nat) : List Value := (List.range N).map (fun f => if sh_isr (sh_ty ci f) then va_rf ((P k f).map ad) else Value.int (Int32.ofInt (I k (f : Int))))
def sh_ia (I : sh_Mem) (k : Nat) : Nat → Int32 := fun j => Int32.ofInt (I k (j : Int))
/-- how long an array is; of the kind 12, an array of whole numbers of the law's own, the map of objects tells it -/
def sh_len (P : sh_Ptr) (k : Nat) (kd : Nat × Nat) : Nat := if kd.1 = 12 then (P k 0).getD 0 else kd.2
def sh_E (ad : Nat → Nat) (ac : Nat → ClassId) (I : sh_Mem) (P : sh_Ptr) (k : Nat) (kd : Nat × Nat) : va_E :=
  if kd.1 < 8 then .inr (kd.1, sh_fs ad I P k kd.1 kd.2)
  else .inl (ac k, sh_len P k kd, if kd.1 = 11 then .inr (.inr (.inr (.inr (fun j => (P k j).map ad)))) else .inl (sh_ia I k))
def sh_W (ad : Nat → Nat) (ac : Nat → ClassId) (σ : sh_St) : va_W := (List.range (σ.1 - 1)).map (fun k => (ad (k + 1), sh_E ad ac σ.2.1 σ.2.2 (k + 1) (sh_KD (k + 1))))
def sh_is (n o ci N : Nat) : Prop := o < n ∧ sh_KD o = (ci, N) ∧ 0 < o
def sh_u (I : sh_Mem) (o : Nat) (f v : Int) : sh_Mem := fun a b => if a = o ∧ b = f then v else I a b
def sh_uP (P : sh_Ptr) (o f q : Nat) : sh_Ptr := fun a b => if a = o ∧ b = f then some q else P a b
theorem sh_W_len {ad : Nat → Nat} {ac : Nat → ClassId} {σ : sh_St} : (sh_W ad ac σ).length = σ.1 - 1 := by simp [sh_W]
theorem sh_W_get {ad : Nat → Nat} {ac : Nat → ClassId} {σ : sh_St} {o ci N : Nat} (h : sh_is σ.1 o ci N) : (sh_W ad ac σ)[o - 1]? = some (ad o, sh_E ad ac σ.2.1 σ.2.2 o (ci, N)) := by
  obtain ⟨h1, h2, h3⟩ := h
  have e : o - 1 + 1 = o := by omega
  have hlt : o - 1 < σ.1 - 1 := by omega
  rw [sh_W, List.getElem?_map, List.getElem?_range hlt]
  simp only [Option.map_some, e, h2]
theorem sh_W_idx {ad : Nat → Nat} {ac : Nat → ClassId} {σ : sh_St} {k : Nat} {q : Nat × va_E} (h : (sh_W ad ac σ)[k]? = some q) : k + 1 < σ.1 ∧ q = (ad (k + 1), sh_E ad ac σ.2.1 σ.2.2 (k + 1) (sh_KD (k + 1))) := by
  have hk : k < (sh_W ad ac σ).length := (List.getElem?_eq_some_iff.mp h).1
  rw [sh_W_len] at hk
  rw [sh_W, List.getElem?_map, List.getElem?_range hk] at h
  exact ⟨by omega, (Option.some.inj h).symm⟩
theorem sh_mapset {β : Type} {n o : Nat} {g g' : Nat → β} {x : β} (h1 : ∀ j, j < n → j ≠ o → g' j = g j) (h2 : g' o = x) : ((List.range n).map g).set o x = (List.range n).map g' := by
  apply List.ext_getElem?
  intro j
  rw [List.getElem?_set]
  by_cases hj : j < n
  · by_cases hjo : o = j
    · subst hjo
      simp [hj, h2]
    · rw [if_neg hjo]
      simp [List.getElem?_map, List.getElem?_range hj, h1 j hj (fun e => hjo e.symm)]
  · by_cases hjo : o = j
    · subst hjo
      simp [hj]
    · rw [if_neg hjo]
      simp [hj]
theorem sh_E_obj {ad : Nat → Nat} {ac : Nat → ClassId} {I : sh_Mem} {P : sh_Ptr} {o ci N : Nat} (h : ci < 8) : sh_E ad ac I P o (ci, N) = .inr (ci, sh_fs ad I P o ci N) := by simp [sh_E, h]
theorem sh_E_arr {ad : Nat → Nat} {ac : Nat → ClassId} {I : sh_Mem} {P : sh_Ptr} {o ci N : Nat} (h : 8 ≤ ci) (h2 : ci < 11) : sh_E ad ac I P o (ci, N) = .inl (ac o, N, .inl (sh_ia I o)) := by
  have h3 : ¬ ci < 8 := by omega
  have h4 : ¬ ci = 11 := by omega
  have h5 : ¬ ci = 12 := by omega
  simp [sh_E, sh_len, h3, h4, h5]
theorem sh_E_dyn {ad : Nat → Nat} {ac : Nat → ClassId} {I : sh_Mem} {P : sh_Ptr} {o N M : Nat} (h : P o 0 = some M) : sh_E ad ac I P o (12, N) = .inl (ac o, M, .inl (sh_ia I o)) := by simp [sh_E, sh_len, h]
theorem sh_E_ref {ad : Nat → Nat} {ac : Nat → ClassId} {I : sh_Mem} {P : sh_Ptr} {o N : Nat} : sh_E ad ac I P o (11, N) = .inl (ac o, N, .inr (.inr (.inr (.inr (fun j => (P o j).map ad))))) := by simp [sh_E, sh_len]
/-- another object's cell doesn't feel a change -/
theorem sh_E_congr {ad : Nat → Nat} {ac : Nat → ClassId} {I I' : sh_Mem} {P P' : sh_Ptr} {k : Nat} {kd : Nat × Nat} (h1 : I' k = I k) (h2 : P' k = P k) : sh_E ad ac I' P' k kd = sh_E ad ac I P k kd := by
  have h3 : sh_ia I' k = sh_ia I k := by
    funext j
    simp only [sh_ia, h1]
  simp only [sh_E, sh_len, sh_fs, h1, h2, h3]
theorem sh_W_set {ad : Nat → Nat} {ac : Nat → ClassId} {n o : Nat} {I I' : sh_Mem} {P P' : sh_Ptr} {ci N : Nat} {x : va_E} (h : sh_is n o ci N) (h1 : ∀ k, k ≠ o → I' k = I k) (h2 : ∀ k, k ≠ o → P' k = P k) (h3 : sh_E ad ac I' P' o (ci, N) = x) : (sh_W ad ac (n, I, P)).set (o - 1) (ad o, x) = sh_W ad ac (n, I', P') := by
  obtain ⟨ha, hb, hc⟩ := h
  have e : o - 1 + 1 = o := by omega
  refine sh_mapset (fun j hj hjo => ?_) ?_
  · have hne : j + 1 ≠ o := by omega
    show (ad (j + 1), sh_E ad ac I' P' (j + 1) (sh_KD (j + 1))) = (ad (j + 1), sh_E ad ac I P (j + 1) (sh_KD (j + 1)))
    rw [sh_E_congr (h1 _ hne) (h2 _ hne)]
  · show (ad (o - 1 + 1), sh_E ad ac I' P' (o - 1 + 1) (sh_KD (o - 1 + 1))) = (ad o, x)
    rw [e, hb, h3]
theorem sh_fs_get {ad : Nat → Nat} {I : sh_Mem} {P : sh_Ptr} {k ci N f : Nat} (hf : f < N) : (sh_fs ad I P k ci N)[f]? = some (if sh_isr (sh_ty ci f) then va_rf ((P k f).map ad) else Value.int (Int32.ofInt (I k (f : Int)))) := by
  rw [sh_fs, List.getElem?_map, List.getElem?_range hf]
  rfl
theorem sh_fs_len {ad : Nat → Nat} {I : sh_Mem} {P : sh_Ptr} {k ci N : Nat} : (sh_fs ad I P k ci N).length = N := by simp [sh_fs]
theorem sh_fs_setI {ad : Nat → Nat} {I : sh_Mem} {P : sh_Ptr} {k ci N f : Nat} {v : Int} (hi : sh_isr (sh_ty ci f) = false) : (sh_fs ad I P k ci N).set f (.int (Int32.ofInt v)) = sh_fs ad (sh_u I k (f : Int) v) P k ci N := by
  refine sh_mapset (fun j hj hjo => ?_) ?_
  · have hne : ¬ (j : Int) = (f : Int) := by omega
    simp [sh_u, hne]
  · simp [sh_u, hi]
theorem sh_fs_setP {ad : Nat → Nat} {I : sh_Mem} {P : sh_Ptr} {k ci N f q : Nat} (hi : sh_isr (sh_ty ci f) = true) : (sh_fs ad I P k ci N).set f (.ref (ad q)) = sh_fs ad I (sh_uP P k f q) k ci N := by
  refine sh_mapset (fun j hj hjo => ?_) ?_
  · simp [sh_uP, hjo]
  · simp [sh_uP, hi, va_rf]
theorem sh_u_ne {I : sh_Mem} {o : Nat} {f v : Int} {k : Nat} (h : k ≠ o) : sh_u I o f v k = I k := by
  funext b
  simp [sh_u, h]
theorem sh_uP_ne {P : sh_Ptr} {o f q k : Nat} (h : k ≠ o) : sh_uP P o f q k = P k := by
  funext b
  simp [sh_uP, h]
theorem sh_ia_set {I : sh_Mem} {o : Nat} {i v : Int} {w : Int32} (h0 : 0 ≤ i) (hw : w = Int32.ofInt v) : upd (sh_ia I o) i.toNat w = sh_ia (sh_u I o i v) o := by
  funext j
  simp only [upd, sh_ia, sh_u]
  by_cases h : j = i.toNat
  · subst h
    rw [if_pos rfl, if_pos ⟨trivial, by omega⟩, hw]
  · rw [if_neg h, if_neg]
    intro q
    exact h (by omega)
/-! what is known of classes, arrays, links through nest mates -/
def sh_K (D : va_G) (ac : Nat → ClassId) (n : Nat) (U : State) : Prop :=
  (∀ (c : Nat) (q : vw_C), vwCl[c]? = some q → u_Kn U q.1 q.2.1 q.2.2 (D.1 c) (D.2 c)) ∧
  (∀ o ci N, sh_is n o ci N → 8 ≤ ci → ci < 13 → ArrOfT U (ac o) (sh_et ci) ∧ va_RA U (ac o) (sh_et ci)) ∧
  (∀ q ∈ sh_nest, va_Nw (.methodLinkNest q.1 q.2.1 q.2.2.1 q.2.2.2) U) ∧ va_AO RX4 U
theorem sh_K.moved {D : va_G} {ac : Nat → ClassId} {n : Nat} {s U : State} (hW : s.WarmedH U.vm) (h : sh_K D ac n s) : sh_K D ac n U :=
  ⟨fun c q hq => u_Kn_moved hW.alike (h.1 c q hq), fun o ci N a b c => ⟨arrOfT_moved hW.alike (h.2.1 o ci N a b c).1, (h.2.1 o ci N a b c).2.moved hW.alike⟩, fun q hq => va_Nw.warmM hW (h.2.2.1 q hq), h.2.2.2.moved hW.alike⟩
theorem sh_K.one {D : va_G} {ac : Nat → ClassId} {n o ci N : Nat} {U : State} (h : sh_K D ac n U) (ho : sh_is n o ci N) (h8 : 8 ≤ ci) (h12 : ci < 13) : va_K D vwCl [(ac o, sh_et ci)] U := by
  refine ⟨h.1, fun k q hk => ?_⟩
  have hz : k < 1 := (List.getElem?_eq_some_iff.mp hk).1
  rw [show k = 0 by omega] at hk
  cases hk
  exact h.2.1 o ci N ho h8 h12
theorem sh_K.none {D : va_G} {ac : Nat → ClassId} {n : Nat} {U : State} (h : sh_K D ac n U) : va_K D vwCl [] U := ⟨h.1, fun k q hk => by simp at hk⟩
def sh_X (y : sh_M) (p : Program) (R : Room) (s : State) (m : MethodId) (args : Array Value) (meth : Method) (c : Code) : Prop :=
  p.tables.exec = Jvm.exec ∧ c.code = y.2.1 ∧ c.maxLocals = y.2.2.1 ∧ s.vm.findClass y.1.cls = some m.cls ∧ (∀ w ∈ sh_ws, w.before args s = true) ∧ (y.1.name = "<init>" → meth.name = "<init>") ∧ R = sh_rm y
def sh_R (D : va_G) (ad : Nat → Nat) (ac : Nat → ClassId) (σ : sh_St) (A : Nat → Prop) (s : State) (H0 H : Heap) (locs : List Loc) : Prop :=
  sh_K D ac σ.1 s ∧ va_P D vwCl (sh_W ad ac σ) H ∧ va_D A (sh_W ad ac σ) ∧ va_S A H0 H locs ∧ va_X (ad 0) (σ.2.1 0 0).toNat (fun j => Int32.ofInt (σ.2.1 0 ((j : Int) + 1))) s H0 ∧ ad 0 < H0.size ∧ ¬ A (ad 0) ∧ (∀ o f q, σ.2.2 o f = some q → q < σ.1) ∧ 0 < σ.1
def sh_L (ad : Nat → Nat) (la : Array Slot) (n : Nat) (ls : List (Option sh_V)) : Prop := la.size = n ∧ lv_wf la ∧ ∀ (i : Nat) (v : sh_V), ls[i]? = some (some v) → la[i]? = some (.val (sh_tr ad v))
theorem sh_tr_cat (ad : Nat → Nat) (v : sh_V) : (sh_tr ad v).category = 1 := by cases v <;> rfl
/-- how a method ends -/
def sh_ret (y : sh_M) (pc : Nat) (r : Option Int) : Prop := match r with
  | none => decode y.2.1 pc = .ok (.return_, 1) ∧ y.2.2.2.1 = none
  | some z => decode y.2.1 pc = .ok (.ireturn, 1) ∧ ∃ ty, y.2.2.2.1 = some ty ∧ narrow ty (.int (Int32.ofInt z)) = .int (Int32.ofInt z)
/-- from this place the method comes to its end with an answer and a memory of which Q holds -/
def sh_O (y : sh_M) (pc : Nat) (ls : List (Option sh_V)) (st : List sh_V) (cn : Nat × Nat) (σ : sh_St) (Q : Option Int → sh_St → Prop) : Prop :=
  ∀ (p : Program) (l : Launch) (e : Env) (R : Room) (s : State) (m : MethodId) (args : Array Value) (below : List Frame) (meth : Method) (c : Code) (Z : State → Prop)
    (D : va_G) (A : Nat → Prop) (H0 : Heap) (ad : Nat → Nat) (ac : Nat → ClassId) (H : Heap) (locs : List Loc) (la : Array Slot),
    sh_X y p R s m args meth c → (∀ q, H0.size ≤ q → A q) → sh_R D ad ac σ A s H0 H locs → sh_L ad la y.2.2.1 ls → (cn.1 ≤ y.2.2.2.2.2.1 ∧ cn.2 ≤ y.2.2.2.2.2.2) →
    (∀ (r : Option Int) (σ' : sh_St) (ad' : Nat → Nat) (ac' : Nat → ClassId) (H' : Heap) (locs' : List Loc) (la' : Array Slot) (pc' : Nat), Q r σ' → sh_R D ad' ac' σ' A s H0 H' locs' →
      (y.2.2.2.2.2.1 = 0 → ad' = ad ∧ ac' = ac) → (∀ k, k < σ.1 → ad' k = ad k ∧ ac' k = ac k) → σ.1 ≤ σ'.1 → sh_ret y pc' r →
      W p l e R s m args below meth c H' locs' y.2.2.2.2.2.1 y.2.2.2.2.2.2 Z (F0 m pc' la' (r.map (fun z => Value.int (Int32.ofInt z))).toList)) →
    W p l e R s m args below meth c H locs cn.1 cn.2 Z (F0 m pc la (st.map (sh_tr ad)))
theorem sh_O.mono {y : sh_M} {pc : Nat} {ls : List (Option sh_V)} {st : List sh_V} {cn : Nat × Nat} {σ : sh_St} {Q Q' : Option Int → sh_St → Prop} (h : sh_O y pc ls st cn σ Q) (hq : ∀ r σ', Q r σ' → Q' r σ') : sh_O y pc ls st cn σ Q' := by
  intro p l e R s m args below meth c Z D A H0 ad ac H locs la hX hA hR hL hc hret
  exact h p l e R s m args below meth c Z D A H0 ad ac H locs la hX hA hR hL hc (fun r σ' ad' ac' H' locs' la' pc' hQ => hret r σ' ad' ac' H' locs' la' pc' (hq r σ' hQ))
theorem sh_O.locals {y : sh_M} {pc : Nat} {ls ls' : List (Option sh_V)} {st : List sh_V} {cn : Nat × Nat} {σ : sh_St} {Q : Option Int → sh_St → Prop} (h : sh_O y pc ls' st cn σ Q) (hl : ∀ (i : Nat) (v : sh_V), ls'[i]? = some (some v) → ls[i]? = some (some v)) : sh_O y pc ls st cn σ Q := by
  intro p l e R s m args below meth c Z D A H0 ad ac H locs la hX hA hR hL hc hret
  exact h p l e R s m args below meth c Z D A H0 ad ac H locs la hX hA hR ⟨hL.1, hL.2.1, fun i v hi => hL.2.2 i v (hl i v hi)⟩ hc hret
/-! instructions that touch neither heap nor locals -/
def sh_Bd (a : Int) : Prop := -2147483648 ≤ a ∧ a < 2147483648
theorem sh_ti {a : Int} (h : sh_Bd a) : (Int32.ofInt a).toInt = a := Int32.toInt_ofInt_of_le h.1 h.2
theorem sh_Bd0 : sh_Bd 0 := ⟨by decide, by decide⟩
theorem sh_eqI {a b : Int} (ha : sh_Bd a) (hb : sh_Bd b) : Int32.ofInt a = Int32.ofInt b ↔ a = b := by
  rw [← Int32.toInt_inj, sh_ti ha, sh_ti hb]
theorem sh_ltI {a b : Int} (ha : sh_Bd a) (hb : sh_Bd b) : Int32.ofInt a < Int32.ofInt b ↔ a < b := by
  rw [Int32.lt_iff_toInt_lt, sh_ti ha, sh_ti hb]
theorem sh_leI {a b : Int} (ha : sh_Bd a) (hb : sh_Bd b) : Int32.ofInt a ≤ Int32.ofInt b ↔ a ≤ b := by
  rw [Int32.le_iff_toInt_le, sh_ti ha, sh_ti hb]
theorem sh_nz {b : Int} (h1 : 0 < b) (h2 : b < 2147483648) : ¬ Int32.ofInt b = 0 := by
  intro h
  have := (sh_eqI (a := b) (b := 0) ⟨by omega, h2⟩ sh_Bd0).mp h
  omega
theorem sh_div {a b : Int} (ha : 0 ≤ a) (ha2 : a < 2147483648) (hb : 0 < b) (hb2 : b < 2147483648) : Int32.ofInt a / Int32.ofInt b = Int32.ofInt (a / b) := by
  have h1 : (Int32.ofInt a).toInt = a := sh_ti ⟨by omega, ha2⟩
  have h2 : (Int32.ofInt b).toInt = b := sh_ti ⟨by omega, hb2⟩
  have h3 : 0 ≤ a / b := Int.ediv_nonneg ha (by omega)
  have h4 : a / b ≤ a := Int.ediv_le_self b ha
  apply Int32.toInt_inj.mp
  have hne : Int32.ofInt b ≠ -1 := by
    intro h
    have h9 : (Int32.ofInt b).toInt = -1 := by rw [h]; decide
    omega
  rw [Int32.toInt_div_of_ne_right _ _ hne, h1, h2, sh_ti ⟨by omega, by omega⟩, Int.tdiv_eq_ediv_of_nonneg ha]
theorem sh_mod {a b : Int} (ha : 0 ≤ a) (ha2 : a < 2147483648) (hb : 0 < b) (hb2 : b < 2147483648) : Int32.ofInt a - Int32.ofInt a / Int32.ofInt b * Int32.ofInt b = Int32.ofInt (a % b) := by
  rw [sh_div ha ha2 hb hb2, ← Int32.ofInt_mul, ← Int32.ofInt_sub]
  congr 1
  have := Int.emod_add_mul_ediv a b
  rw [Int.mul_comm] 
  omega
theorem sh_emod31 (x : BitVec 32) : ((x &&& 31#32).toNat : Int) = x.toInt % 32 := by
  have h : (x &&& 31#32).toNat = x.toNat % 32 := by
    rw [BitVec.toNat_and]
    exact Nat.and_two_pow_sub_one_eq_mod x.toNat 5
  rw [h, BitVec.toInt_eq_toNat_bmod, Int.bmod_def]
  split <;> omega
theorem sh_and31 {a : Int} : Int32.ofInt a &&& Int32.ofInt 31 = Int32.ofInt (a % 32) := by
  apply Int32.toInt_inj.mp
  rw [sh_ti ⟨by omega, by omega⟩]
  have e1 : (Int32.ofInt a &&& Int32.ofInt 31).toBitVec = BitVec.ofInt 32 a &&& 31#32 := by
    rw [Int32.toBitVec_and, Int32.toBitVec_ofInt]
    rfl
  have e2 := sh_emod31 (BitVec.ofInt 32 a)
  show (Int32.ofInt a &&& Int32.ofInt 31).toBitVec.toInt = a % 32
  rw [e1, BitVec.toInt_eq_toNat_of_lt, e2, BitVec.toInt_ofInt, Int.bmod_def]
  · split <;> omega
  · have : (BitVec.ofInt 32 a &&& 31#32).toNat ≤ 31 := by
      rw [BitVec.toNat_and]
      exact Nat.and_le_right
    omega
theorem sh_i2cV (a : Int) : ((Int32.ofInt a).toUInt32 % 65536).toInt32 = Int32.ofInt (a % 65536) := by
  apply Int32.toInt_inj.mp
  rw [sh_ti ⟨by omega, by omega⟩]
  have e1 : (((Int32.ofInt a).toUInt32 % 65536).toInt32).toBitVec = BitVec.ofInt 32 a % 65536#32 := by
    rfl
  show (((Int32.ofInt a).toUInt32 % 65536).toInt32).toBitVec.toInt = a % 65536
  have e2 : (BitVec.ofInt 32 a % 65536#32).toNat = (a % 4294967296).toNat % 65536 := by
    rw [BitVec.toNat_umod, BitVec.toNat_ofInt]
    rfl
  rw [e1, BitVec.toInt_eq_toNat_of_lt, e2]
  · omega
  · rw [e2]
    omega
theorem sh_z : (0 : Int32) = Int32.ofInt 0 := by decide
theorem sh_eq {a b : Int} (ha : sh_Bd a) (hb : sh_Bd b) : (Int32.ofInt a = Int32.ofInt b → a = b) ∧ (¬ Int32.ofInt a = Int32.ofInt b → ¬ a = b) := by
  simp only [sh_eqI ha hb]
  exact ⟨id, id⟩
theorem sh_eq0 {a : Int} (ha : sh_Bd a) : (Int32.ofInt a = (0 : Int32) → a = 0) ∧ (¬ Int32.ofInt a = (0 : Int32) → ¬ a = 0) := by
  rw [sh_z]
  exact sh_eq ha sh_Bd0
theorem sh_ne {a b : Int} (ha : sh_Bd a) (hb : sh_Bd b) : (¬ Int32.ofInt a = Int32.ofInt b → ¬ a = b) ∧ (Int32.ofInt a = Int32.ofInt b → a = b) := by
  simp only [sh_eqI ha hb]
  exact ⟨id, id⟩
theorem sh_ne0 {a : Int} (ha : sh_Bd a) : (¬ Int32.ofInt a = (0 : Int32) → ¬ a = 0) ∧ (Int32.ofInt a = (0 : Int32) → a = 0) := by
  rw [sh_z]
  exact sh_ne ha sh_Bd0
theorem sh_lt {a b : Int} (ha : sh_Bd a) (hb : sh_Bd b) : (Int32.ofInt a < Int32.ofInt b → a < b) ∧ (¬ Int32.ofInt a < Int32.ofInt b → b ≤ a) := by
  simp only [sh_ltI ha hb]
  exact ⟨id, fun q => Int.not_lt.mp q⟩
theorem sh_lt0 {a : Int} (ha : sh_Bd a) : (Int32.ofInt a < (0 : Int32) → a < 0) ∧ (¬ Int32.ofInt a < (0 : Int32) → 0 ≤ a) := by
  rw [sh_z]
  exact sh_lt ha sh_Bd0
theorem sh_ge {a b : Int} (ha : sh_Bd a) (hb : sh_Bd b) : (Int32.ofInt b ≤ Int32.ofInt a → b ≤ a) ∧ (¬ Int32.ofInt b ≤ Int32.ofInt a → a < b) := by
  simp only [sh_leI hb ha]
  exact ⟨id, fun q => Int.not_le.mp q⟩
theorem sh_ge0 {a : Int} (ha : sh_Bd a) : ((0 : Int32) ≤ Int32.ofInt a → 0 ≤ a) ∧ (¬ (0 : Int32) ≤ Int32.ofInt a → a < 0) := by
  rw [sh_z]
  exact sh_ge ha sh_Bd0
theorem sh_gt {a b : Int} (ha : sh_Bd a) (hb : sh_Bd b) : (Int32.ofInt b < Int32.ofInt a → b < a) ∧ (¬ Int32.ofInt b < Int32.ofInt a → a ≤ b) := by
  simp only [sh_ltI hb ha]
  exact ⟨id, fun q => Int.not_lt.mp q⟩
theorem sh_gt0 {a : Int} (ha : sh_Bd a) : ((0 : Int32) < Int32.ofInt a → 0 < a) ∧ (¬ (0 : Int32) < Int32.ofInt a → a ≤ 0) := by
  rw [sh_z]
  exact sh_gt ha sh_Bd0
theorem sh_le {a b : Int} (ha : sh_Bd a) (hb : sh_Bd b) : (Int32.ofInt a ≤ Int32.ofInt b → a ≤ b) ∧ (¬ Int32.ofInt a ≤ Int32.ofInt b → b < a) := by
  simp only [sh_leI ha hb]
  exact ⟨id, fun q => Int.not_le.mp q⟩
theorem sh_le0 {a : Int} (ha : sh_Bd a) : (Int32.ofInt a ≤ (0 : Int32) → a ≤ 0) ∧ (¬ Int32.ofInt a ≤ (0 : Int32) → 0 < a) := by
  rw [sh_z]
  exact sh_le ha sh_Bd0
theorem sh_iconst {y : sh_M} {pc : Nat} {ls : List (Option sh_V)} {st : List sh_V} {cn : Nat × Nat} {σ : sh_St} {Q : Option Int → sh_St → Prop} {n v : Int} (hd : decode y.2.1 pc = .ok (.iconst n, 1)) (hv : n = v) (h : sh_O y (pc + 1) ls (.inl v :: st) cn σ Q) : sh_O y pc ls st cn σ Q := by
  intro p l e R s m args below meth c Z D A H0 ad ac H locs la hX hA hR hL hc hret
  subst hv
  exact lv_iconst hX.1 hX.2.1 hd rfl (h p l e R s m args below meth c Z D A H0 ad ac H locs la hX hA hR hL hc hret)
theorem sh_bipush {y : sh_M} {pc : Nat} {ls : List (Option sh_V)} {st : List sh_V} {cn : Nat × Nat} {σ : sh_St} {Q : Option Int → sh_St → Prop} {n v : Int} (hd : decode y.2.1 pc = .ok (.bipush n, 2)) (hv : (Int8.ofInt n).toInt32 = Int32.ofInt v) (h : sh_O y (pc + 2) ls (.inl v :: st) cn σ Q) : sh_O y pc ls st cn σ Q := by
  intro p l e R s m args below meth c Z D A H0 ad ac H locs la hX hA hR hL hc hret
  exact lv_bipush hX.1 hX.2.1 hd hv (h p l e R s m args below meth c Z D A H0 ad ac H locs la hX hA hR hL hc hret)
theorem sh_sipush {y : sh_M} {pc : Nat} {ls : List (Option sh_V)} {st : List sh_V} {cn : Nat × Nat} {σ : sh_St} {Q : Option Int → sh_St → Prop} {n v : Int} (hd : decode y.2.1 pc = .ok (.sipush n, 3)) (hv : (Int16.ofInt n).toInt32 = Int32.ofInt v) (h : sh_O y (pc + 3) ls (.inl v :: st) cn σ Q) : sh_O y pc ls st cn σ Q := by
  intro p l e R s m args below meth c Z D A H0 ad ac H locs la hX hA hR hL hc hret
  exact lv_sipush hX.1 hX.2.1 hd hv (h p l e R s m args below meth c Z D A H0 ad ac H locs la hX hA hR hL hc hret)
theorem sh_ldc {y : sh_M} {pc : Nat} {ls : List (Option sh_V)} {st : List sh_V} {cn : Nat × Nat} {σ : sh_St} {Q : Option Int → sh_St → Prop} {i : Nat} {v : Int} (hd : decode y.2.1 pc = .ok (.ldc i, 2)) (hw : Cond.constant y.1.cls i (Int32.ofInt v) ∈ sh_ws) (h : sh_O y (pc + 2) ls (.inl v :: st) cn σ Q) : sh_O y pc ls st cn σ Q := by
  intro p l e R s m args below meth c Z D A H0 ad ac H locs la hX hA hR hL hc hret
  exact lv_ldc hX.1 hX.2.1 hX.2.2.2.1 (hX.2.2.2.2.1 _ hw) hd (h p l e R s m args below meth c Z D A H0 ad ac H locs la hX hA hR hL hc hret)
theorem sh_iload_n {y : sh_M} {pc : Nat} {ls : List (Option sh_V)} {st : List sh_V} {cn : Nat × Nat} {σ : sh_St} {Q : Option Int → sh_St → Prop} {k : Fin 4} {i : Nat} {x : Int} (hd : decode y.2.1 pc = .ok (.iload_n k, 1)) (hi : (k : Nat) = i) (hl : ls[i]? = some (some (.inl x))) (h : sh_O y (pc + 1) ls (.inl x :: st) cn σ Q) : sh_O y pc ls st cn σ Q := by
  intro p l e R s m args below meth c Z D A H0 ad ac H locs la hX hA hR hL hc hret
  exact lv_iload_n hX.1 hX.2.1 hd hi (hL.2.2 i _ hl) (h p l e R s m args below meth c Z D A H0 ad ac H locs la hX hA hR hL hc hret)
theorem sh_iload {y : sh_M} {pc : Nat} {ls : List (Option sh_V)} {st : List sh_V} {cn : Nat × Nat} {σ : sh_St} {Q : Option Int → sh_St → Prop} {i : Nat} {x : Int} (hd : decode y.2.1 pc = .ok (.iload i, 2)) (hl : ls[i]? = some (some (.inl x))) (h : sh_O y (pc + 2) ls (.inl x :: st) cn σ Q) : sh_O y pc ls st cn σ Q := by
  intro p l e R s m args below meth c Z D A H0 ad ac H locs la hX hA hR hL hc hret
  exact lv_iload hX.1 hX.2.1 hd (hL.2.2 i _ hl) (h p l e R s m args below meth c Z D A H0 ad ac H locs la hX hA hR hL hc hret)
theorem sh_aload_n {y : sh_M} {pc : Nat} {ls : List (Option sh_V)} {st : List sh_V} {cn : Nat × Nat} {σ : sh_St} {Q : Option Int → sh_St → Prop} {k : Fin 4} {i x : Nat} (hd : decode y.2.1 pc = .ok (.aload_n k, 1)) (hi : (k : Nat) = i) (hl : ls[i]? = some (some (.inr x))) (h : sh_O y (pc + 1) ls (.inr x :: st) cn σ Q) : sh_O y pc ls st cn σ Q := by
  intro p l e R s m args below meth c Z D A H0 ad ac H locs la hX hA hR hL hc hret
  exact lv_aload_n hX.1 hX.2.1 hd hi (hL.2.2 i _ hl) (h p l e R s m args below meth c Z D A H0 ad ac H locs la hX hA hR hL hc hret)
theorem sh_aload {y : sh_M} {pc : Nat} {ls : List (Option sh_V)} {st : List sh_V} {cn : Nat × Nat} {σ : sh_St} {Q : Option Int → sh_St → Prop} {i x : Nat} (hd : decode y.2.1 pc = .ok (.aload i, 2)) (hl : ls[i]? = some (some (.inr x))) (h : sh_O y (pc + 2) ls (.inr x :: st) cn σ Q) : sh_O y pc ls st cn σ Q := by
  intro p l e R s m args below meth c Z D A H0 ad ac H locs la hX hA hR hL hc hret
  exact lv_aload hX.1 hX.2.1 hd (hL.2.2 i _ hl) (h p l e R s m args below meth c Z D A H0 ad ac H locs la hX hA hR hL hc hret)
theorem sh_iadd {y : sh_M} {pc : Nat} {ls : List (Option sh_V)} {st : List sh_V} {cn : Nat × Nat} {σ : sh_St} {Q : Option Int → sh_St → Prop} {a b : Int} (hd : decode y.2.1 pc = .ok (.iadd, 1)) (h : sh_O y (pc + 1) ls (.inl (a + b) :: st) cn σ Q) : sh_O y pc ls (.inl b :: .inl a :: st) cn σ Q := by
  intro p l e R s m args below meth c Z D A H0 ad ac H locs la hX hA hR hL hc hret
  refine lv_iadd hX.1 hX.2.1 hd ?_
  rw [← Int32.ofInt_add]
  exact h p l e R s m args below meth c Z D A H0 ad ac H locs la hX hA hR hL hc hret
theorem sh_isub {y : sh_M} {pc : Nat} {ls : List (Option sh_V)} {st : List sh_V} {cn : Nat × Nat} {σ : sh_St} {Q : Option Int → sh_St → Prop} {a b : Int} (hd : decode y.2.1 pc = .ok (.isub, 1)) (h : sh_O y (pc + 1) ls (.inl (a - b) :: st) cn σ Q) : sh_O y pc ls (.inl b :: .inl a :: st) cn σ Q := by
  intro p l e R s m args below meth c Z D A H0 ad ac H locs la hX hA hR hL hc hret
  refine lv_isub hX.1 hX.2.1 hd ?_
  rw [← Int32.ofInt_sub]
  exact h p l e R s m args below meth c Z D A H0 ad ac H locs la hX hA hR hL hc hret
theorem sh_imul {y : sh_M} {pc : Nat} {ls : List (Option sh_V)} {st : List sh_V} {cn : Nat × Nat} {σ : sh_St} {Q : Option Int → sh_St → Prop} {a b : Int} (hd : decode y.2.1 pc = .ok (.imul, 1)) (h : sh_O y (pc + 1) ls (.inl (a * b) :: st) cn σ Q) : sh_O y pc ls (.inl b :: .inl a :: st) cn σ Q := by
  intro p l e R s m args below meth c Z D A H0 ad ac H locs la hX hA hR hL hc hret
  refine lv_imul hX.1 hX.2.1 hd ?_
  rw [← Int32.ofInt_mul]
  exact h p l e R s m args below meth c Z D A H0 ad ac H locs la hX hA hR hL hc hret
theorem sh_ineg {y : sh_M} {pc : Nat} {ls : List (Option sh_V)} {st : List sh_V} {cn : Nat × Nat} {σ : sh_St} {Q : Option Int → sh_St → Prop} {a : Int} (hd : decode y.2.1 pc = .ok (.ineg, 1)) (h : sh_O y (pc + 1) ls (.inl (-a) :: st) cn σ Q) : sh_O y pc ls (.inl a :: st) cn σ Q := by
  intro p l e R s m args below meth c Z D A H0 ad ac H locs la hX hA hR hL hc hret
  refine lv_ineg hX.1 hX.2.1 hd ?_
  rw [← Int32.ofInt_neg]
  exact h p l e R s m args below meth c Z D A H0 ad ac H locs la hX hA hR hL hc hret
theorem sh_idiv {y : sh_M} {pc : Nat} {ls : List (Option sh_V)} {st : List sh_V} {cn : Nat × Nat} {σ : sh_St} {Q : Option Int → sh_St → Prop} {a b : Int} (hd : decode y.2.1 pc = .ok (.idiv, 1)) (ha : 0 ≤ a) (ha2 : a < 2147483648) (hb0 : 0 < b) (hb2 : b < 2147483648) (h : sh_O y (pc + 1) ls (.inl (a / b) :: st) cn σ Q) : sh_O y pc ls (.inl b :: .inl a :: st) cn σ Q := by
  intro p l e R s m args below meth c Z D A H0 ad ac H locs la hX hA hR hL hc hret
  refine lv_idiv hX.1 hX.2.1 hd (sh_nz hb0 hb2) ?_
  rw [sh_div ha ha2 hb0 hb2]
  exact h p l e R s m args below meth c Z D A H0 ad ac H locs la hX hA hR hL hc hret
theorem sh_irem {y : sh_M} {pc : Nat} {ls : List (Option sh_V)} {st : List sh_V} {cn : Nat × Nat} {σ : sh_St} {Q : Option Int → sh_St → Prop} {a b : Int} (hd : decode y.2.1 pc = .ok (.irem, 1)) (ha : 0 ≤ a) (ha2 : a < 2147483648) (hb0 : 0 < b) (hb2 : b < 2147483648) (h : sh_O y (pc + 1) ls (.inl (a % b) :: st) cn σ Q) : sh_O y pc ls (.inl b :: .inl a :: st) cn σ Q := by
  intro p l e R s m args below meth c Z D A H0 ad ac H locs la hX hA hR hL hc hret
  refine lv_irem hX.1 hX.2.1 hd (sh_nz hb0 hb2) ?_
  rw [sh_mod ha ha2 hb0 hb2]
  exact h p l e R s m args below meth c Z D A H0 ad ac H locs la hX hA hR hL hc hret
theorem sh_iand31 {y : sh_M} {pc : Nat} {ls : List (Option sh_V)} {st : List sh_V} {cn : Nat × Nat} {σ : sh_St} {Q : Option Int → sh_St → Prop} {a : Int} (hd : decode y.2.1 pc = .ok (.iand, 1)) (h : sh_O y (pc + 1) ls (.inl (a % 32) :: st) cn σ Q) : sh_O y pc ls (.inl 31 :: .inl a :: st) cn σ Q := by
  intro p l e R s m args below meth c Z D A H0 ad ac H locs la hX hA hR hL hc hret
  refine lv_iand hX.1 hX.2.1 hd ?_
  rw [sh_and31]
  exact h p l e R s m args below meth c Z D A H0 ad ac H locs la hX hA hR hL hc hret
theorem sh_i2c {y : sh_M} {pc : Nat} {ls : List (Option sh_V)} {st : List sh_V} {cn : Nat × Nat} {σ : sh_St} {Q : Option Int → sh_St → Prop} {a : Int} (hd : decode y.2.1 pc = .ok (.i2c, 1)) (h : sh_O y (pc + 1) ls (.inl (a % 65536) :: st) cn σ Q) : sh_O y pc ls (.inl a :: st) cn σ Q := by
  intro p l e R s m args below meth c Z D A H0 ad ac H locs la hX hA hR hL hc hret
  exact lv_i2c hX.1 hX.2.1 hd (sh_i2cV a) (h p l e R s m args below meth c Z D A H0 ad ac H locs la hX hA hR hL hc hret)
theorem sh_dup {y : sh_M} {pc : Nat} {ls : List (Option sh_V)} {st : List sh_V} {cn : Nat × Nat} {σ : sh_St} {Q : Option Int → sh_St → Prop} {v : sh_V} (hd : decode y.2.1 pc = .ok (.dup, 1)) (h : sh_O y (pc + 1) ls (v :: v :: st) cn σ Q) : sh_O y pc ls (v :: st) cn σ Q := by
  intro p l e R s m args below meth c Z D A H0 ad ac H locs la hX hA hR hL hc hret
  exact lv_dup hX.1 hX.2.1 hd (sh_tr_cat ad v) (h p l e R s m args below meth c Z D A H0 ad ac H locs la hX hA hR hL hc hret)
theorem sh_dup2 {y : sh_M} {pc : Nat} {ls : List (Option sh_V)} {st : List sh_V} {cn : Nat × Nat} {σ : sh_St} {Q : Option Int → sh_St → Prop} {v w : sh_V} (hd : decode y.2.1 pc = .ok (.dup2, 1)) (h : sh_O y (pc + 1) ls (v :: w :: v :: w :: st) cn σ Q) : sh_O y pc ls (v :: w :: st) cn σ Q := by
  intro p l e R s m args below meth c Z D A H0 ad ac H locs la hX hA hR hL hc hret
  exact lv_dup2_11 hX.1 hX.2.1 hd (sh_tr_cat ad v) (sh_tr_cat ad w) (h p l e R s m args below meth c Z D A H0 ad ac H locs la hX hA hR hL hc hret)
theorem sh_pop {y : sh_M} {pc : Nat} {ls : List (Option sh_V)} {st : List sh_V} {cn : Nat × Nat} {σ : sh_St} {Q : Option Int → sh_St → Prop} {v : sh_V} (hd : decode y.2.1 pc = .ok (.pop, 1)) (h : sh_O y (pc + 1) ls st cn σ Q) : sh_O y pc ls (v :: st) cn σ Q := by
  intro p l e R s m args below meth c Z D A H0 ad ac H locs la hX hA hR hL hc hret
  exact lv_pop hX.1 hX.2.1 hd (sh_tr_cat ad v) (h p l e R s m args below meth c Z D A H0 ad ac H locs la hX hA hR hL hc hret)
theorem sh_goto {y : sh_M} {pc : Nat} {ls : List (Option sh_V)} {st : List sh_V} {cn : Nat × Nat} {σ : sh_St} {Q : Option Int → sh_St → Prop} {off : Int} {tgt : Nat} (hd : decode y.2.1 pc = .ok (.goto off, 3)) (ht : (pc : Int) + off = (tgt : Int)) (h : sh_O y tgt ls st cn σ Q) : sh_O y pc ls st cn σ Q := by
  intro p l e R s m args below meth c Z D A H0 ad ac H locs la hX hA hR hL hc hret
  exact lv_goto hX.1 hX.2.1 hd ht (h p l e R s m args below meth c Z D A H0 ad ac H locs la hX hA hR hL hc hret)
theorem sh_ifnonnull {y : sh_M} {pc : Nat} {ls : List (Option sh_V)} {st : List sh_V} {cn : Nat × Nat} {σ : sh_St} {Q : Option Int → sh_St → Prop} {off : Int} {tgt x : Nat} (hd : decode y.2.1 pc = .ok (.ifnonnull off, 3)) (ht : (pc : Int) + off = (tgt : Int)) (h : sh_O y tgt ls st cn σ Q) : sh_O y pc ls (.inr x :: st) cn σ Q := by
  intro p l e R s m args below meth c Z D A H0 ad ac H locs la hX hA hR hL hc hret
  exact lv_ifnonnull hX.1 hX.2.1 hd ht (h p l e R s m args below meth c Z D A H0 ad ac H locs la hX hA hR hL hc hret)
theorem sh_icmp_eq {y : sh_M} {pc : Nat} {ls : List (Option sh_V)} {st : List sh_V} {cn : Nat × Nat} {σ : sh_St} {Q : Option Int → sh_St → Prop} {a b off : Int} {tgt : Nat} (hd : decode y.2.1 pc = .ok (.if_icmp .eq off, 3)) (ht : (pc : Int) + off = (tgt : Int)) (ha : sh_Bd a) (hb : sh_Bd b) (h1 : a = b → sh_O y tgt ls st cn σ Q) (h2 : ¬ a = b → sh_O y (pc + 3) ls st cn σ Q) : sh_O y pc ls (.inl b :: .inl a :: st) cn σ Q := by
  intro p l e R s m args below meth c Z D A H0 ad ac H locs la hX hA hR hL hc hret
  exact lv_icmp_eq hX.1 hX.2.1 hd ht (fun q => h1 ((sh_eq ha hb).1 q) p l e R s m args below meth c Z D A H0 ad ac H locs la hX hA hR hL hc hret) (fun q => h2 ((sh_eq ha hb).2 q) p l e R s m args below meth c Z D A H0 ad ac H locs la hX hA hR hL hc hret)
theorem sh_if_eq {y : sh_M} {pc : Nat} {ls : List (Option sh_V)} {st : List sh_V} {cn : Nat × Nat} {σ : sh_St} {Q : Option Int → sh_St → Prop} {a off : Int} {tgt : Nat} (hd : decode y.2.1 pc = .ok (.ifCond .eq off, 3)) (ht : (pc : Int) + off = (tgt : Int)) (ha : sh_Bd a) (h1 : a = 0 → sh_O y tgt ls st cn σ Q) (h2 : ¬ a = 0 → sh_O y (pc + 3) ls st cn σ Q) : sh_O y pc ls (.inl a :: st) cn σ Q := by
  intro p l e R s m args below meth c Z D A H0 ad ac H locs la hX hA hR hL hc hret
  exact lv_if_eq hX.1 hX.2.1 hd ht (fun q => h1 ((sh_eq0 ha).1 q) p l e R s m args below meth c Z D A H0 ad ac H locs la hX hA hR hL hc hret) (fun q => h2 ((sh_eq0 ha).2 q) p l e R s m args below meth c Z D A H0 ad ac H locs la hX hA hR hL hc hret)
theorem sh_icmp_ne {y : sh_M} {pc : Nat} {ls : List (Option sh_V)} {st : List sh_V} {cn : Nat × Nat} {σ : sh_St} {Q : Option Int → sh_St → Prop} {a b off : Int} {tgt : Nat} (hd : decode y.2.1 pc = .ok (.if_icmp .ne off, 3)) (ht : (pc : Int) + off = (tgt : Int)) (ha : sh_Bd a) (hb : sh_Bd b) (h1 : ¬ a = b → sh_O y tgt ls st cn σ Q) (h2 : a = b → sh_O y (pc + 3) ls st cn σ Q) : sh_O y pc ls (.inl b :: .inl a :: st) cn σ Q := by
  intro p l e R s m args below meth c Z D A H0 ad ac H locs la hX hA hR hL hc hret
  exact lv_icmp_ne hX.1 hX.2.1 hd ht (fun q => h1 ((sh_ne ha hb).1 q) p l e R s m args below meth c Z D A H0 ad ac H locs la hX hA hR hL hc hret) (fun q => h2 ((sh_ne ha hb).2 q) p l e R s m args below meth c Z D A H0 ad ac H locs la hX hA hR hL hc hret)
theorem sh_if_ne {y : sh_M} {pc : Nat} {ls : List (Option sh_V)} {st : List sh_V} {cn : Nat × Nat} {σ : sh_St} {Q : Option Int → sh_St → Prop} {a off : Int} {tgt : Nat} (hd : decode y.2.1 pc = .ok (.ifCond .ne off, 3)) (ht : (pc : Int) + off = (tgt : Int)) (ha : sh_Bd a) (h1 : ¬ a = 0 → sh_O y tgt ls st cn σ Q) (h2 : a = 0 → sh_O y (pc + 3) ls st cn σ Q) : sh_O y pc ls (.inl a :: st) cn σ Q := by
  intro p l e R s m args below meth c Z D A H0 ad ac H locs la hX hA hR hL hc hret
  exact lv_if_ne hX.1 hX.2.1 hd ht (fun q => h1 ((sh_ne0 ha).1 q) p l e R s m args below meth c Z D A H0 ad ac H locs la hX hA hR hL hc hret) (fun q => h2 ((sh_ne0 ha).2 q) p l e R s m args below meth c Z D A H0 ad ac H locs la hX hA hR hL hc hret)
theorem sh_icmp_lt {y : sh_M} {pc : Nat} {ls : List (Option sh_V)} {st : List sh_V} {cn : Nat × Nat} {σ : sh_St} {Q : Option Int → sh_St → Prop} {a b off : Int} {tgt : Nat} (hd : decode y.2.1 pc = .ok (.if_icmp .lt off, 3)) (ht : (pc : Int) + off = (tgt : Int)) (ha : sh_Bd a) (hb : sh_Bd b) (h1 : a < b → sh_O y tgt ls st cn σ Q) (h2 : b ≤ a → sh_O y (pc + 3) ls st cn σ Q) : sh_O y pc ls (.inl b :: .inl a :: st) cn σ Q := by
  intro p l e R s m args below meth c Z D A H0 ad ac H locs la hX hA hR hL hc hret
  exact lv_icmp_lt hX.1 hX.2.1 hd ht (fun q => h1 ((sh_lt ha hb).1 q) p l e R s m args below meth c Z D A H0 ad ac H locs la hX hA hR hL hc hret) (fun q => h2 ((sh_lt ha hb).2 q) p l e R s m args below meth c Z D A H0 ad ac H locs la hX hA hR hL hc hret)
theorem sh_if_lt {y : sh_M} {pc : Nat} {ls : List (Option sh_V)} {st : List sh_V} {cn : Nat × Nat} {σ : sh_St} {Q : Option Int → sh_St → Prop} {a off : Int} {tgt : Nat} (hd : decode y.2.1 pc = .ok (.ifCond .lt off, 3)) (ht : (pc : Int) + off = (tgt : Int)) (ha : sh_Bd a) (h1 : a < 0 → sh_O y tgt ls st cn σ Q) (h2 : 0 ≤ a → sh_O y (pc + 3) ls st cn σ Q) : sh_O y pc ls (.inl a :: st) cn σ Q := by
  intro p l e R s m args below meth c Z D A H0 ad ac H locs la hX hA hR hL hc hret
  exact lv_if_lt hX.1 hX.2.1 hd ht (fun q => h1 ((sh_lt0 ha).1 q) p l e R s m args below meth c Z D A H0 ad ac H locs la hX hA hR hL hc hret) (fun q => h2 ((sh_lt0 ha).2 q) p l e R s m args below meth c Z D A H0 ad ac H locs la hX hA hR hL hc hret)
theorem sh_icmp_ge {y : sh_M} {pc : Nat} {ls : List (Option sh_V)} {st : List sh_V} {cn : Nat × Nat} {σ : sh_St} {Q : Option Int → sh_St → Prop} {a b off : Int} {tgt : Nat} (hd : decode y.2.1 pc = .ok (.if_icmp .ge off, 3)) (ht : (pc : Int) + off = (tgt : Int)) (ha : sh_Bd a) (hb : sh_Bd b) (h1 : b ≤ a → sh_O y tgt ls st cn σ Q) (h2 : a < b → sh_O y (pc + 3) ls st cn σ Q) : sh_O y pc ls (.inl b :: .inl a :: st) cn σ Q := by
  intro p l e R s m args below meth c Z D A H0 ad ac H locs la hX hA hR hL hc hret
  exact lv_icmp_ge hX.1 hX.2.1 hd ht (fun q => h1 ((sh_ge ha hb).1 q) p l e R s m args below meth c Z D A H0 ad ac H locs la hX hA hR hL hc hret) (fun q => h2 ((sh_ge ha hb).2 q) p l e R s m args below meth c Z D A H0 ad ac H locs la hX hA hR hL hc hret)
theorem sh_if_ge {y : sh_M} {pc : Nat} {ls : List (Option sh_V)} {st : List sh_V} {cn : Nat × Nat} {σ : sh_St} {Q : Option Int → sh_St → Prop} {a off : Int} {tgt : Nat} (hd : decode y.2.1 pc = .ok (.ifCond .ge off, 3)) (ht : (pc : Int) + off = (tgt : Int)) (ha : sh_Bd a) (h1 : 0 ≤ a → sh_O y tgt ls st cn σ Q) (h2 : a < 0 → sh_O y (pc + 3) ls st cn σ Q) : sh_O y pc ls (.inl a :: st) cn σ Q := by
  intro p l e R s m args below meth c Z D A H0 ad ac H locs la hX hA hR hL hc hret
  exact lv_if_ge hX.1 hX.2.1 hd ht (fun q => h1 ((sh_ge0 ha).1 q) p l e R s m args below meth c Z D A H0 ad ac H locs la hX hA hR hL hc hret) (fun q => h2 ((sh_ge0 ha).2 q) p l e R s m args below meth c Z D A H0 ad ac H locs la hX hA hR hL hc hret)
theorem sh_icmp_gt {y : sh_M} {pc : Nat} {ls : List (Option sh_V)} {st : List sh_V} {cn : Nat × Nat} {σ : sh_St} {Q : Option Int → sh_St → Prop} {a b off : Int} {tgt : Nat} (hd : decode y.2.1 pc = .ok (.if_icmp .gt off, 3)) (ht : (pc : Int) + off = (tgt : Int)) (ha : sh_Bd a) (hb : sh_Bd b) (h1 : b < a → sh_O y tgt ls st cn σ Q) (h2 : a ≤ b → sh_O y (pc + 3) ls st cn σ Q) : sh_O y pc ls (.inl b :: .inl a :: st) cn σ Q := by
  intro p l e R s m args below meth c Z D A H0 ad ac H locs la hX hA hR hL hc hret
  exact lv_icmp_gt hX.1 hX.2.1 hd ht (fun q => h1 ((sh_gt ha hb).1 q) p l e R s m args below meth c Z D A H0 ad ac H locs la hX hA hR hL hc hret) (fun q => h2 ((sh_gt ha hb).2 q) p l e R s m args below meth c Z D A H0 ad ac H locs la hX hA hR hL hc hret)
theorem sh_if_gt {y : sh_M} {pc : Nat} {ls : List (Option sh_V)} {st : List sh_V} {cn : Nat × Nat} {σ : sh_St} {Q : Option Int → sh_St → Prop} {a off : Int} {tgt : Nat} (hd : decode y.2.1 pc = .ok (.ifCond .gt off, 3)) (ht : (pc : Int) + off = (tgt : Int)) (ha : sh_Bd a) (h1 : 0 < a → sh_O y tgt ls st cn σ Q) (h2 : a ≤ 0 → sh_O y (pc + 3) ls st cn σ Q) : sh_O y pc ls (.inl a :: st) cn σ Q := by
  intro p l e R s m args below meth c Z D A H0 ad ac H locs la hX hA hR hL hc hret
  exact lv_if_gt hX.1 hX.2.1 hd ht (fun q => h1 ((sh_gt0 ha).1 q) p l e R s m args below meth c Z D A H0 ad ac H locs la hX hA hR hL hc hret) (fun q => h2 ((sh_gt0 ha).2 q) p l e R s m args below meth c Z D A H0 ad ac H locs la hX hA hR hL hc hret)
theorem sh_icmp_le {y : sh_M} {pc : Nat} {ls : List (Option sh_V)} {st : List sh_V} {cn : Nat × Nat} {σ : sh_St} {Q : Option Int → sh_St → Prop} {a b off : Int} {tgt : Nat} (hd : decode y.2.1 pc = .ok (.if_icmp .le off, 3)) (ht : (pc : Int) + off = (tgt : Int)) (ha : sh_Bd a) (hb : sh_Bd b) (h1 : a ≤ b → sh_O y tgt ls st cn σ Q) (h2 : b < a → sh_O y (pc + 3) ls st cn σ Q) : sh_O y pc ls (.inl b :: .inl a :: st) cn σ Q := by
  intro p l e R s m args below meth c Z D A H0 ad ac H locs la hX hA hR hL hc hret
  exact lv_icmp_le hX.1 hX.2.1 hd ht (fun q => h1 ((sh_le ha hb).1 q) p l e R s m args below meth c Z D A H0 ad ac H locs la hX hA hR hL hc hret) (fun q => h2 ((sh_le ha hb).2 q) p l e R s m args below meth c Z D A H0 ad ac H locs la hX hA hR hL hc hret)
theorem sh_if_le {y : sh_M} {pc : Nat} {ls : List (Option sh_V)} {st : List sh_V} {cn : Nat × Nat} {σ : sh_St} {Q : Option Int → sh_St → Prop} {a off : Int} {tgt : Nat} (hd : decode y.2.1 pc = .ok (.ifCond .le off, 3)) (ht : (pc : Int) + off = (tgt : Int)) (ha : sh_Bd a) (h1 : a ≤ 0 → sh_O y tgt ls st cn σ Q) (h2 : 0 < a → sh_O y (pc + 3) ls st cn σ Q) : sh_O y pc ls (.inl a :: st) cn σ Q := by
  intro p l e R s m args below meth c Z D A H0 ad ac H locs la hX hA hR hL hc hret
  exact lv_if_le hX.1 hX.2.1 hd ht (fun q => h1 ((sh_le0 ha).1 q) p l e R s m args below meth c Z D A H0 ad ac H locs la hX hA hR hL hc hret) (fun q => h2 ((sh_le0 ha).2 q) p l e R s m args below meth c Z D A H0 ad ac H locs la hX hA hR hL hc hret)
/-! locals -/
def sh_lv (ad : Nat → Nat) (ls : List (Option sh_V)) : List (Nat × Value) := (List.range ls.length).filterMap (fun i => match ls[i]? with
  | some (some v) => some (i, sh_tr ad v)
  | _ => none)
theorem sh_lv_mem {ad : Nat → Nat} {ls : List (Option sh_V)} {q : Nat × Value} : q ∈ sh_lv ad ls ↔ ∃ v, ls[q.1]? = some (some v) ∧ q.2 = sh_tr ad v := by
  simp only [sh_lv, List.mem_filterMap, List.mem_range]
  constructor
  · rintro ⟨i, hi, h⟩
    split at h
    · next v hv =>
      cases h
      exact ⟨v, hv, rfl⟩
    · cases h
  · rintro ⟨v, hv, h⟩
    refine ⟨q.1, (List.getElem?_eq_some_iff.mp hv).1, ?_⟩
    rw [hv]
    simp [← h]
theorem sh_L.has {ad : Nat → Nat} {la : Array Slot} {n : Nat} {ls : List (Option sh_V)} (h : sh_L ad la n ls) : lv_has la n (sh_lv ad ls) := by
  refine ⟨h.1, h.2.1, fun q hq => ?_⟩
  obtain ⟨v, h1, h2⟩ := sh_lv_mem.mp hq
  rw [h2]
  exact h.2.2 q.1 v h1
theorem sh_L.set {ad : Nat → Nat} {la : Array Slot} {n i : Nat} {ls : List (Option sh_V)} {v : sh_V} (h : lv_has la n ((i, sh_tr ad v) :: (sh_lv ad ls).filter (fun q => !(q.1 == i) && !(q.1 + 1 == i && q.2.category == 2)))) : sh_L ad la n (ls.set i (some v)) := by
  refine ⟨h.1, h.2.1, fun j w hj => ?_⟩
  by_cases hji : i = j
  · subst hji
    rw [List.getElem?_set_self'] at hj
    have hv : v = w := by
      cases hq : ls[i]? with
      | none => rw [hq] at hj; cases hj
      | some z => rw [hq] at hj; simpa using hj
    rw [← hv]
    exact h.2.2 _ List.mem_cons_self
  · rw [List.getElem?_set_ne hji] at hj
    refine h.2.2 (j, sh_tr ad w) (List.mem_cons_of_mem _ (List.mem_filter.mpr ⟨sh_lv_mem.mpr ⟨w, hj, rfl⟩, ?_⟩))
    have hne : ¬ j = i := fun e => hji e.symm
    simp [hne, sh_tr_cat]
theorem sh_istore_n {y : sh_M} {pc : Nat} {ls : List (Option sh_V)} {st : List sh_V} {cn : Nat × Nat} {σ : sh_St} {Q : Option Int → sh_St → Prop} {k : Fin 4} {i : Nat} {x : Int} (hd : decode y.2.1 pc = .ok (.istore_n k, 1)) (hi : (k : Nat) = i) (hn : i < y.2.2.1) (h : sh_O y (pc + 1) (ls.set i (some (.inl x))) st cn σ Q) : sh_O y pc ls (.inl x :: st) cn σ Q := by
  intro p l e R s m args below meth c Z D A H0 ad ac H locs la hX hA hR hL hc hret
  exact lv_istore_n hX.1 hX.2.1 hd hi hL.has hn rfl (fun la' hl' => h p l e R s m args below meth c Z D A H0 ad ac H locs la' hX hA hR (sh_L.set (v := .inl x) hl') hc hret)
theorem sh_istore {y : sh_M} {pc : Nat} {ls : List (Option sh_V)} {st : List sh_V} {cn : Nat × Nat} {σ : sh_St} {Q : Option Int → sh_St → Prop} {i : Nat} {x : Int} (hd : decode y.2.1 pc = .ok (.istore i, 2)) (hn : i < y.2.2.1) (h : sh_O y (pc + 2) (ls.set i (some (.inl x))) st cn σ Q) : sh_O y pc ls (.inl x :: st) cn σ Q := by
  intro p l e R s m args below meth c Z D A H0 ad ac H locs la hX hA hR hL hc hret
  exact lv_istore hX.1 hX.2.1 hd hL.has hn rfl (fun la' hl' => h p l e R s m args below meth c Z D A H0 ad ac H locs la' hX hA hR (sh_L.set (v := .inl x) hl') hc hret)
theorem sh_astore_n {y : sh_M} {pc : Nat} {ls : List (Option sh_V)} {st : List sh_V} {cn : Nat × Nat} {σ : sh_St} {Q : Option Int → sh_St → Prop} {k : Fin 4} {i x : Nat} (hd : decode y.2.1 pc = .ok (.astore_n k, 1)) (hi : (k : Nat) = i) (hn : i < y.2.2.1) (h : sh_O y (pc + 1) (ls.set i (some (.inr x))) st cn σ Q) : sh_O y pc ls (.inr x :: st) cn σ Q := by
  intro p l e R s m args below meth c Z D A H0 ad ac H locs la hX hA hR hL hc hret
  exact lv_astore_n hX.1 hX.2.1 hd hi hL.has hn rfl (fun la' hl' => h p l e R s m args below meth c Z D A H0 ad ac H locs la' hX hA hR (sh_L.set (v := .inr x) hl') hc hret)
theorem sh_iinc {y : sh_M} {pc : Nat} {ls : List (Option sh_V)} {st : List sh_V} {cn : Nat × Nat} {σ : sh_St} {Q : Option Int → sh_St → Prop} {i : Nat} {n x : Int} (hd : decode y.2.1 pc = .ok (.iinc i n, 3)) (hl : ls[i]? = some (some (.inl x))) (hn : i < y.2.2.1) (h : sh_O y (pc + 3) (ls.set i (some (.inl (x + n)))) st cn σ Q) : sh_O y pc ls st cn σ Q := by
  intro p l e R s m args below meth c Z D A H0 ad ac H locs la hX hA hR hL hc hret
  obtain ⟨k, hk⟩ := List.mem_iff_getElem?.mp (sh_lv_mem.mpr ⟨.inl x, hl, rfl⟩ : ((i, sh_tr ad (.inl x)) : Nat × Value) ∈ sh_lv ad ls)
  exact lv_iinc hX.1 hX.2.1 hd hL.has hk (Int32.ofInt_add x n).symm hn rfl (fun la' hl' => h p l e R s m args below meth c Z D A H0 ad ac H locs la' hX hA hR (sh_L.set (v := .inl (x + n)) hl') hc hret)
/-! fields -/
def sh_cls (ci : Nat) (C : String) (T : u_T) (N : Nat) : Prop := vwCl[ci]? = some (C, T, N) ∧ (∀ w ∈ u_ws C T N, w ∈ sh_ws) ∧ (∀ k, k < N → parseFieldDescriptor (T k).2.2.1 = some (sh_ty ci k)) ∧ (∀ a, a < N → ∀ b, b < N → a ≠ b → (T a).2.1 ≠ (T b).2.1) ∧ ci < 8
def sh_FL (own : String) (idx ci f N : Nat) (fin : Bool) : Prop := ∃ (C : String) (T : u_T), sh_cls ci C T N ∧ f < N ∧ Cond.fieldLink own idx (T f).1 (T f).2.1 (T f).2.2.1 ∈ sh_ws ∧ (T f).2.2.2 = fin
theorem sh_getI {y : sh_M} {pc : Nat} {ls : List (Option sh_V)} {st : List sh_V} {cn : Nat × Nat} {σ : sh_St} {Q : Option Int → sh_St → Prop} {idx ci f N o : Nat} {fin : Bool} {g : Int} (hd : decode y.2.1 pc = .ok (.getfield idx, 3)) (hl : sh_FL y.1.cls idx ci f N fin) (hi : sh_isr (sh_ty ci f) = false) (hk : sh_is σ.1 o ci N) (hg : (f : Int) = g) (h : sh_O y (pc + 3) ls (.inl (σ.2.1 o g) :: st) cn σ Q) : sh_O y pc ls (.inr o :: st) cn σ Q := by
  intro p l e R s m args below meth c Z D A H0 ad ac H locs la hX hA hR hL hc hret
  obtain ⟨C, T, hC, hf, hw, hfin⟩ := hl
  obtain ⟨h1, h2, h3, h4, h5⟩ := hC
  subst hg
  have he := sh_W_get (ad := ad) (ac := ac) hk
  rw [sh_E_obj h5] at he
  have hv := sh_fs_get (ad := ad) (I := σ.2.1) (P := σ.2.2) (k := o) (ci := ci) hf
  rw [hi, if_neg (by decide)] at hv
  exact va_get hX.1 hX.2.1 hX.2.2.2.2.1 h2 hX.2.2.2.1 hR.1.none hR.2.1 (o - 1) he h1 f hf (hX.2.2.2.2.1 _ hw) (fun _ h9 => h9) hv hd (h p l e R s m args below meth c Z D A H0 ad ac H locs la hX hA hR hL hc hret)
theorem sh_getR {y : sh_M} {pc : Nat} {ls : List (Option sh_V)} {st : List sh_V} {cn : Nat × Nat} {σ : sh_St} {Q : Option Int → sh_St → Prop} {idx ci f N o q : Nat} {fin : Bool} (hd : decode y.2.1 pc = .ok (.getfield idx, 3)) (hl : sh_FL y.1.cls idx ci f N fin) (hi : sh_isr (sh_ty ci f) = true) (hk : sh_is σ.1 o ci N) (hq : σ.2.2 o f = some q) (h : sh_O y (pc + 3) ls (.inr q :: st) cn σ Q) : sh_O y pc ls (.inr o :: st) cn σ Q := by
  intro p l e R s m args below meth c Z D A H0 ad ac H locs la hX hA hR hL hc hret
  obtain ⟨C, T, hC, hf, hw, hfin⟩ := hl
  obtain ⟨h1, h2, h3, h4, h5⟩ := hC
  have he := sh_W_get (ad := ad) (ac := ac) hk
  rw [sh_E_obj h5] at he
  have hv := sh_fs_get (ad := ad) (I := σ.2.1) (P := σ.2.2) (k := o) (ci := ci) hf
  rw [hi, if_pos rfl, hq] at hv
  exact va_get hX.1 hX.2.1 hX.2.2.2.2.1 h2 hX.2.2.2.1 hR.1.none hR.2.1 (o - 1) he h1 f hf (hX.2.2.2.2.1 _ hw) (fun _ h9 => h9) hv hd (h p l e R s m args below meth c Z D A H0 ad ac H locs la hX hA hR hL hc hret)
theorem sh_R.putI {D : va_G} {ad : Nat → Nat} {ac : Nat → ClassId} {n o : Nat} {I : sh_Mem} {P : sh_Ptr} {A : Nat → Prop} {s : State} {H0 H H1 : Heap} {locs locs1 : List Loc} {f v : Int} (hR : sh_R D ad ac (n, I, P) A s H0 H locs) (ho : 0 < o) (hP : va_P D vwCl (sh_W ad ac (n, sh_u I o f v, P)) H1) (hD : va_D A (sh_W ad ac (n, sh_u I o f v, P))) (hS : va_S A H0 H1 locs1) : sh_R D ad ac (n, sh_u I o f v, P) A s H0 H1 locs1 := by
  obtain ⟨a, -, -, -, b, c, d, e, g⟩ := hR
  have h0 : sh_u I o f v 0 = I 0 := sh_u_ne (by omega)
  refine ⟨a, hP, hD, hS, ?_, c, d, e, g⟩
  show va_X (ad 0) (sh_u I o f v 0 0).toNat (fun j => Int32.ofInt (sh_u I o f v 0 ((j : Int) + 1))) s H0
  rw [h0]
  exact b
theorem sh_putI {y : sh_M} {pc : Nat} {ls : List (Option sh_V)} {st : List sh_V} {cn : Nat × Nat} {n : Nat} {I : sh_Mem} {P : sh_Ptr} {Q : Option Int → sh_St → Prop} {idx ci f N o : Nat} {g v : Int} (hd : decode y.2.1 pc = .ok (.putfield idx, 3)) (hl : sh_FL y.1.cls idx ci f N false) (hi : sh_isr (sh_ty ci f) = false) (hk : sh_is n o ci N) (hg : (f : Int) = g) (hn : narrow (sh_ty ci f) (.int (Int32.ofInt v)) = .int (Int32.ofInt v)) (hfit : fits (sh_ty ci f) (.int (Int32.ofInt v)) = true) (h : sh_O y (pc + 3) ls st cn (n, sh_u I o g v, P) Q) : sh_O y pc ls (.inl v :: .inr o :: st) cn (n, I, P) Q := by
  intro p l e R s m args below meth c Z D A H0 ad ac H locs la hX hA hR hL hc hret
  obtain ⟨C, T, hC, hf, hw, hfin⟩ := hl
  obtain ⟨h1, h2, h3, h4, h5⟩ := hC
  subst hg
  have he := sh_W_get (ad := ad) (ac := ac) (σ := (n, I, P)) hk
  rw [sh_E_obj h5] at he
  refine va_put hX.1 hX.2.1 hX.2.2.2.2.1 h2 (sh_ty ci) h3 h4 hX.2.2.2.1 hR.1.none hR.2.1 hR.2.2.1 hR.2.2.2.1 (o - 1) he h1 f hf (hX.2.2.2.2.1 _ hw) (fun _ h9 => h9) hfin (h3 f hf) hn hfit (by rw [sh_fs_len]; exact hf) hd (fun H1 locs1 hP1 hD1 hS1 => ?_)
  have e1 : (sh_W ad ac (n, I, P)).set (o - 1) (ad o, .inr (ci, (sh_fs ad I P o ci N).set f (.int (Int32.ofInt v)))) = sh_W ad ac (n, sh_u I o (f : Int) v, P) :=
    sh_W_set hk (fun k hk2 => sh_u_ne hk2) (fun _ _ => rfl) (by rw [sh_E_obj h5, sh_fs_setI hi])
  exact h p l e R s m args below meth c Z D A H0 ad ac H1 locs1 la hX hA (hR.putI hk.2.2 (by rw [← e1]; exact hP1) (by rw [← e1]; exact hD1) hS1) hL hc hret
theorem sh_putIF {y : sh_M} {pc : Nat} {ls : List (Option sh_V)} {st : List sh_V} {cn : Nat × Nat} {n : Nat} {I : sh_Mem} {P : sh_Ptr} {Q : Option Int → sh_St → Prop} {idx ci f N o : Nat} {g v : Int} (hd : decode y.2.1 pc = .ok (.putfield idx, 3)) (hl : sh_FL y.1.cls idx ci f N true) (hy : y.1.name = "<init>") (hown : ∀ (C : String) (T : u_T), vwCl[ci]? = some (C, T, N) → (T f).1 = y.1.cls) (hi : sh_isr (sh_ty ci f) = false) (hk : sh_is n o ci N) (hg : (f : Int) = g) (hn : narrow (sh_ty ci f) (.int (Int32.ofInt v)) = .int (Int32.ofInt v)) (hfit : fits (sh_ty ci f) (.int (Int32.ofInt v)) = true) (h : sh_O y (pc + 3) ls st cn (n, sh_u I o g v, P) Q) : sh_O y pc ls (.inl v :: .inr o :: st) cn (n, I, P) Q := by
  intro p l e R s m args below meth c Z D A H0 ad ac H locs la hX hA hR hL hc hret
  obtain ⟨C, T, hC, hf, hw, hfin⟩ := hl
  obtain ⟨h1, h2, h3, h4, h5⟩ := hC
  subst hg
  have he := sh_W_get (ad := ad) (ac := ac) (σ := (n, I, P)) hk
  rw [sh_E_obj h5] at he
  refine va_putF hX.1 hX.2.1 hX.2.2.2.2.1 h2 (sh_ty ci) h3 h4 hX.2.2.2.1 hR.1.none hR.2.1 hR.2.2.1 hR.2.2.2.1 (o - 1) he h1 f hf (hX.2.2.2.2.1 _ hw) (fun _ h9 => h9) hfin (hX.2.2.2.2.2.1 hy) (hown C T h1) (h3 f hf) hn hfit (by rw [sh_fs_len]; exact hf) hd (fun H1 locs1 hP1 hD1 hS1 => ?_)
  have e1 : (sh_W ad ac (n, I, P)).set (o - 1) (ad o, .inr (ci, (sh_fs ad I P o ci N).set f (.int (Int32.ofInt v)))) = sh_W ad ac (n, sh_u I o (f : Int) v, P) :=
    sh_W_set hk (fun k hk2 => sh_u_ne hk2) (fun _ _ => rfl) (by rw [sh_E_obj h5, sh_fs_setI hi])
  exact h p l e R s m args below meth c Z D A H0 ad ac H1 locs1 la hX hA (hR.putI hk.2.2 (by rw [← e1]; exact hP1) (by rw [← e1]; exact hD1) hS1) hL hc hret
theorem sh_putRF {y : sh_M} {pc : Nat} {ls : List (Option sh_V)} {st : List sh_V} {cn : Nat × Nat} {n : Nat} {I : sh_Mem} {P : sh_Ptr} {Q : Option Int → sh_St → Prop} {idx ci f N o q : Nat} (hd : decode y.2.1 pc = .ok (.putfield idx, 3)) (hl : sh_FL y.1.cls idx ci f N true) (hy : y.1.name = "<init>") (hown : ∀ (C : String) (T : u_T), vwCl[ci]? = some (C, T, N) → (T f).1 = y.1.cls) (hi : sh_isr (sh_ty ci f) = true) (hk : sh_is n o ci N) (hqn : q < n) (hn : ∀ a, narrow (sh_ty ci f) (.ref a) = .ref a) (hfit : ∀ a, fits (sh_ty ci f) (.ref a) = true) (h : sh_O y (pc + 3) ls st cn (n, I, sh_uP P o f q) Q) : sh_O y pc ls (.inr q :: .inr o :: st) cn (n, I, P) Q := by
  intro p l e R s m args below meth c Z D A H0 ad ac H locs la hX hA hR hL hc hret
  obtain ⟨C, T, hC, hf, hw, hfin⟩ := hl
  obtain ⟨h1, h2, h3, h4, h5⟩ := hC
  have he := sh_W_get (ad := ad) (ac := ac) (σ := (n, I, P)) hk
  rw [sh_E_obj h5] at he
  refine va_putF hX.1 hX.2.1 hX.2.2.2.2.1 h2 (sh_ty ci) h3 h4 hX.2.2.2.1 hR.1.none hR.2.1 hR.2.2.1 hR.2.2.2.1 (o - 1) he h1 f hf (hX.2.2.2.2.1 _ hw) (fun _ h9 => h9) hfin (hX.2.2.2.2.2.1 hy) (hown C T h1) (h3 f hf) (hn _) (hfit _) (by rw [sh_fs_len]; exact hf) hd (fun H1 locs1 hP1 hD1 hS1 => ?_)
  have e1 : (sh_W ad ac (n, I, P)).set (o - 1) (ad o, .inr (ci, (sh_fs ad I P o ci N).set f (.ref (ad q)))) = sh_W ad ac (n, I, sh_uP P o f q) :=
    sh_W_set hk (fun _ _ => rfl) (fun k hk2 => sh_uP_ne hk2) (by rw [sh_E_obj h5, sh_fs_setP hi])
  obtain ⟨a1, -, -, -, b1, c1, d1, g1, j1⟩ := hR
  refine h p l e R s m args below meth c Z D A H0 ad ac H1 locs1 la hX hA ⟨a1, by rw [← e1]; exact hP1, by rw [← e1]; exact hD1, hS1, b1, c1, d1, fun o' f' q' hq' => ?_, j1⟩ hL hc hret
  have hq2 : sh_uP P o f q o' f' = some q' := hq'
  simp only [sh_uP] at hq2
  split at hq2
  · cases hq2
    exact hqn
  · exact g1 o' f' q' hq2
