/-! ===== 09c: worlds side by side: the class's calls inside a larger world; a call whose arrays are forgotten ===== -/
def cx (c : sh_Cx) : Prop := 119 ≤ c.1 ∧ ∀ o, o < 119 → c.2 o = sh_PT o
def ext (c c' : sh_Cx) : Prop := c.1 ≤ c'.1 ∧ ∀ o, o < c.1 → c'.2 o = c.2 o
theorem ext.rf {c : sh_Cx} : ext c c := ⟨Nat.le_refl _, fun _ _ => rfl⟩
theorem ext.push {c d : sh_Cx} {N : Nat} (h : ext c d) : ext c (cp d N) := ⟨Nat.le_succ_of_le h.1, fun o ho => by
  show sh_uP d.2 d.1 0 N o = c.2 o
  rw [sh_uP_ne (by have := h.1; omega)]
  exact h.2 o ho⟩
theorem cx.push {c : sh_Cx} {N : Nat} (h : cx c) : cx (cp c N) := ⟨Nat.le_succ_of_le h.1, fun o ho => by
  show sh_uP c.2 c.1 0 N o = sh_PT o
  rw [sh_uP_ne (by have := h.1; omega)]
  exact h.2 o ho⟩
theorem dy.lt {c : sh_Cx} {o N : Nat} (h : dy c o N) : o < c.1 := h.1.2
theorem dy.ne {c : sh_Cx} {o N : Nat} (h : dy c o N) : ¬ o = c.1 := by have := h.1.2; omega
theorem dy.ge {c : sh_Cx} {o N : Nat} (h : dy c o N) : 119 ≤ o := h.1.1
def li (c : sh_Cx) (Q : Int → sh_Mem → Prop) (r : Option Int) (σ : sh_St) : Prop := ∃ I v, σ = (c.1, I, c.2) ∧ r = some v ∧ Q v I
def lv (c : sh_Cx) (Q : sh_Mem → Prop) (r : Option Int) (σ : sh_St) : Prop := ∃ I, σ = (c.1, I, c.2) ∧ r = none ∧ Q I
def qli (c : sh_Cx) (Q : Int → sh_Mem → Prop) (r : Option Int) (σ : sh_St) : Prop := ∃ c' I v, ext c c' ∧ σ = (c'.1, I, c'.2) ∧ r = some v ∧ Q v I
def qlv (c : sh_Cx) (Q : sh_Mem → Prop) (r : Option Int) (σ : sh_St) : Prop := ∃ c' I, ext c c' ∧ σ = (c'.1, I, c'.2) ∧ r = none ∧ Q I
abbrev cl (c : sh_Cx) (y : sh_M) (as : List sh_V) (I : sh_Mem) (Q : Option Int → sh_St → Prop) : Prop := sh_C y as (c.1, I, c.2) Q
/-- what lies in a smaller world lies in the larger one -/
theorem sh_W_pre {ad : Nat → Nat} {ac : Nat → ClassId} {n m : Nat} {I J : sh_Mem} {P R : sh_Ptr} (hn : n ≤ m) (h1 : ∀ k, 0 < k → k < n → J k = I k) (h2 : ∀ k, 0 < k → k < n → R k = P k) {k : Nat} {q : Nat × va_E} (h : (sh_W ad ac (n, I, P))[k]? = some q) : (sh_W ad ac (m, J, R))[k]? = some q := by
  obtain ⟨hk, rfl⟩ := sh_W_idx h
  have hk1 : k + 1 < n := hk
  have hlt : k < m - 1 := by omega
  rw [sh_W, List.getElem?_map, List.getElem?_range hlt]
  simp only [Option.map_some]
  rw [sh_E_congr (h1 _ (by omega) hk1) (h2 _ (by omega) hk1)]
theorem sh_C.drop {y : sh_M} {as : List sh_V} {c : sh_Cx} {I : sh_Mem} {Q0 Q : Option Int → sh_St → Prop} (h : sh_C y as (c.1, I, c.2) Q0) (hq : ∀ r σ, Q0 r σ → ∃ c' J, ext c c' ∧ σ = (c'.1, J, c'.2) ∧ Q r (c.1, J, c.2)) : sh_C y as (c.1, I, c.2) Q := by
  intro l D ad ac sz
  intro p e b1 b2 b3 s m args below b4 b5 b6 b7
  obtain ⟨k, o, c1, c2, c3, ⟨⟨r, σ', ad', ac', h1, ho, hU, k0, ks, kle⟩, h3⟩, c5⟩ := h l D ad ac sz p e b1 b2 b3 s m args below b4 b5 b6 b7
  obtain ⟨c', J, he, rfl, hQ⟩ := hq r σ' h1
  obtain ⟨-, -, -, -, -, -, -, -, a7, a8⟩ := b6
  obtain ⟨u1, u2, u3, u4, u5, u6, u7, u8⟩ := hU
  have pre : ∀ {k : Nat} {q : Nat × va_E}, (sh_W ad' ac' (c.1, J, c.2))[k]? = some q → (sh_W ad' ac' (c'.1, J, c'.2))[k]? = some q := fun hk => sh_W_pre he.1 (fun _ _ _ => rfl) (fun k _ hk => he.2 k hk) hk
  refine ⟨k, o, c1, c2, c3, ⟨⟨r, _, ad', ac', hQ, ho, ?_, k0, ks, Nat.le_refl _⟩, h3⟩, c5⟩
  exact ⟨⟨u1.1, fun o ci N ho => u1.2.1 o ci N ⟨Nat.lt_of_lt_of_le ho.1 he.1, ho.2⟩, u1.2.2⟩, fun k q hk => u2 k q (pre hk), ⟨fun i j p q hi hj => u3.1 i j p q (pre hi) (pre hj), fun k q hk => u3.2 k q (pre hk)⟩, u4, u5, fun k q hk => u6 k q (pre hk), a7, a8⟩
theorem l_callI {y : sh_M} {as : List sh_V} {c : sh_Cx} {I : sh_Mem} {Q : Int → sh_Mem → Prop} (hy : plainName y.1.cls = true) (hlen : as.length ≤ y.2.2.1) (h : kl c (0, 0) y 0 (as.map some ++ List.replicate (y.2.2.1 - as.length) none) [] I (qli c Q)) : cl c y as I (li c Q) :=
  (sh_call hy hlen h).drop (fun r σ q => by
    obtain ⟨c', J, v, he, rfl, rfl, q⟩ := q
    exact ⟨c', J, he, rfl, J, v, rfl, rfl, q⟩)
theorem l_callV {y : sh_M} {as : List sh_V} {c : sh_Cx} {I : sh_Mem} {Q : sh_Mem → Prop} (hy : plainName y.1.cls = true) (hlen : as.length ≤ y.2.2.1) (h : kl c (0, 0) y 0 (as.map some ++ List.replicate (y.2.2.1 - as.length) none) [] I (qlv c Q)) : cl c y as I (lv c Q) :=
  (sh_call hy hlen h).drop (fun r σ q => by
    obtain ⟨c', J, he, rfl, rfl, q⟩ := q
    exact ⟨c', J, he, rfl, J, rfl, rfl, q⟩)
/-- the memory behind a call of the class: its own objects as it left them, all others as they were -/
def mxM (J I : sh_Mem) : sh_Mem := fun o => if o < 119 then J o else I o
theorem mx_lt {J I : sh_Mem} {o : Nat} (h : o < 119) : mxM J I o = J o := by simp [mxM, h]
theorem mx_ge {J I : sh_Mem} {o : Nat} (h : 119 ≤ o) : mxM J I o = I o := by
  have : ¬ o < 119 := by omega
  simp [mxM, this]
/-- a call of the class inside a larger world -/
theorem sh_C.frame {y : sh_M} {as : List sh_V} {c : sh_Cx} {I : sh_Mem} {Q : Int → sh_Mem → Prop} (hc : cx c) (hy : y.2.2.2.2.2.1 = 0) (h : cc y as I (qi Q)) : cl c y as I (li c fun v K => ∃ J, K = mxM J I ∧ Q v J) := by
  intro l D ad ac sz
  intro p e b1 b2 b3 s m args below b4 b5 b6 b7
  obtain ⟨d0, dsz, a1, a2, a3, a4, a5, a6, a7, a8⟩ := b6
  have pre0 : ∀ {k : Nat} {q : Nat × va_E}, (sh_W ad ac (119, I, sh_PT))[k]? = some q → (sh_W ad ac (c.1, I, c.2))[k]? = some q := fun hk => sh_W_pre hc.1 (fun _ _ _ => rfl) (fun k _ hk => hc.2 k hk) hk
  have hU0 : sh_U D ad ac (sh_S I) (fun _ => True) s := ⟨⟨a1.1, fun o ci N ho => a1.2.1 o ci N ⟨Nat.lt_of_lt_of_le ho.1 hc.1, ho.2⟩, a1.2.2⟩, fun k q hk => a2 k q (pre0 hk), ⟨fun i j p q hi hj => a3.1 i j p q (pre0 hi) (pre0 hj), fun _ _ _ => trivial⟩, a4, a5, fun k q hk => a6 k q (pre0 hk), sh_PT_lt, Nat.succ_pos 118⟩
  obtain ⟨k, o, c1, c2, c3, ⟨⟨r, σ', ad', ac', h1, ho, hU, k0, ks, kle⟩, h3⟩, L, fe, hLf⟩ := h l D ad ac sz p e b1 b2 b3 s m args below b4 b5 ⟨d0, dsz, hU0⟩ b7
  obtain ⟨J, v, rfl, rfl, hQ⟩ := h1
  obtain ⟨rfl, rfl⟩ := k0 hy
  obtain ⟨u1, u2, u3, u4, u5, u6, u7, u8⟩ := hU
  have hwA : ∀ q, va_A (sh_W ad' ac' (sh_S I)) sz q → va_A (sh_W ad' ac' (c.1, I, c.2)) sz q := by
    rintro q (⟨k, x, hk⟩ | hle)
    · exact Or.inl ⟨k, x, pre0 hk⟩
    · exact Or.inr hle
  have hal := fe.2.1.alike
  have hJ : ∀ k, k < 119 → mxM J I k = J k := fun k hk => mx_lt hk
  -- an entry of the larger world, behind the call
  have ent : ∀ (k : Nat) (q : Nat × va_E), (sh_W ad' ac' (c.1, mxM J I, c.2))[k]? = some q → ((sh_W ad' ac' (119, J, sh_PT))[k]? = some q) ∨ (118 ≤ k ∧ (sh_W ad' ac' (c.1, I, c.2))[k]? = some q) := by
    intro k q hk
    by_cases hlt : k + 1 < 119
    · left
      have h9 := sh_W_idx hk
      obtain ⟨h91, h92⟩ := h9
      rw [h92]
      have hlt2 : k < 119 - 1 := by omega
      rw [sh_W, List.getElem?_map, List.getElem?_range hlt2]
      simp only [Option.map_some]
      rw [sh_E_congr (hJ _ hlt) (hc.2 _ hlt)]
    · right
      refine ⟨by omega, ?_⟩
      obtain ⟨h91, h92⟩ := sh_W_idx hk
      rw [h92]
      have h93 : k + 1 < c.1 := h91
      have hlt2 : k < c.1 - 1 := by omega
      rw [sh_W, List.getElem?_map, List.getElem?_range hlt2]
      simp only [Option.map_some]
      rw [sh_E_congr (I := I) (I' := mxM J I) (mx_ge (by omega)) rfl]
  have adr : ∀ (k : Nat) (q : Nat × va_E), (sh_W ad' ac' (c.1, mxM J I, c.2))[k]? = some q → ∃ x, (sh_W ad' ac' (c.1, I, c.2))[k]? = some (q.1, x) := by
    intro k q hk
    obtain ⟨h91, rfl⟩ := sh_W_idx hk
    have h93 : k + 1 < c.1 := h91
    have hlt2 : k < c.1 - 1 := by omega
    refine ⟨sh_E ad' ac' I c.2 (k + 1) (sh_KD (k + 1)), ?_⟩
    rw [sh_W, List.getElem?_map, List.getElem?_range hlt2]
    rfl
  have far : ∀ (k : Nat) (q : Nat × va_E), 118 ≤ k → (sh_W ad' ac' (c.1, I, c.2))[k]? = some q → q.1 < s.heap.size ∧ ¬ va_A (sh_W ad' ac' (sh_S I)) sz q.1 := by
    intro k q hk hq
    have hlt : q.1 < s.heap.size := (a2 k q hq).lt
    refine ⟨hlt, ?_⟩
    rintro (⟨j, x, hj⟩ | hle)
    · have h9 := a3.1 k j q (q.1, x) hq (pre0 hj) rfl
      have h8 := (sh_W_idx hj).1
      have h7 : j + 1 < 119 := h8
      omega
    · omega
  refine ⟨k, o, c1, c2, c3, ⟨⟨some v, (c.1, mxM J I, c.2), ad', ac', ⟨mxM J I, v, rfl, rfl, J, rfl, hQ⟩, ho, ?_, fun _ => ⟨rfl, rfl⟩, fun _ _ => ⟨rfl, rfl⟩, Nat.le_refl _⟩, h3.1, fun q q1 q2 => h3.2 q q1 (fun z => q2 (hwA q z))⟩, L, fe, fun q hq => hwA _ (hLf q hq)⟩
  refine ⟨⟨u1.1, fun o ci N ho h8 h13 => ⟨(arrOfT_moved hal (a1.2.1 o ci N ho h8 h13).1), ((a1.2.1 o ci N ho h8 h13).2.moved hal)⟩, u1.2.2⟩, fun k q hk => ?_, ⟨fun i j p q hi hj he => ?_, fun k q hk => ?_⟩, ?_, u5, fun k q hk => ?_, a7, a8⟩
  · rcases ent k q hk with h9 | ⟨h9, h8⟩
    · exact u2 k q h9
    · exact (a2 k q h8).kept (h3.2 _ (far k q h9 h8).1 (far k q h9 h8).2)
  · obtain ⟨x, hx⟩ := adr i p hi
    obtain ⟨z, hz⟩ := adr j q hj
    exact a3.1 i j _ _ hx hz he
  · obtain ⟨x, hx⟩ := adr k q hk
    exact Or.inl ⟨k, x, hx⟩
  · show va_X (ad' 0) (mxM J I 0 0).toNat (fun j => Int32.ofInt (mxM J I 0 ((j : Int) + 1))) _ _
    rw [hJ 0 (by decide)]
    exact u4
  · obtain ⟨x, hx⟩ := adr k q hk
    exact a6 k (q.1, x) hx
/-! calls in the law -/
theorem l_fit {y y2 : sh_M} {cn : Nat × Nat} {k : Nat} (h : sh_fit0 y y2 k = true) (hc : cn.1 ≤ y.2.2.2.2.2.1 ∧ cn.2 ≤ y.2.2.2.2.2.2) : sh_fit y y2 cn k := by
  obtain ⟨⟨h1, h2, h3, h4, h5⟩, e1, e2⟩ := sh_fit0_ok h
  exact ⟨h1, h2, by rw [e1]; exact hc.1, by rw [e2]; exact hc.2, h5⟩
theorem l_hc {y : sh_M} {pc : Nat} {ls : List (Option sh_V)} {st : List sh_V} {cn : Nat × Nat} {σ : sh_St} {Q : Option Int → sh_St → Prop} (h : (cn.1 ≤ y.2.2.2.2.2.1 ∧ cn.2 ≤ y.2.2.2.2.2.2) → sh_O y pc ls st cn σ Q) : sh_O y pc ls st cn σ Q := by
  intro p l e R s m args below meth c Z D A H0 ad ac H locs la hX hA hR hL hc hret
  exact h hc p l e R s m args below meth c Z D A H0 ad ac H locs la hX hA hR hL hc hret
theorem l_cn {y2 : sh_M} {cn : Nat × Nat} (h : y2.2.2.2.2.2.1 = 0 ∧ y2.2.2.2.2.2.2 = 0) : (cn.1 + y2.2.2.2.2.2.1, cn.2 + y2.2.2.2.2.2.2) = cn := by rw [h.1, h.2]; rfl
theorem l_iret {y : sh_M} {pc : Nat} {ls : List (Option sh_V)} {cn : Nat × Nat} {c0 c : sh_Cx} {I : sh_Mem} {Q : Int → sh_Mem → Prop} {v : Int} (he : ext c0 c) (hd : decode y.2.1 pc = .ok (.ireturn, 1)) (ht : y.2.2.2.1 = some .int) (h : Q v I) : kl c cn y pc ls [.inl v] I (qli c0 Q) := sh_iret (st := []) hd ht rfl ⟨c, I, v, he, rfl, rfl, h⟩
theorem l_zret {y : sh_M} {pc : Nat} {ls : List (Option sh_V)} {cn : Nat × Nat} {c0 c : sh_Cx} {I : sh_Mem} {Q : Int → sh_Mem → Prop} {v : Int} (he : ext c0 c) (hd : decode y.2.1 pc = .ok (.ireturn, 1)) (ht : y.2.2.2.1 = some .boolean) (hv : sh_01 v) (h : Q v I) : kl c cn y pc ls [.inl v] I (qli c0 Q) := sh_iret (st := []) hd ht (nar01 hv) ⟨c, I, v, he, rfl, rfl, h⟩
theorem l_vret {y : sh_M} {pc : Nat} {ls : List (Option sh_V)} {cn : Nat × Nat} {c0 c : sh_Cx} {I : sh_Mem} {Q : sh_Mem → Prop} (he : ext c0 c) (hd : decode y.2.1 pc = .ok (.return_, 1)) (ht : y.2.2.2.1 = none) (h : Q I) : kl c cn y pc ls [] I (qlv c0 Q) := sh_vret (st := []) hd ht ⟨c, I, he, rfl, rfl, h⟩
theorem l_S2i {y y2 : sh_M} {pc : Nat} {ls : List (Option sh_V)} {st : List sh_V} {cn : Nat × Nat} {c : sh_Cx} {I : sh_Mem} {Q : Option Int → sh_St → Prop} {idx : Nat} {a0 a1 : sh_V} {Q1 : Int → sh_Mem → Prop} (hd : decode y.2.1 pc = .ok (.invokestatic idx, 3)) (hl : sh_LS y.1.cls idx y2 2) (hz : sh_fit0 y y2 st.length = true) (hC : cl c y2 [a0, a1] I (li c Q1)) (h : ∀ v J, Q1 v J → kl c cn y (pc + 3) ls (.inl v :: st) J Q) : kl c cn y pc ls (a1 :: a0 :: st) I Q :=
  l_hc (fun hc => sh_callS (as := [a0, a1]) hd hl hC rfl (l_fit hz hc) (Or.inl (sh_fit0_ok hz).2.1) (fun r σ hq => by
    obtain ⟨J, v, rfl, rfl, hq⟩ := hq
    rw [l_cn (sh_fit0_ok hz).2]
    exact h v J hq))
theorem l_S2v {y y2 : sh_M} {pc : Nat} {ls : List (Option sh_V)} {st : List sh_V} {cn : Nat × Nat} {c : sh_Cx} {I : sh_Mem} {Q : Option Int → sh_St → Prop} {idx : Nat} {a0 a1 : sh_V} {Q1 : sh_Mem → Prop} (hd : decode y.2.1 pc = .ok (.invokestatic idx, 3)) (hl : sh_LS y.1.cls idx y2 2) (hz : sh_fit0 y y2 st.length = true) (hC : cl c y2 [a0, a1] I (lv c Q1)) (h : ∀ J, Q1 J → kl c cn y (pc + 3) ls st J Q) : kl c cn y pc ls (a1 :: a0 :: st) I Q :=
  l_hc (fun hc => sh_callS (as := [a0, a1]) hd hl hC rfl (l_fit hz hc) (Or.inl (sh_fit0_ok hz).2.1) (fun r σ hq => by
    obtain ⟨J, rfl, rfl, hq⟩ := hq
    rw [l_cn (sh_fit0_ok hz).2]
    exact h J hq))
theorem l_S3i {y y2 : sh_M} {pc : Nat} {ls : List (Option sh_V)} {st : List sh_V} {cn : Nat × Nat} {c : sh_Cx} {I : sh_Mem} {Q : Option Int → sh_St → Prop} {idx : Nat} {a0 a1 a2 : sh_V} {Q1 : Int → sh_Mem → Prop} (hd : decode y.2.1 pc = .ok (.invokestatic idx, 3)) (hl : sh_LS y.1.cls idx y2 3) (hz : sh_fit0 y y2 st.length = true) (hC : cl c y2 [a0, a1, a2] I (li c Q1)) (h : ∀ v J, Q1 v J → kl c cn y (pc + 3) ls (.inl v :: st) J Q) : kl c cn y pc ls (a2 :: a1 :: a0 :: st) I Q :=
  l_hc (fun hc => sh_callS (as := [a0, a1, a2]) hd hl hC rfl (l_fit hz hc) (Or.inl (sh_fit0_ok hz).2.1) (fun r σ hq => by
    obtain ⟨J, v, rfl, rfl, hq⟩ := hq
    rw [l_cn (sh_fit0_ok hz).2]
    exact h v J hq))
theorem l_S3v {y y2 : sh_M} {pc : Nat} {ls : List (Option sh_V)} {st : List sh_V} {cn : Nat × Nat} {c : sh_Cx} {I : sh_Mem} {Q : Option Int → sh_St → Prop} {idx : Nat} {a0 a1 a2 : sh_V} {Q1 : sh_Mem → Prop} (hd : decode y.2.1 pc = .ok (.invokestatic idx, 3)) (hl : sh_LS y.1.cls idx y2 3) (hz : sh_fit0 y y2 st.length = true) (hC : cl c y2 [a0, a1, a2] I (lv c Q1)) (h : ∀ J, Q1 J → kl c cn y (pc + 3) ls st J Q) : kl c cn y pc ls (a2 :: a1 :: a0 :: st) I Q :=
  l_hc (fun hc => sh_callS (as := [a0, a1, a2]) hd hl hC rfl (l_fit hz hc) (Or.inl (sh_fit0_ok hz).2.1) (fun r σ hq => by
    obtain ⟨J, rfl, rfl, hq⟩ := hq
    rw [l_cn (sh_fit0_ok hz).2]
    exact h J hq))
theorem l_S4i {y y2 : sh_M} {pc : Nat} {ls : List (Option sh_V)} {st : List sh_V} {cn : Nat × Nat} {c : sh_Cx} {I : sh_Mem} {Q : Option Int → sh_St → Prop} {idx : Nat} {a0 a1 a2 a3 : sh_V} {Q1 : Int → sh_Mem → Prop} (hd : decode y.2.1 pc = .ok (.invokestatic idx, 3)) (hl : sh_LS y.1.cls idx y2 4) (hz : sh_fit0 y y2 st.length = true) (hC : cl c y2 [a0, a1, a2, a3] I (li c Q1)) (h : ∀ v J, Q1 v J → kl c cn y (pc + 3) ls (.inl v :: st) J Q) : kl c cn y pc ls (a3 :: a2 :: a1 :: a0 :: st) I Q :=
  l_hc (fun hc => sh_callS (as := [a0, a1, a2, a3]) hd hl hC rfl (l_fit hz hc) (Or.inl (sh_fit0_ok hz).2.1) (fun r σ hq => by
    obtain ⟨J, v, rfl, rfl, hq⟩ := hq
    rw [l_cn (sh_fit0_ok hz).2]
    exact h v J hq))
theorem l_S4v {y y2 : sh_M} {pc : Nat} {ls : List (Option sh_V)} {st : List sh_V} {cn : Nat × Nat} {c : sh_Cx} {I : sh_Mem} {Q : Option Int → sh_St → Prop} {idx : Nat} {a0 a1 a2 a3 : sh_V} {Q1 : sh_Mem → Prop} (hd : decode y.2.1 pc = .ok (.invokestatic idx, 3)) (hl : sh_LS y.1.cls idx y2 4) (hz : sh_fit0 y y2 st.length = true) (hC : cl c y2 [a0, a1, a2, a3] I (lv c Q1)) (h : ∀ J, Q1 J → kl c cn y (pc + 3) ls st J Q) : kl c cn y pc ls (a3 :: a2 :: a1 :: a0 :: st) I Q :=
  l_hc (fun hc => sh_callS (as := [a0, a1, a2, a3]) hd hl hC rfl (l_fit hz hc) (Or.inl (sh_fit0_ok hz).2.1) (fun r σ hq => by
    obtain ⟨J, rfl, rfl, hq⟩ := hq
    rw [l_cn (sh_fit0_ok hz).2]
    exact h J hq))
theorem l_S5i {y y2 : sh_M} {pc : Nat} {ls : List (Option sh_V)} {st : List sh_V} {cn : Nat × Nat} {c : sh_Cx} {I : sh_Mem} {Q : Option Int → sh_St → Prop} {idx : Nat} {a0 a1 a2 a3 a4 : sh_V} {Q1 : Int → sh_Mem → Prop} (hd : decode y.2.1 pc = .ok (.invokestatic idx, 3)) (hl : sh_LS y.1.cls idx y2 5) (hz : sh_fit0 y y2 st.length = true) (hC : cl c y2 [a0, a1, a2, a3, a4] I (li c Q1)) (h : ∀ v J, Q1 v J → kl c cn y (pc + 3) ls (.inl v :: st) J Q) : kl c cn y pc ls (a4 :: a3 :: a2 :: a1 :: a0 :: st) I Q :=
  l_hc (fun hc => sh_callS (as := [a0, a1, a2, a3, a4]) hd hl hC rfl (l_fit hz hc) (Or.inl (sh_fit0_ok hz).2.1) (fun r σ hq => by
    obtain ⟨J, v, rfl, rfl, hq⟩ := hq
    rw [l_cn (sh_fit0_ok hz).2]
    exact h v J hq))
theorem l_S5v {y y2 : sh_M} {pc : Nat} {ls : List (Option sh_V)} {st : List sh_V} {cn : Nat × Nat} {c : sh_Cx} {I : sh_Mem} {Q : Option Int → sh_St → Prop} {idx : Nat} {a0 a1 a2 a3 a4 : sh_V} {Q1 : sh_Mem → Prop} (hd : decode y.2.1 pc = .ok (.invokestatic idx, 3)) (hl : sh_LS y.1.cls idx y2 5) (hz : sh_fit0 y y2 st.length = true) (hC : cl c y2 [a0, a1, a2, a3, a4] I (lv c Q1)) (h : ∀ J, Q1 J → kl c cn y (pc + 3) ls st J Q) : kl c cn y pc ls (a4 :: a3 :: a2 :: a1 :: a0 :: st) I Q :=
  l_hc (fun hc => sh_callS (as := [a0, a1, a2, a3, a4]) hd hl hC rfl (l_fit hz hc) (Or.inl (sh_fit0_ok hz).2.1) (fun r σ hq => by
    obtain ⟨J, rfl, rfl, hq⟩ := hq
    rw [l_cn (sh_fit0_ok hz).2]
    exact h J hq))
theorem l_S6i {y y2 : sh_M} {pc : Nat} {ls : List (Option sh_V)} {st : List sh_V} {cn : Nat × Nat} {c : sh_Cx} {I : sh_Mem} {Q : Option Int → sh_St → Prop} {idx : Nat} {a0 a1 a2 a3 a4 a5 : sh_V} {Q1 : Int → sh_Mem → Prop} (hd : decode y.2.1 pc = .ok (.invokestatic idx, 3)) (hl : sh_LS y.1.cls idx y2 6) (hz : sh_fit0 y y2 st.length = true) (hC : cl c y2 [a0, a1, a2, a3, a4, a5] I (li c Q1)) (h : ∀ v J, Q1 v J → kl c cn y (pc + 3) ls (.inl v :: st) J Q) : kl c cn y pc ls (a5 :: a4 :: a3 :: a2 :: a1 :: a0 :: st) I Q :=
  l_hc (fun hc => sh_callS (as := [a0, a1, a2, a3, a4, a5]) hd hl hC rfl (l_fit hz hc) (Or.inl (sh_fit0_ok hz).2.1) (fun r σ hq => by
    obtain ⟨J, v, rfl, rfl, hq⟩ := hq
    rw [l_cn (sh_fit0_ok hz).2]
    exact h v J hq))
theorem l_S6v {y y2 : sh_M} {pc : Nat} {ls : List (Option sh_V)} {st : List sh_V} {cn : Nat × Nat} {c : sh_Cx} {I : sh_Mem} {Q : Option Int → sh_St → Prop} {idx : Nat} {a0 a1 a2 a3 a4 a5 : sh_V} {Q1 : sh_Mem → Prop} (hd : decode y.2.1 pc = .ok (.invokestatic idx, 3)) (hl : sh_LS y.1.cls idx y2 6) (hz : sh_fit0 y y2 st.length = true) (hC : cl c y2 [a0, a1, a2, a3, a4, a5] I (lv c Q1)) (h : ∀ J, Q1 J → kl c cn y (pc + 3) ls st J Q) : kl c cn y pc ls (a5 :: a4 :: a3 :: a2 :: a1 :: a0 :: st) I Q :=
  l_hc (fun hc => sh_callS (as := [a0, a1, a2, a3, a4, a5]) hd hl hC rfl (l_fit hz hc) (Or.inl (sh_fit0_ok hz).2.1) (fun r σ hq => by
    obtain ⟨J, rfl, rfl, hq⟩ := hq
    rw [l_cn (sh_fit0_ok hz).2]
    exact h J hq))
theorem l_F0 {y y2 : sh_M} {pc : Nat} {ls : List (Option sh_V)} {st : List sh_V} {cn : Nat × Nat} {c : sh_Cx} {I : sh_Mem} {Q : Option Int → sh_St → Prop} {idx : Nat} {Q1 : Int → sh_Mem → Prop} (hx : cx c) (hd : decode y.2.1 pc = .ok (.invokevirtual idx, 3)) (hl : sh_LV y.1.cls idx y2 0 6 9) (hz : sh_fit0 y y2 st.length = true) (hC : cc y2 [.inr 1] I (qi Q1)) (h : ∀ v J, Q1 v J → kl c cn y (pc + 3) ls (.inl v :: st) (mxM J I) Q) : kl c cn y pc ls (.inr 1 :: st) I Q :=
  l_hc (fun hc => sh_callV (as := []) (ci := 6) (N := 9) ⟨Nat.lt_of_lt_of_le (by decide) hx.1, by decide +kernel, by decide⟩ hd hl (hC.frame hx (sh_fit0_ok hz).2.1) rfl (l_fit hz hc) (Or.inl (sh_fit0_ok hz).2.1) (fun r σ hq => by
    obtain ⟨J, v, rfl, rfl, K, rfl, hq⟩ := hq
    rw [l_cn (sh_fit0_ok hz).2]
    exact h v K hq))
theorem l_F1 {y y2 : sh_M} {pc : Nat} {ls : List (Option sh_V)} {st : List sh_V} {cn : Nat × Nat} {c : sh_Cx} {I : sh_Mem} {Q : Option Int → sh_St → Prop} {idx : Nat} {a0 : sh_V} {Q1 : Int → sh_Mem → Prop} (hx : cx c) (hd : decode y.2.1 pc = .ok (.invokevirtual idx, 3)) (hl : sh_LV y.1.cls idx y2 1 6 9) (hz : sh_fit0 y y2 st.length = true) (hC : cc y2 [.inr 1, a0] I (qi Q1)) (h : ∀ v J, Q1 v J → kl c cn y (pc + 3) ls (.inl v :: st) (mxM J I) Q) : kl c cn y pc ls (a0 :: .inr 1 :: st) I Q :=
  l_hc (fun hc => sh_callV (as := [a0]) (ci := 6) (N := 9) ⟨Nat.lt_of_lt_of_le (by decide) hx.1, by decide +kernel, by decide⟩ hd hl (hC.frame hx (sh_fit0_ok hz).2.1) rfl (l_fit hz hc) (Or.inl (sh_fit0_ok hz).2.1) (fun r σ hq => by
    obtain ⟨J, v, rfl, rfl, K, rfl, hq⟩ := hq
    rw [l_cn (sh_fit0_ok hz).2]
    exact h v K hq))
theorem l_F2 {y y2 : sh_M} {pc : Nat} {ls : List (Option sh_V)} {st : List sh_V} {cn : Nat × Nat} {c : sh_Cx} {I : sh_Mem} {Q : Option Int → sh_St → Prop} {idx : Nat} {a0 a1 : sh_V} {Q1 : Int → sh_Mem → Prop} (hx : cx c) (hd : decode y.2.1 pc = .ok (.invokevirtual idx, 3)) (hl : sh_LV y.1.cls idx y2 2 6 9) (hz : sh_fit0 y y2 st.length = true) (hC : cc y2 [.inr 1, a0, a1] I (qi Q1)) (h : ∀ v J, Q1 v J → kl c cn y (pc + 3) ls (.inl v :: st) (mxM J I) Q) : kl c cn y pc ls (a1 :: a0 :: .inr 1 :: st) I Q :=
  l_hc (fun hc => sh_callV (as := [a0, a1]) (ci := 6) (N := 9) ⟨Nat.lt_of_lt_of_le (by decide) hx.1, by decide +kernel, by decide⟩ hd hl (hC.frame hx (sh_fit0_ok hz).2.1) rfl (l_fit hz hc) (Or.inl (sh_fit0_ok hz).2.1) (fun r σ hq => by
    obtain ⟨J, v, rfl, rfl, K, rfl, hq⟩ := hq
    rw [l_cn (sh_fit0_ok hz).2]
    exact h v K hq))
theorem l_F3 {y y2 : sh_M} {pc : Nat} {ls : List (Option sh_V)} {st : List sh_V} {cn : Nat × Nat} {c : sh_Cx} {I : sh_Mem} {Q : Option Int → sh_St → Prop} {idx : Nat} {a0 a1 a2 : sh_V} {Q1 : Int → sh_Mem → Prop} (hx : cx c) (hd : decode y.2.1 pc = .ok (.invokevirtual idx, 3)) (hl : sh_LV y.1.cls idx y2 3 6 9) (hz : sh_fit0 y y2 st.length = true) (hC : cc y2 [.inr 1, a0, a1, a2] I (qi Q1)) (h : ∀ v J, Q1 v J → kl c cn y (pc + 3) ls (.inl v :: st) (mxM J I) Q) : kl c cn y pc ls (a2 :: a1 :: a0 :: .inr 1 :: st) I Q :=
  l_hc (fun hc => sh_callV (as := [a0, a1, a2]) (ci := 6) (N := 9) ⟨Nat.lt_of_lt_of_le (by decide) hx.1, by decide +kernel, by decide⟩ hd hl (hC.frame hx (sh_fit0_ok hz).2.1) rfl (l_fit hz hc) (Or.inl (sh_fit0_ok hz).2.1) (fun r σ hq => by
    obtain ⟨J, v, rfl, rfl, K, rfl, hq⟩ := hq
    rw [l_cn (sh_fit0_ok hz).2]
    exact h v K hq))
theorem l_A4 {y y2 : sh_M} {pc : Nat} {ls : List (Option sh_V)} {st : List sh_V} {cn cn' : Nat × Nat} {c : sh_Cx} {I : sh_Mem} {Q : Option Int → sh_St → Prop} {idx : Nat} {a0 a1 a2 a3 : sh_V} {Q1 : Int → sh_Mem → Prop} (hd : decode y.2.1 pc = .ok (.invokestatic idx, 3)) (hl : sh_LS y.1.cls idx y2 4) (hf : sh_fit y y2 cn st.length) (hst : sh_noref c.1 st ∧ ∀ o : Nat, some (Sum.inr o) ∈ ls → o < c.1) (hcn : (cn.1 + y2.2.2.2.2.2.1, cn.2 + y2.2.2.2.2.2.2) = cn') (hC : cl c y2 [a0, a1, a2, a3] I (li c Q1)) (h : ∀ v J, Q1 v J → kl c cn' y (pc + 3) ls (.inl v :: st) J Q) : kl c cn y pc ls (a3 :: a2 :: a1 :: a0 :: st) I Q :=
  sh_callS (as := [a0, a1, a2, a3]) hd hl hC rfl hf (Or.inr hst) (fun r σ hq => by
    obtain ⟨J, v, rfl, rfl, hq⟩ := hq
    rw [hcn]
    exact h v J hq)
theorem l_A5 {y y2 : sh_M} {pc : Nat} {ls : List (Option sh_V)} {st : List sh_V} {cn cn' : Nat × Nat} {c : sh_Cx} {I : sh_Mem} {Q : Option Int → sh_St → Prop} {idx : Nat} {a0 a1 a2 a3 a4 : sh_V} {Q1 : Int → sh_Mem → Prop} (hd : decode y.2.1 pc = .ok (.invokestatic idx, 3)) (hl : sh_LS y.1.cls idx y2 5) (hf : sh_fit y y2 cn st.length) (hst : sh_noref c.1 st ∧ ∀ o : Nat, some (Sum.inr o) ∈ ls → o < c.1) (hcn : (cn.1 + y2.2.2.2.2.2.1, cn.2 + y2.2.2.2.2.2.2) = cn') (hC : cl c y2 [a0, a1, a2, a3, a4] I (li c Q1)) (h : ∀ v J, Q1 v J → kl c cn' y (pc + 3) ls (.inl v :: st) J Q) : kl c cn y pc ls (a4 :: a3 :: a2 :: a1 :: a0 :: st) I Q :=
  sh_callS (as := [a0, a1, a2, a3, a4]) hd hl hC rfl hf (Or.inr hst) (fun r σ hq => by
    obtain ⟨J, v, rfl, rfl, hq⟩ := hq
    rw [hcn]
    exact h v J hq)
