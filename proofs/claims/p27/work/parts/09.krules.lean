/-! ===== 09: rules over the made system ===== -/
theorem k_istore_n {y : sh_M} {pc : Nat} {ls : List (Option sh_V)} (ls' : List (Option sh_V)) {st : List sh_V} {cn : Nat × Nat} {σ : sh_St} {Q : Option Int → sh_St → Prop} {k : Fin 4} {i : Nat} {x : Int} (hd : decode y.2.1 pc = .ok (.istore_n k, 1)) (hi : (k : Nat) = i) (hs : ls.set i (some (.inl x)) = ls') (hn : i < y.2.2.1) (h : sh_O y (pc + 1) ls' st cn σ Q) : sh_O y pc ls (.inl x :: st) cn σ Q := sh_istore_n hd hi hn (hs ▸ h)
theorem k_astore_n {y : sh_M} {pc : Nat} {ls : List (Option sh_V)} (ls' : List (Option sh_V)) {st : List sh_V} {cn : Nat × Nat} {σ : sh_St} {Q : Option Int → sh_St → Prop} {k : Fin 4} {i : Nat} {x : Nat} (hd : decode y.2.1 pc = .ok (.astore_n k, 1)) (hi : (k : Nat) = i) (hs : ls.set i (some (.inr x)) = ls') (hn : i < y.2.2.1) (h : sh_O y (pc + 1) ls' st cn σ Q) : sh_O y pc ls (.inr x :: st) cn σ Q := sh_astore_n hd hi hn (hs ▸ h)
theorem k_istore {y : sh_M} {pc : Nat} {ls : List (Option sh_V)} (ls' : List (Option sh_V)) {st : List sh_V} {cn : Nat × Nat} {σ : sh_St} {Q : Option Int → sh_St → Prop} {i : Nat} {x : Int} (hd : decode y.2.1 pc = .ok (.istore i, 2)) (hs : ls.set i (some (.inl x)) = ls') (hn : i < y.2.2.1) (h : sh_O y (pc + 2) ls' st cn σ Q) : sh_O y pc ls (.inl x :: st) cn σ Q := sh_istore hd hn (hs ▸ h)
theorem k_iinc {y : sh_M} {pc : Nat} {ls : List (Option sh_V)} (ls' : List (Option sh_V)) {st : List sh_V} {cn : Nat × Nat} {σ : sh_St} {Q : Option Int → sh_St → Prop} {i : Nat} {n x : Int} (hd : decode y.2.1 pc = .ok (.iinc i n, 3)) (hl : ls[i]? = some (some (.inl x))) (hs : ls.set i (some (.inl (x + n))) = ls') (hn : i < y.2.2.1) (h : sh_O y (pc + 3) ls' st cn σ Q) : sh_O y pc ls st cn σ Q := sh_iinc hd hl hn (hs ▸ h)
theorem k_iret {y : sh_M} {pc : Nat} {ls : List (Option sh_V)} {I : sh_Mem} {Q : Int → sh_Mem → Prop} {v : Int} (hd : decode y.2.1 pc = .ok (.ireturn, 1)) (ht : y.2.2.2.1 = some .int) (h : Q v I) : kk y pc ls [.inl v] I (qi Q) := sh_iret (st := []) hd ht rfl ⟨I, v, rfl, rfl, h⟩
theorem k_zret {y : sh_M} {pc : Nat} {ls : List (Option sh_V)} {I : sh_Mem} {Q : Int → sh_Mem → Prop} {v : Int} (hd : decode y.2.1 pc = .ok (.ireturn, 1)) (ht : y.2.2.2.1 = some .boolean) (hv : sh_01 v) (h : Q v I) : kk y pc ls [.inl v] I (qi Q) := sh_iret (st := []) hd ht (nar01 hv) ⟨I, v, rfl, rfl, h⟩
theorem k_vret {y : sh_M} {pc : Nat} {ls : List (Option sh_V)} {I : sh_Mem} {Q : sh_Mem → Prop} (hd : decode y.2.1 pc = .ok (.return_, 1)) (ht : y.2.2.2.1 = none) (h : Q I) : kk y pc ls [] I (qv Q) := sh_vret (st := []) hd ht ⟨I, rfl, rfl, h⟩
def sh_fit0 (y y2 : sh_M) (k : Nat) : Bool := decide (y2.2.2.2.2.1.1 + 1 ≤ y.2.2.2.2.1.1) && decide (8 + (y2.2.2.1 + 11) + y2.2.2.2.2.1.2 ≤ y.2.2.2.2.1.2) && decide (y2.2.2.2.2.2.1 = 0) && decide (y2.2.2.2.2.2.2 = 0) && decide (k ≤ 8)
theorem sh_fit0_ok {y y2 : sh_M} {k : Nat} (h : sh_fit0 y y2 k = true) : sh_fit y y2 (0, 0) k ∧ y2.2.2.2.2.2.1 = 0 ∧ y2.2.2.2.2.2.2 = 0 := by
  simp only [sh_fit0, Bool.and_eq_true, decide_eq_true_eq] at h
  obtain ⟨⟨⟨⟨h1, h2⟩, h3⟩, h4⟩, h5⟩ := h
  exact ⟨⟨h1, h2, by rw [h3]; omega, by rw [h4]; omega, h5⟩, h3, h4⟩
theorem sh_cn0 {y2 : sh_M} (h : y2.2.2.2.2.2.1 = 0 ∧ y2.2.2.2.2.2.2 = 0) : (((0, 0) : Nat × Nat).1 + y2.2.2.2.2.2.1, ((0, 0) : Nat × Nat).2 + y2.2.2.2.2.2.2) = ((0, 0) : Nat × Nat) := by rw [h.1, h.2]
theorem k_putI {y : sh_M} {pc : Nat} {ls : List (Option sh_V)} {st : List sh_V} {I : sh_Mem} {Q : Option Int → sh_St → Prop} {idx ci f N o : Nat} {g v : Int} (hd : decode y.2.1 pc = .ok (.putfield idx, 3)) (hl : sh_FL y.1.cls idx ci f N false) (hi : sh_ty ci f = .int) (hk : sh_is (sh_S I).1 o ci N) (hg : (f : Int) = g) (h : kk y (pc + 3) ls st (sh_u I o g v) Q) : kk y pc ls (.inl v :: .inr o :: st) I Q :=
  sh_putI hd hl (by rw [hi]; rfl) hk hg (by rw [hi]; rfl) (by rw [hi]; rfl) h
theorem k_putZ {y : sh_M} {pc : Nat} {ls : List (Option sh_V)} {st : List sh_V} {I : sh_Mem} {Q : Option Int → sh_St → Prop} {idx ci f N o : Nat} {g v : Int} (hd : decode y.2.1 pc = .ok (.putfield idx, 3)) (hl : sh_FL y.1.cls idx ci f N false) (hi : sh_ty ci f = .boolean) (hk : sh_is (sh_S I).1 o ci N) (hg : (f : Int) = g) (hv : sh_01 v) (h : kk y (pc + 3) ls st (sh_u I o g v) Q) : kk y pc ls (.inl v :: .inr o :: st) I Q :=
  sh_putI hd hl (by rw [hi]; rfl) hk hg (by rw [hi]; exact nar01 hv) (by rw [hi]; rcases hv with rfl | rfl <;> rfl) h
theorem k_getI {y : sh_M} {pc : Nat} {ls : List (Option sh_V)} {st : List sh_V} {I : sh_Mem} {Q : Option Int → sh_St → Prop} {idx ci f N o : Nat} {fin : Bool} {g : Int} (v : Int) (hd : decode y.2.1 pc = .ok (.getfield idx, 3)) (hl : sh_FL y.1.cls idx ci f N fin) (hi : sh_isr (sh_ty ci f) = false) (hk : sh_is (sh_S I).1 o ci N) (hg : (f : Int) = g) (hv : I o g = v) (h : kk y (pc + 3) ls (.inl v :: st) I Q) : kk y pc ls (.inr o :: st) I Q := sh_getI hd hl hi hk hg (by show sh_O y (pc + 3) ls (.inl (I o g) :: st) (0, 0) (sh_S I) Q; rw [hv]; exact h)
theorem k_iald {y : sh_M} {pc : Nat} {ls : List (Option sh_V)} {st : List sh_V} {I : sh_Mem} {Q : Option Int → sh_St → Prop} {o N : Nat} {i : Int} (v : Int) (hd : decode y.2.1 pc = .ok (.iaload, 1)) (hk : sh_is (sh_S I).1 o 8 N) (hN : N < 2147483648) (hi : 0 ≤ i ∧ i < (N : Int)) (hv : I o i = v) (h : kk y (pc + 1) ls (.inl v :: st) I Q) : kk y pc ls (.inl i :: .inr o :: st) I Q := sh_iald hd hk hN hi (by rw [hv]; exact h)
theorem k_bald {y : sh_M} {pc : Nat} {ls : List (Option sh_V)} {st : List sh_V} {I : sh_Mem} {Q : Option Int → sh_St → Prop} {o N : Nat} {i : Int} (v : Int) (hd : decode y.2.1 pc = .ok (.baload, 1)) (hk : sh_is (sh_S I).1 o 9 N) (hN : N < 2147483648) (hi : 0 ≤ i ∧ i < (N : Int)) (hv : I o i = v) (h : kk y (pc + 1) ls (.inl v :: st) I Q) : kk y pc ls (.inl i :: .inr o :: st) I Q := sh_bald hd hk hN hi (by rw [hv]; exact h)
theorem k_cald {y : sh_M} {pc : Nat} {ls : List (Option sh_V)} {st : List sh_V} {I : sh_Mem} {Q : Option Int → sh_St → Prop} {o N : Nat} {i : Int} (v : Int) (hd : decode y.2.1 pc = .ok (.caload, 1)) (hk : sh_is (sh_S I).1 o 10 N) (hN : N < 2147483648) (hi : 0 ≤ i ∧ i < (N : Int)) (hv : I o i = v) (h : kk y (pc + 1) ls (.inl v :: st) I Q) : kk y pc ls (.inl i :: .inr o :: st) I Q := sh_cald hd hk hN hi (by rw [hv]; exact h)
theorem k_V0i {y y2 : sh_M} {pc : Nat} {ls : List (Option sh_V)} {st : List sh_V} {I : sh_Mem} {Q : Option Int → sh_St → Prop} {idx : Nat} {Q1 : Int → sh_Mem → Prop} {o ci N : Nat} (hk : sh_is (sh_S I).1 o ci N) (hd : decode y.2.1 pc = .ok (.invokevirtual idx, 3)) (hl : sh_LV y.1.cls idx y2 0 ci N) (hz : sh_fit0 y y2 st.length = true) (hC : cc y2 [.inr o] I (qi Q1)) (h : ∀ v I', Q1 v I' → kk y (pc + 3) ls (.inl v :: st) I' Q) : kk y pc ls (.inr o :: st) I Q :=
  sh_callV (as := []) hk hd hl hC rfl (sh_fit0_ok hz).1 (Or.inl (sh_fit0_ok hz).2.1) (fun r σ hq => by
    obtain ⟨I', v, rfl, rfl, hq⟩ := hq
    rw [sh_cn0 (sh_fit0_ok hz).2]
    exact h v I' hq)
theorem k_V0v {y y2 : sh_M} {pc : Nat} {ls : List (Option sh_V)} {st : List sh_V} {I : sh_Mem} {Q : Option Int → sh_St → Prop} {idx : Nat} {Q1 : sh_Mem → Prop} {o ci N : Nat} (hk : sh_is (sh_S I).1 o ci N) (hd : decode y.2.1 pc = .ok (.invokevirtual idx, 3)) (hl : sh_LV y.1.cls idx y2 0 ci N) (hz : sh_fit0 y y2 st.length = true) (hC : cc y2 [.inr o] I (qv Q1)) (h : ∀ I', Q1 I' → kk y (pc + 3) ls st I' Q) : kk y pc ls (.inr o :: st) I Q :=
  sh_callV (as := []) hk hd hl hC rfl (sh_fit0_ok hz).1 (Or.inl (sh_fit0_ok hz).2.1) (fun r σ hq => by
    obtain ⟨I', rfl, rfl, hq⟩ := hq
    rw [sh_cn0 (sh_fit0_ok hz).2]
    exact h I' hq)
theorem k_V1i {y y2 : sh_M} {pc : Nat} {ls : List (Option sh_V)} {st : List sh_V} {I : sh_Mem} {Q : Option Int → sh_St → Prop} {idx : Nat} {a0 : sh_V} {Q1 : Int → sh_Mem → Prop} {o ci N : Nat} (hk : sh_is (sh_S I).1 o ci N) (hd : decode y.2.1 pc = .ok (.invokevirtual idx, 3)) (hl : sh_LV y.1.cls idx y2 1 ci N) (hz : sh_fit0 y y2 st.length = true) (hC : cc y2 [.inr o, a0] I (qi Q1)) (h : ∀ v I', Q1 v I' → kk y (pc + 3) ls (.inl v :: st) I' Q) : kk y pc ls (a0 :: .inr o :: st) I Q :=
  sh_callV (as := [a0]) hk hd hl hC rfl (sh_fit0_ok hz).1 (Or.inl (sh_fit0_ok hz).2.1) (fun r σ hq => by
    obtain ⟨I', v, rfl, rfl, hq⟩ := hq
    rw [sh_cn0 (sh_fit0_ok hz).2]
    exact h v I' hq)
theorem k_V1v {y y2 : sh_M} {pc : Nat} {ls : List (Option sh_V)} {st : List sh_V} {I : sh_Mem} {Q : Option Int → sh_St → Prop} {idx : Nat} {a0 : sh_V} {Q1 : sh_Mem → Prop} {o ci N : Nat} (hk : sh_is (sh_S I).1 o ci N) (hd : decode y.2.1 pc = .ok (.invokevirtual idx, 3)) (hl : sh_LV y.1.cls idx y2 1 ci N) (hz : sh_fit0 y y2 st.length = true) (hC : cc y2 [.inr o, a0] I (qv Q1)) (h : ∀ I', Q1 I' → kk y (pc + 3) ls st I' Q) : kk y pc ls (a0 :: .inr o :: st) I Q :=
  sh_callV (as := [a0]) hk hd hl hC rfl (sh_fit0_ok hz).1 (Or.inl (sh_fit0_ok hz).2.1) (fun r σ hq => by
    obtain ⟨I', rfl, rfl, hq⟩ := hq
    rw [sh_cn0 (sh_fit0_ok hz).2]
    exact h I' hq)
theorem k_V2i {y y2 : sh_M} {pc : Nat} {ls : List (Option sh_V)} {st : List sh_V} {I : sh_Mem} {Q : Option Int → sh_St → Prop} {idx : Nat} {a0 a1 : sh_V} {Q1 : Int → sh_Mem → Prop} {o ci N : Nat} (hk : sh_is (sh_S I).1 o ci N) (hd : decode y.2.1 pc = .ok (.invokevirtual idx, 3)) (hl : sh_LV y.1.cls idx y2 2 ci N) (hz : sh_fit0 y y2 st.length = true) (hC : cc y2 [.inr o, a0, a1] I (qi Q1)) (h : ∀ v I', Q1 v I' → kk y (pc + 3) ls (.inl v :: st) I' Q) : kk y pc ls (a1 :: a0 :: .inr o :: st) I Q :=
  sh_callV (as := [a0, a1]) hk hd hl hC rfl (sh_fit0_ok hz).1 (Or.inl (sh_fit0_ok hz).2.1) (fun r σ hq => by
    obtain ⟨I', v, rfl, rfl, hq⟩ := hq
    rw [sh_cn0 (sh_fit0_ok hz).2]
    exact h v I' hq)
theorem k_V2v {y y2 : sh_M} {pc : Nat} {ls : List (Option sh_V)} {st : List sh_V} {I : sh_Mem} {Q : Option Int → sh_St → Prop} {idx : Nat} {a0 a1 : sh_V} {Q1 : sh_Mem → Prop} {o ci N : Nat} (hk : sh_is (sh_S I).1 o ci N) (hd : decode y.2.1 pc = .ok (.invokevirtual idx, 3)) (hl : sh_LV y.1.cls idx y2 2 ci N) (hz : sh_fit0 y y2 st.length = true) (hC : cc y2 [.inr o, a0, a1] I (qv Q1)) (h : ∀ I', Q1 I' → kk y (pc + 3) ls st I' Q) : kk y pc ls (a1 :: a0 :: .inr o :: st) I Q :=
  sh_callV (as := [a0, a1]) hk hd hl hC rfl (sh_fit0_ok hz).1 (Or.inl (sh_fit0_ok hz).2.1) (fun r σ hq => by
    obtain ⟨I', rfl, rfl, hq⟩ := hq
    rw [sh_cn0 (sh_fit0_ok hz).2]
    exact h I' hq)
theorem k_V3i {y y2 : sh_M} {pc : Nat} {ls : List (Option sh_V)} {st : List sh_V} {I : sh_Mem} {Q : Option Int → sh_St → Prop} {idx : Nat} {a0 a1 a2 : sh_V} {Q1 : Int → sh_Mem → Prop} {o ci N : Nat} (hk : sh_is (sh_S I).1 o ci N) (hd : decode y.2.1 pc = .ok (.invokevirtual idx, 3)) (hl : sh_LV y.1.cls idx y2 3 ci N) (hz : sh_fit0 y y2 st.length = true) (hC : cc y2 [.inr o, a0, a1, a2] I (qi Q1)) (h : ∀ v I', Q1 v I' → kk y (pc + 3) ls (.inl v :: st) I' Q) : kk y pc ls (a2 :: a1 :: a0 :: .inr o :: st) I Q :=
  sh_callV (as := [a0, a1, a2]) hk hd hl hC rfl (sh_fit0_ok hz).1 (Or.inl (sh_fit0_ok hz).2.1) (fun r σ hq => by
    obtain ⟨I', v, rfl, rfl, hq⟩ := hq
    rw [sh_cn0 (sh_fit0_ok hz).2]
    exact h v I' hq)
theorem k_V3v {y y2 : sh_M} {pc : Nat} {ls : List (Option sh_V)} {st : List sh_V} {I : sh_Mem} {Q : Option Int → sh_St → Prop} {idx : Nat} {a0 a1 a2 : sh_V} {Q1 : sh_Mem → Prop} {o ci N : Nat} (hk : sh_is (sh_S I).1 o ci N) (hd : decode y.2.1 pc = .ok (.invokevirtual idx, 3)) (hl : sh_LV y.1.cls idx y2 3 ci N) (hz : sh_fit0 y y2 st.length = true) (hC : cc y2 [.inr o, a0, a1, a2] I (qv Q1)) (h : ∀ I', Q1 I' → kk y (pc + 3) ls st I' Q) : kk y pc ls (a2 :: a1 :: a0 :: .inr o :: st) I Q :=
  sh_callV (as := [a0, a1, a2]) hk hd hl hC rfl (sh_fit0_ok hz).1 (Or.inl (sh_fit0_ok hz).2.1) (fun r σ hq => by
    obtain ⟨I', rfl, rfl, hq⟩ := hq
    rw [sh_cn0 (sh_fit0_ok hz).2]
    exact h I' hq)
theorem k_V4i {y y2 : sh_M} {pc : Nat} {ls : List (Option sh_V)} {st : List sh_V} {I : sh_Mem} {Q : Option Int → sh_St → Prop} {idx : Nat} {a0 a1 a2 a3 : sh_V} {Q1 : Int → sh_Mem → Prop} {o ci N : Nat} (hk : sh_is (sh_S I).1 o ci N) (hd : decode y.2.1 pc = .ok (.invokevirtual idx, 3)) (hl : sh_LV y.1.cls idx y2 4 ci N) (hz : sh_fit0 y y2 st.length = true) (hC : cc y2 [.inr o, a0, a1, a2, a3] I (qi Q1)) (h : ∀ v I', Q1 v I' → kk y (pc + 3) ls (.inl v :: st) I' Q) : kk y pc ls (a3 :: a2 :: a1 :: a0 :: .inr o :: st) I Q :=
  sh_callV (as := [a0, a1, a2, a3]) hk hd hl hC rfl (sh_fit0_ok hz).1 (Or.inl (sh_fit0_ok hz).2.1) (fun r σ hq => by
    obtain ⟨I', v, rfl, rfl, hq⟩ := hq
    rw [sh_cn0 (sh_fit0_ok hz).2]
    exact h v I' hq)
theorem k_V4v {y y2 : sh_M} {pc : Nat} {ls : List (Option sh_V)} {st : List sh_V} {I : sh_Mem} {Q : Option Int → sh_St → Prop} {idx : Nat} {a0 a1 a2 a3 : sh_V} {Q1 : sh_Mem → Prop} {o ci N : Nat} (hk : sh_is (sh_S I).1 o ci N) (hd : decode y.2.1 pc = .ok (.invokevirtual idx, 3)) (hl : sh_LV y.1.cls idx y2 4 ci N) (hz : sh_fit0 y y2 st.length = true) (hC : cc y2 [.inr o, a0, a1, a2, a3] I (qv Q1)) (h : ∀ I', Q1 I' → kk y (pc + 3) ls st I' Q) : kk y pc ls (a3 :: a2 :: a1 :: a0 :: .inr o :: st) I Q :=
  sh_callV (as := [a0, a1, a2, a3]) hk hd hl hC rfl (sh_fit0_ok hz).1 (Or.inl (sh_fit0_ok hz).2.1) (fun r σ hq => by
    obtain ⟨I', rfl, rfl, hq⟩ := hq
    rw [sh_cn0 (sh_fit0_ok hz).2]
    exact h I' hq)
theorem k_V5i {y y2 : sh_M} {pc : Nat} {ls : List (Option sh_V)} {st : List sh_V} {I : sh_Mem} {Q : Option Int → sh_St → Prop} {idx : Nat} {a0 a1 a2 a3 a4 : sh_V} {Q1 : Int → sh_Mem → Prop} {o ci N : Nat} (hk : sh_is (sh_S I).1 o ci N) (hd : decode y.2.1 pc = .ok (.invokevirtual idx, 3)) (hl : sh_LV y.1.cls idx y2 5 ci N) (hz : sh_fit0 y y2 st.length = true) (hC : cc y2 [.inr o, a0, a1, a2, a3, a4] I (qi Q1)) (h : ∀ v I', Q1 v I' → kk y (pc + 3) ls (.inl v :: st) I' Q) : kk y pc ls (a4 :: a3 :: a2 :: a1 :: a0 :: .inr o :: st) I Q :=
  sh_callV (as := [a0, a1, a2, a3, a4]) hk hd hl hC rfl (sh_fit0_ok hz).1 (Or.inl (sh_fit0_ok hz).2.1) (fun r σ hq => by
    obtain ⟨I', v, rfl, rfl, hq⟩ := hq
    rw [sh_cn0 (sh_fit0_ok hz).2]
    exact h v I' hq)
theorem k_V5v {y y2 : sh_M} {pc : Nat} {ls : List (Option sh_V)} {st : List sh_V} {I : sh_Mem} {Q : Option Int → sh_St → Prop} {idx : Nat} {a0 a1 a2 a3 a4 : sh_V} {Q1 : sh_Mem → Prop} {o ci N : Nat} (hk : sh_is (sh_S I).1 o ci N) (hd : decode y.2.1 pc = .ok (.invokevirtual idx, 3)) (hl : sh_LV y.1.cls idx y2 5 ci N) (hz : sh_fit0 y y2 st.length = true) (hC : cc y2 [.inr o, a0, a1, a2, a3, a4] I (qv Q1)) (h : ∀ I', Q1 I' → kk y (pc + 3) ls st I' Q) : kk y pc ls (a4 :: a3 :: a2 :: a1 :: a0 :: .inr o :: st) I Q :=
  sh_callV (as := [a0, a1, a2, a3, a4]) hk hd hl hC rfl (sh_fit0_ok hz).1 (Or.inl (sh_fit0_ok hz).2.1) (fun r σ hq => by
    obtain ⟨I', rfl, rfl, hq⟩ := hq
    rw [sh_cn0 (sh_fit0_ok hz).2]
    exact h I' hq)
theorem k_S0i {y y2 : sh_M} {pc : Nat} {ls : List (Option sh_V)} {st : List sh_V} {I : sh_Mem} {Q : Option Int → sh_St → Prop} {idx : Nat} {Q1 : Int → sh_Mem → Prop} (hd : decode y.2.1 pc = .ok (.invokestatic idx, 3)) (hl : sh_LS y.1.cls idx y2 0) (hz : sh_fit0 y y2 st.length = true) (hC : cc y2 [] I (qi Q1)) (h : ∀ v I', Q1 v I' → kk y (pc + 3) ls (.inl v :: st) I' Q) : kk y pc ls (st) I Q :=
  sh_callS (as := []) hd hl hC rfl (sh_fit0_ok hz).1 (Or.inl (sh_fit0_ok hz).2.1) (fun r σ hq => by
    obtain ⟨I', v, rfl, rfl, hq⟩ := hq
    rw [sh_cn0 (sh_fit0_ok hz).2]
    exact h v I' hq)
theorem k_S0v {y y2 : sh_M} {pc : Nat} {ls : List (Option sh_V)} {st : List sh_V} {I : sh_Mem} {Q : Option Int → sh_St → Prop} {idx : Nat} {Q1 : sh_Mem → Prop} (hd : decode y.2.1 pc = .ok (.invokestatic idx, 3)) (hl : sh_LS y.1.cls idx y2 0) (hz : sh_fit0 y y2 st.length = true) (hC : cc y2 [] I (qv Q1)) (h : ∀ I', Q1 I' → kk y (pc + 3) ls st I' Q) : kk y pc ls (st) I Q :=
  sh_callS (as := []) hd hl hC rfl (sh_fit0_ok hz).1 (Or.inl (sh_fit0_ok hz).2.1) (fun r σ hq => by
    obtain ⟨I', rfl, rfl, hq⟩ := hq
    rw [sh_cn0 (sh_fit0_ok hz).2]
    exact h I' hq)
theorem k_S1i {y y2 : sh_M} {pc : Nat} {ls : List (Option sh_V)} {st : List sh_V} {I : sh_Mem} {Q : Option Int → sh_St → Prop} {idx : Nat} {a0 : sh_V} {Q1 : Int → sh_Mem → Prop} (hd : decode y.2.1 pc = .ok (.invokestatic idx, 3)) (hl : sh_LS y.1.cls idx y2 1) (hz : sh_fit0 y y2 st.length = true) (hC : cc y2 [a0] I (qi Q1)) (h : ∀ v I', Q1 v I' → kk y (pc + 3) ls (.inl v :: st) I' Q) : kk y pc ls (a0 :: st) I Q :=
  sh_callS (as := [a0]) hd hl hC rfl (sh_fit0_ok hz).1 (Or.inl (sh_fit0_ok hz).2.1) (fun r σ hq => by
    obtain ⟨I', v, rfl, rfl, hq⟩ := hq
    rw [sh_cn0 (sh_fit0_ok hz).2]
    exact h v I' hq)
theorem k_S1v {y y2 : sh_M} {pc : Nat} {ls : List (Option sh_V)} {st : List sh_V} {I : sh_Mem} {Q : Option Int → sh_St → Prop} {idx : Nat} {a0 : sh_V} {Q1 : sh_Mem → Prop} (hd : decode y.2.1 pc = .ok (.invokestatic idx, 3)) (hl : sh_LS y.1.cls idx y2 1) (hz : sh_fit0 y y2 st.length = true) (hC : cc y2 [a0] I (qv Q1)) (h : ∀ I', Q1 I' → kk y (pc + 3) ls st I' Q) : kk y pc ls (a0 :: st) I Q :=
  sh_callS (as := [a0]) hd hl hC rfl (sh_fit0_ok hz).1 (Or.inl (sh_fit0_ok hz).2.1) (fun r σ hq => by
    obtain ⟨I', rfl, rfl, hq⟩ := hq
    rw [sh_cn0 (sh_fit0_ok hz).2]
    exact h I' hq)
theorem k_S2i {y y2 : sh_M} {pc : Nat} {ls : List (Option sh_V)} {st : List sh_V} {I : sh_Mem} {Q : Option Int → sh_St → Prop} {idx : Nat} {a0 a1 : sh_V} {Q1 : Int → sh_Mem → Prop} (hd : decode y.2.1 pc = .ok (.invokestatic idx, 3)) (hl : sh_LS y.1.cls idx y2 2) (hz : sh_fit0 y y2 st.length = true) (hC : cc y2 [a0, a1] I (qi Q1)) (h : ∀ v I', Q1 v I' → kk y (pc + 3) ls (.inl v :: st) I' Q) : kk y pc ls (a1 :: a0 :: st) I Q :=
  sh_callS (as := [a0, a1]) hd hl hC rfl (sh_fit0_ok hz).1 (Or.inl (sh_fit0_ok hz).2.1) (fun r σ hq => by
    obtain ⟨I', v, rfl, rfl, hq⟩ := hq
    rw [sh_cn0 (sh_fit0_ok hz).2]
    exact h v I' hq)
theorem k_S2v {y y2 : sh_M} {pc : Nat} {ls : List (Option sh_V)} {st : List sh_V} {I : sh_Mem} {Q : Option Int → sh_St → Prop} {idx : Nat} {a0 a1 : sh_V} {Q1 : sh_Mem → Prop} (hd : decode y.2.1 pc = .ok (.invokestatic idx, 3)) (hl : sh_LS y.1.cls idx y2 2) (hz : sh_fit0 y y2 st.length = true) (hC : cc y2 [a0, a1] I (qv Q1)) (h : ∀ I', Q1 I' → kk y (pc + 3) ls st I' Q) : kk y pc ls (a1 :: a0 :: st) I Q :=
  sh_callS (as := [a0, a1]) hd hl hC rfl (sh_fit0_ok hz).1 (Or.inl (sh_fit0_ok hz).2.1) (fun r σ hq => by
    obtain ⟨I', rfl, rfl, hq⟩ := hq
    rw [sh_cn0 (sh_fit0_ok hz).2]
    exact h I' hq)
theorem k_S3i {y y2 : sh_M} {pc : Nat} {ls : List (Option sh_V)} {st : List sh_V} {I : sh_Mem} {Q : Option Int → sh_St → Prop} {idx : Nat} {a0 a1 a2 : sh_V} {Q1 : Int → sh_Mem → Prop} (hd : decode y.2.1 pc = .ok (.invokestatic idx, 3)) (hl : sh_LS y.1.cls idx y2 3) (hz : sh_fit0 y y2 st.length = true) (hC : cc y2 [a0, a1, a2] I (qi Q1)) (h : ∀ v I', Q1 v I' → kk y (pc + 3) ls (.inl v :: st) I' Q) : kk y pc ls (a2 :: a1 :: a0 :: st) I Q :=
  sh_callS (as := [a0, a1, a2]) hd hl hC rfl (sh_fit0_ok hz).1 (Or.inl (sh_fit0_ok hz).2.1) (fun r σ hq => by
    obtain ⟨I', v, rfl, rfl, hq⟩ := hq
    rw [sh_cn0 (sh_fit0_ok hz).2]
    exact h v I' hq)
theorem k_S3v {y y2 : sh_M} {pc : Nat} {ls : List (Option sh_V)} {st : List sh_V} {I : sh_Mem} {Q : Option Int → sh_St → Prop} {idx : Nat} {a0 a1 a2 : sh_V} {Q1 : sh_Mem → Prop} (hd : decode y.2.1 pc = .ok (.invokestatic idx, 3)) (hl : sh_LS y.1.cls idx y2 3) (hz : sh_fit0 y y2 st.length = true) (hC : cc y2 [a0, a1, a2] I (qv Q1)) (h : ∀ I', Q1 I' → kk y (pc + 3) ls st I' Q) : kk y pc ls (a2 :: a1 :: a0 :: st) I Q :=
  sh_callS (as := [a0, a1, a2]) hd hl hC rfl (sh_fit0_ok hz).1 (Or.inl (sh_fit0_ok hz).2.1) (fun r σ hq => by
    obtain ⟨I', rfl, rfl, hq⟩ := hq
    rw [sh_cn0 (sh_fit0_ok hz).2]
    exact h I' hq)
theorem k_S4i {y y2 : sh_M} {pc : Nat} {ls : List (Option sh_V)} {st : List sh_V} {I : sh_Mem} {Q : Option Int → sh_St → Prop} {idx : Nat} {a0 a1 a2 a3 : sh_V} {Q1 : Int → sh_Mem → Prop} (hd : decode y.2.1 pc = .ok (.invokestatic idx, 3)) (hl : sh_LS y.1.cls idx y2 4) (hz : sh_fit0 y y2 st.length = true) (hC : cc y2 [a0, a1, a2, a3] I (qi Q1)) (h : ∀ v I', Q1 v I' → kk y (pc + 3) ls (.inl v :: st) I' Q) : kk y pc ls (a3 :: a2 :: a1 :: a0 :: st) I Q :=
  sh_callS (as := [a0, a1, a2, a3]) hd hl hC rfl (sh_fit0_ok hz).1 (Or.inl (sh_fit0_ok hz).2.1) (fun r σ hq => by
    obtain ⟨I', v, rfl, rfl, hq⟩ := hq
    rw [sh_cn0 (sh_fit0_ok hz).2]
    exact h v I' hq)
theorem k_S4v {y y2 : sh_M} {pc : Nat} {ls : List (Option sh_V)} {st : List sh_V} {I : sh_Mem} {Q : Option Int → sh_St → Prop} {idx : Nat} {a0 a1 a2 a3 : sh_V} {Q1 : sh_Mem → Prop} (hd : decode y.2.1 pc = .ok (.invokestatic idx, 3)) (hl : sh_LS y.1.cls idx y2 4) (hz : sh_fit0 y y2 st.length = true) (hC : cc y2 [a0, a1, a2, a3] I (qv Q1)) (h : ∀ I', Q1 I' → kk y (pc + 3) ls st I' Q) : kk y pc ls (a3 :: a2 :: a1 :: a0 :: st) I Q :=
  sh_callS (as := [a0, a1, a2, a3]) hd hl hC rfl (sh_fit0_ok hz).1 (Or.inl (sh_fit0_ok hz).2.1) (fun r σ hq => by
    obtain ⟨I', rfl, rfl, hq⟩ := hq
    rw [sh_cn0 (sh_fit0_ok hz).2]
    exact h I' hq)
theorem k_S5i {y y2 : sh_M} {pc : Nat} {ls : List (Option sh_V)} {st : List sh_V} {I : sh_Mem} {Q : Option Int → sh_St → Prop} {idx : Nat} {a0 a1 a2 a3 a4 : sh_V} {Q1 : Int → sh_Mem → Prop} (hd : decode y.2.1 pc = .ok (.invokestatic idx, 3)) (hl : sh_LS y.1.cls idx y2 5) (hz : sh_fit0 y y2 st.length = true) (hC : cc y2 [a0, a1, a2, a3, a4] I (qi Q1)) (h : ∀ v I', Q1 v I' → kk y (pc + 3) ls (.inl v :: st) I' Q) : kk y pc ls (a4 :: a3 :: a2 :: a1 :: a0 :: st) I Q :=
  sh_callS (as := [a0, a1, a2, a3, a4]) hd hl hC rfl (sh_fit0_ok hz).1 (Or.inl (sh_fit0_ok hz).2.1) (fun r σ hq => by
    obtain ⟨I', v, rfl, rfl, hq⟩ := hq
    rw [sh_cn0 (sh_fit0_ok hz).2]
    exact h v I' hq)
theorem k_S5v {y y2 : sh_M} {pc : Nat} {ls : List (Option sh_V)} {st : List sh_V} {I : sh_Mem} {Q : Option Int → sh_St → Prop} {idx : Nat} {a0 a1 a2 a3 a4 : sh_V} {Q1 : sh_Mem → Prop} (hd : decode y.2.1 pc = .ok (.invokestatic idx, 3)) (hl : sh_LS y.1.cls idx y2 5) (hz : sh_fit0 y y2 st.length = true) (hC : cc y2 [a0, a1, a2, a3, a4] I (qv Q1)) (h : ∀ I', Q1 I' → kk y (pc + 3) ls st I' Q) : kk y pc ls (a4 :: a3 :: a2 :: a1 :: a0 :: st) I Q :=
  sh_callS (as := [a0, a1, a2, a3, a4]) hd hl hC rfl (sh_fit0_ok hz).1 (Or.inl (sh_fit0_ok hz).2.1) (fun r σ hq => by
    obtain ⟨I', rfl, rfl, hq⟩ := hq
    rw [sh_cn0 (sh_fit0_ok hz).2]
    exact h I' hq)
theorem k_N0i {y y2 : sh_M} {pc : Nat} {ls : List (Option sh_V)} {st : List sh_V} {I : sh_Mem} {Q : Option Int → sh_St → Prop} {idx : Nat} {Q1 : Int → sh_Mem → Prop} (hd : decode y.2.1 pc = .ok (.invokestatic idx, 3)) (hl : sh_LSN y.1.cls idx y2 0) (hz : sh_fit0 y y2 st.length = true) (hC : cc y2 [] I (qi Q1)) (h : ∀ v I', Q1 v I' → kk y (pc + 3) ls (.inl v :: st) I' Q) : kk y pc ls (st) I Q :=
  sh_callSN (as := []) hd hl hC rfl (sh_fit0_ok hz).1 (Or.inl (sh_fit0_ok hz).2.1) (fun r σ hq => by
    obtain ⟨I', v, rfl, rfl, hq⟩ := hq
    rw [sh_cn0 (sh_fit0_ok hz).2]
    exact h v I' hq)
theorem k_N0v {y y2 : sh_M} {pc : Nat} {ls : List (Option sh_V)} {st : List sh_V} {I : sh_Mem} {Q : Option Int → sh_St → Prop} {idx : Nat} {Q1 : sh_Mem → Prop} (hd : decode y.2.1 pc = .ok (.invokestatic idx, 3)) (hl : sh_LSN y.1.cls idx y2 0) (hz : sh_fit0 y y2 st.length = true) (hC : cc y2 [] I (qv Q1)) (h : ∀ I', Q1 I' → kk y (pc + 3) ls st I' Q) : kk y pc ls (st) I Q :=
  sh_callSN (as := []) hd hl hC rfl (sh_fit0_ok hz).1 (Or.inl (sh_fit0_ok hz).2.1) (fun r σ hq => by
    obtain ⟨I', rfl, rfl, hq⟩ := hq
    rw [sh_cn0 (sh_fit0_ok hz).2]
    exact h I' hq)
theorem k_N1i {y y2 : sh_M} {pc : Nat} {ls : List (Option sh_V)} {st : List sh_V} {I : sh_Mem} {Q : Option Int → sh_St → Prop} {idx : Nat} {a0 : sh_V} {Q1 : Int → sh_Mem → Prop} (hd : decode y.2.1 pc = .ok (.invokestatic idx, 3)) (hl : sh_LSN y.1.cls idx y2 1) (hz : sh_fit0 y y2 st.length = true) (hC : cc y2 [a0] I (qi Q1)) (h : ∀ v I', Q1 v I' → kk y (pc + 3) ls (.inl v :: st) I' Q) : kk y pc ls (a0 :: st) I Q :=
  sh_callSN (as := [a0]) hd hl hC rfl (sh_fit0_ok hz).1 (Or.inl (sh_fit0_ok hz).2.1) (fun r σ hq => by
    obtain ⟨I', v, rfl, rfl, hq⟩ := hq
    rw [sh_cn0 (sh_fit0_ok hz).2]
    exact h v I' hq)
theorem k_N1v {y y2 : sh_M} {pc : Nat} {ls : List (Option sh_V)} {st : List sh_V} {I : sh_Mem} {Q : Option Int → sh_St → Prop} {idx : Nat} {a0 : sh_V} {Q1 : sh_Mem → Prop} (hd : decode y.2.1 pc = .ok (.invokestatic idx, 3)) (hl : sh_LSN y.1.cls idx y2 1) (hz : sh_fit0 y y2 st.length = true) (hC : cc y2 [a0] I (qv Q1)) (h : ∀ I', Q1 I' → kk y (pc + 3) ls st I' Q) : kk y pc ls (a0 :: st) I Q :=
  sh_callSN (as := [a0]) hd hl hC rfl (sh_fit0_ok hz).1 (Or.inl (sh_fit0_ok hz).2.1) (fun r σ hq => by
    obtain ⟨I', rfl, rfl, hq⟩ := hq
    rw [sh_cn0 (sh_fit0_ok hz).2]
    exact h I' hq)
theorem k_N2i {y y2 : sh_M} {pc : Nat} {ls : List (Option sh_V)} {st : List sh_V} {I : sh_Mem} {Q : Option Int → sh_St → Prop} {idx : Nat} {a0 a1 : sh_V} {Q1 : Int → sh_Mem → Prop} (hd : decode y.2.1 pc = .ok (.invokestatic idx, 3)) (hl : sh_LSN y.1.cls idx y2 2) (hz : sh_fit0 y y2 st.length = true) (hC : cc y2 [a0, a1] I (qi Q1)) (h : ∀ v I', Q1 v I' → kk y (pc + 3) ls (.inl v :: st) I' Q) : kk y pc ls (a1 :: a0 :: st) I Q :=
  sh_callSN (as := [a0, a1]) hd hl hC rfl (sh_fit0_ok hz).1 (Or.inl (sh_fit0_ok hz).2.1) (fun r σ hq => by
    obtain ⟨I', v, rfl, rfl, hq⟩ := hq
    rw [sh_cn0 (sh_fit0_ok hz).2]
    exact h v I' hq)
theorem k_N2v {y y2 : sh_M} {pc : Nat} {ls : List (Option sh_V)} {st : List sh_V} {I : sh_Mem} {Q : Option Int → sh_St → Prop} {idx : Nat} {a0 a1 : sh_V} {Q1 : sh_Mem → Prop} (hd : decode y.2.1 pc = .ok (.invokestatic idx, 3)) (hl : sh_LSN y.1.cls idx y2 2) (hz : sh_fit0 y y2 st.length = true) (hC : cc y2 [a0, a1] I (qv Q1)) (h : ∀ I', Q1 I' → kk y (pc + 3) ls st I' Q) : kk y pc ls (a1 :: a0 :: st) I Q :=
  sh_callSN (as := [a0, a1]) hd hl hC rfl (sh_fit0_ok hz).1 (Or.inl (sh_fit0_ok hz).2.1) (fun r σ hq => by
    obtain ⟨I', rfl, rfl, hq⟩ := hq
    rw [sh_cn0 (sh_fit0_ok hz).2]
    exact h I' hq)
theorem k_N3i {y y2 : sh_M} {pc : Nat} {ls : List (Option sh_V)} {st : List sh_V} {I : sh_Mem} {Q : Option Int → sh_St → Prop} {idx : Nat} {a0 a1 a2 : sh_V} {Q1 : Int → sh_Mem → Prop} (hd : decode y.2.1 pc = .ok (.invokestatic idx, 3)) (hl : sh_LSN y.1.cls idx y2 3) (hz : sh_fit0 y y2 st.length = true) (hC : cc y2 [a0, a1, a2] I (qi Q1)) (h : ∀ v I', Q1 v I' → kk y (pc + 3) ls (.inl v :: st) I' Q) : kk y pc ls (a2 :: a1 :: a0 :: st) I Q :=
  sh_callSN (as := [a0, a1, a2]) hd hl hC rfl (sh_fit0_ok hz).1 (Or.inl (sh_fit0_ok hz).2.1) (fun r σ hq => by
    obtain ⟨I', v, rfl, rfl, hq⟩ := hq
    rw [sh_cn0 (sh_fit0_ok hz).2]
    exact h v I' hq)
theorem k_N3v {y y2 : sh_M} {pc : Nat} {ls : List (Option sh_V)} {st : List sh_V} {I : sh_Mem} {Q : Option Int → sh_St → Prop} {idx : Nat} {a0 a1 a2 : sh_V} {Q1 : sh_Mem → Prop} (hd : decode y.2.1 pc = .ok (.invokestatic idx, 3)) (hl : sh_LSN y.1.cls idx y2 3) (hz : sh_fit0 y y2 st.length = true) (hC : cc y2 [a0, a1, a2] I (qv Q1)) (h : ∀ I', Q1 I' → kk y (pc + 3) ls st I' Q) : kk y pc ls (a2 :: a1 :: a0 :: st) I Q :=
  sh_callSN (as := [a0, a1, a2]) hd hl hC rfl (sh_fit0_ok hz).1 (Or.inl (sh_fit0_ok hz).2.1) (fun r σ hq => by
    obtain ⟨I', rfl, rfl, hq⟩ := hq
    rw [sh_cn0 (sh_fit0_ok hz).2]
    exact h I' hq)
theorem k_N4i {y y2 : sh_M} {pc : Nat} {ls : List (Option sh_V)} {st : List sh_V} {I : sh_Mem} {Q : Option Int → sh_St → Prop} {idx : Nat} {a0 a1 a2 a3 : sh_V} {Q1 : Int → sh_Mem → Prop} (hd : decode y.2.1 pc = .ok (.invokestatic idx, 3)) (hl : sh_LSN y.1.cls idx y2 4) (hz : sh_fit0 y y2 st.length = true) (hC : cc y2 [a0, a1, a2, a3] I (qi Q1)) (h : ∀ v I', Q1 v I' → kk y (pc + 3) ls (.inl v :: st) I' Q) : kk y pc ls (a3 :: a2 :: a1 :: a0 :: st) I Q :=
  sh_callSN (as := [a0, a1, a2, a3]) hd hl hC rfl (sh_fit0_ok hz).1 (Or.inl (sh_fit0_ok hz).2.1) (fun r σ hq => by
    obtain ⟨I', v, rfl, rfl, hq⟩ := hq
    rw [sh_cn0 (sh_fit0_ok hz).2]
    exact h v I' hq)
theorem k_N4v {y y2 : sh_M} {pc : Nat} {ls : List (Option sh_V)} {st : List sh_V} {I : sh_Mem} {Q : Option Int → sh_St → Prop} {idx : Nat} {a0 a1 a2 a3 : sh_V} {Q1 : sh_Mem → Prop} (hd : decode y.2.1 pc = .ok (.invokestatic idx, 3)) (hl : sh_LSN y.1.cls idx y2 4) (hz : sh_fit0 y y2 st.length = true) (hC : cc y2 [a0, a1, a2, a3] I (qv Q1)) (h : ∀ I', Q1 I' → kk y (pc + 3) ls st I' Q) : kk y pc ls (a3 :: a2 :: a1 :: a0 :: st) I Q :=
  sh_callSN (as := [a0, a1, a2, a3]) hd hl hC rfl (sh_fit0_ok hz).1 (Or.inl (sh_fit0_ok hz).2.1) (fun r σ hq => by
    obtain ⟨I', rfl, rfl, hq⟩ := hq
    rw [sh_cn0 (sh_fit0_ok hz).2]
    exact h I' hq)
theorem k_N5i {y y2 : sh_M} {pc : Nat} {ls : List (Option sh_V)} {st : List sh_V} {I : sh_Mem} {Q : Option Int → sh_St → Prop} {idx : Nat} {a0 a1 a2 a3 a4 : sh_V} {Q1 : Int → sh_Mem → Prop} (hd : decode y.2.1 pc = .ok (.invokestatic idx, 3)) (hl : sh_LSN y.1.cls idx y2 5) (hz : sh_fit0 y y2 st.length = true) (hC : cc y2 [a0, a1, a2, a3, a4] I (qi Q1)) (h : ∀ v I', Q1 v I' → kk y (pc + 3) ls (.inl v :: st) I' Q) : kk y pc ls (a4 :: a3 :: a2 :: a1 :: a0 :: st) I Q :=
  sh_callSN (as := [a0, a1, a2, a3, a4]) hd hl hC rfl (sh_fit0_ok hz).1 (Or.inl (sh_fit0_ok hz).2.1) (fun r σ hq => by
    obtain ⟨I', v, rfl, rfl, hq⟩ := hq
    rw [sh_cn0 (sh_fit0_ok hz).2]
    exact h v I' hq)
theorem k_N5v {y y2 : sh_M} {pc : Nat} {ls : List (Option sh_V)} {st : List sh_V} {I : sh_Mem} {Q : Option Int → sh_St → Prop} {idx : Nat} {a0 a1 a2 a3 a4 : sh_V} {Q1 : sh_Mem → Prop} (hd : decode y.2.1 pc = .ok (.invokestatic idx, 3)) (hl : sh_LSN y.1.cls idx y2 5) (hz : sh_fit0 y y2 st.length = true) (hC : cc y2 [a0, a1, a2, a3, a4] I (qv Q1)) (h : ∀ I', Q1 I' → kk y (pc + 3) ls st I' Q) : kk y pc ls (a4 :: a3 :: a2 :: a1 :: a0 :: st) I Q :=
  sh_callSN (as := [a0, a1, a2, a3, a4]) hd hl hC rfl (sh_fit0_ok hz).1 (Or.inl (sh_fit0_ok hz).2.1) (fun r σ hq => by
    obtain ⟨I', rfl, rfl, hq⟩ := hq
    rw [sh_cn0 (sh_fit0_ok hz).2]
    exact h I' hq)
