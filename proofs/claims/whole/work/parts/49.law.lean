/-! ===== 49: the law's loop ===== -/
theorem sh_icmp_eqS {y : sh_M} {pc : Nat} {ls : List (Option sh_V)} {st : List sh_V} {cn : Nat × Nat} {σ : sh_St} {Q : Option Int → sh_St → Prop} {a b off : Int} {tgt : Nat} (hd : decode y.2.1 pc = .ok (.if_icmp .eq off, 3)) (ht : (pc : Int) + off = (tgt : Int)) (e : a = b) (h1 : sh_O y tgt ls st cn σ Q) : sh_O y pc ls (.inl b :: .inl a :: st) cn σ Q := by
  subst e
  intro p l e R s m args below meth c Z D A H0 ad ac H locs la hX hA hR hL hc hret
  exact lv_icmp_eq hX.1 hX.2.1 hd ht (fun _ => h1 p l e R s m args below meth c Z D A H0 ad ac H locs la hX hA hR hL hc hret) (fun q => absurd rfl q)
theorem g_zret {pc : Nat} {ls : List (Option sh_V)} {CN : Nat × Nat} {I : sh_Mem} {Q : Int → sh_Mem → Prop} {v : Int} (hd : decode mL_law.2.1 pc = .ok (.ireturn, 1)) (ht : mL_law.2.2.2.1 = some .boolean) (hv : sh_01 v) (h : Q v I) : sh_O mL_law pc ls [.inl v] CN (sh_S I) (qi Q) := sh_iret (st := []) hd ht (nar01 hv) ⟨I, v, rfl, rfl, h⟩
theorem g_fit {y2 : sh_M} {cn : Nat × Nat} {k : Nat} (hcn : cn.1 ≤ 600000 ∧ cn.2 ≤ 7302249) (h : sh_fit0 mL_law y2 k = true) : sh_fit mL_law y2 cn k := by
  obtain ⟨⟨h1, h2, -, -, h5⟩, h3, h4⟩ := sh_fit0_ok h
  exact ⟨h1, h2, by rw [h3]; exact hcn.1, by rw [h4]; exact hcn.2, h5⟩
theorem g_cn {y2 : sh_M} {cn : Nat × Nat} (h : y2.2.2.2.2.2.1 = 0 ∧ y2.2.2.2.2.2.2 = 0) : (cn.1 + y2.2.2.2.2.2.1, cn.2 + y2.2.2.2.2.2.2) = cn := by rw [h.1, h.2]; rfl
theorem g_V0i {y2 : sh_M} {pc : Nat} {ls : List (Option sh_V)} {st : List sh_V} {I : sh_Mem} {Q : Option Int → sh_St → Prop} {CN : Nat × Nat} {idx : Nat} {Q1 : Int → sh_Mem → Prop} {o ci N : Nat} (hk : sh_is (sh_S I).1 o ci N) (hd : decode mL_law.2.1 pc = .ok (.invokevirtual idx, 3)) (hl : sh_LV mL_law.1.cls idx y2 0 ci N) (hz : sh_fit0 mL_law y2 st.length = true) (hcn : CN.1 ≤ 600000 ∧ CN.2 ≤ 7302249) (hC : cc y2 [.inr o] I (qi Q1)) (h : ∀ v I', Q1 v I' → sh_O mL_law (pc + 3) ls (.inl v :: st) CN (sh_S I') Q) : sh_O mL_law pc ls (.inr o :: st) CN (sh_S I) Q :=
  sh_callV (as := []) hk hd hl hC rfl (g_fit hcn hz) (Or.inl (sh_fit0_ok hz).2.1) (fun r σ hq => by
    obtain ⟨I', v, rfl, rfl, hq⟩ := hq
    rw [g_cn (sh_fit0_ok hz).2]
    exact h v I' hq)
theorem g_V1i {y2 : sh_M} {pc : Nat} {ls : List (Option sh_V)} {st : List sh_V} {I : sh_Mem} {Q : Option Int → sh_St → Prop} {CN : Nat × Nat} {idx : Nat} {a0 : sh_V} {Q1 : Int → sh_Mem → Prop} {o ci N : Nat} (hk : sh_is (sh_S I).1 o ci N) (hd : decode mL_law.2.1 pc = .ok (.invokevirtual idx, 3)) (hl : sh_LV mL_law.1.cls idx y2 1 ci N) (hz : sh_fit0 mL_law y2 st.length = true) (hcn : CN.1 ≤ 600000 ∧ CN.2 ≤ 7302249) (hC : cc y2 [.inr o, a0] I (qi Q1)) (h : ∀ v I', Q1 v I' → sh_O mL_law (pc + 3) ls (.inl v :: st) CN (sh_S I') Q) : sh_O mL_law pc ls (a0 :: .inr o :: st) CN (sh_S I) Q :=
  sh_callV (as := [a0]) hk hd hl hC rfl (g_fit hcn hz) (Or.inl (sh_fit0_ok hz).2.1) (fun r σ hq => by
    obtain ⟨I', v, rfl, rfl, hq⟩ := hq
    rw [g_cn (sh_fit0_ok hz).2]
    exact h v I' hq)
theorem g_V2i {y2 : sh_M} {pc : Nat} {ls : List (Option sh_V)} {st : List sh_V} {I : sh_Mem} {Q : Option Int → sh_St → Prop} {CN : Nat × Nat} {idx : Nat} {a0 a1 : sh_V} {Q1 : Int → sh_Mem → Prop} {o ci N : Nat} (hk : sh_is (sh_S I).1 o ci N) (hd : decode mL_law.2.1 pc = .ok (.invokevirtual idx, 3)) (hl : sh_LV mL_law.1.cls idx y2 2 ci N) (hz : sh_fit0 mL_law y2 st.length = true) (hcn : CN.1 ≤ 600000 ∧ CN.2 ≤ 7302249) (hC : cc y2 [.inr o, a0, a1] I (qi Q1)) (h : ∀ v I', Q1 v I' → sh_O mL_law (pc + 3) ls (.inl v :: st) CN (sh_S I') Q) : sh_O mL_law pc ls (a1 :: a0 :: .inr o :: st) CN (sh_S I) Q :=
  sh_callV (as := [a0, a1]) hk hd hl hC rfl (g_fit hcn hz) (Or.inl (sh_fit0_ok hz).2.1) (fun r σ hq => by
    obtain ⟨I', v, rfl, rfl, hq⟩ := hq
    rw [g_cn (sh_fit0_ok hz).2]
    exact h v I' hq)
theorem g_V3i {y2 : sh_M} {pc : Nat} {ls : List (Option sh_V)} {st : List sh_V} {I : sh_Mem} {Q : Option Int → sh_St → Prop} {CN : Nat × Nat} {idx : Nat} {a0 a1 a2 : sh_V} {Q1 : Int → sh_Mem → Prop} {o ci N : Nat} (hk : sh_is (sh_S I).1 o ci N) (hd : decode mL_law.2.1 pc = .ok (.invokevirtual idx, 3)) (hl : sh_LV mL_law.1.cls idx y2 3 ci N) (hz : sh_fit0 mL_law y2 st.length = true) (hcn : CN.1 ≤ 600000 ∧ CN.2 ≤ 7302249) (hC : cc y2 [.inr o, a0, a1, a2] I (qi Q1)) (h : ∀ v I', Q1 v I' → sh_O mL_law (pc + 3) ls (.inl v :: st) CN (sh_S I') Q) : sh_O mL_law pc ls (a2 :: a1 :: a0 :: .inr o :: st) CN (sh_S I) Q :=
  sh_callV (as := [a0, a1, a2]) hk hd hl hC rfl (g_fit hcn hz) (Or.inl (sh_fit0_ok hz).2.1) (fun r σ hq => by
    obtain ⟨I', v, rfl, rfl, hq⟩ := hq
    rw [g_cn (sh_fit0_ok hz).2]
    exact h v I' hq)
set_option maxRecDepth 100000 in
set_option maxHeartbeats 8000000 in
theorem lL_law_18 {y3 : Int} {I : sh_Mem} {Q : Int → sh_Mem → Prop} {CN : Nat × Nat} (hcn : CN.1 ≤ 600000 ∧ CN.2 ≤ 7302249) (h : (0 ≤ I 0 0 ∧ (sh_Bd y3 ∧ (sh_Bd ((I 0 0) - 4) ∧ ((((I 0 0) - 4) < y3 → Q 1 I) ∧ (y3 ≤ ((I 0 0) - 4) → ((0 ≤ y3 ∧ y3 < I 0 0) ∧ (I 0 0 < 2147483648 ∧ (sh_Bd ((I 0 (y3 + 1)) % 32) ∧ ((((I 0 (y3 + 1)) % 32) = 0 → ((0 ≤ (y3 + 1) ∧ (y3 + 1) < I 0 0) ∧ ((0 ≤ (y3 + 2) ∧ (y3 + 2) < I 0 0) ∧ (cc mX6_come [.inr 1, .inl (I 0 ((y3 + 1) + 1)), .inl (I 0 ((y3 + 2) + 1))] I (qi fun v12 I10 => ((I10 0 0 = I 0 0 ∧ I10 0 0 < 2147483648) ∧ (cc mX7_come [.inr 119, .inl (I10 0 ((y3 + 1) + 1)), .inl (I10 0 ((y3 + 2) + 1))] I10 (qi fun v16 I14 => (v12 = v16 ∧ sh_O mL_law 18 [some (.inr 0), some (.inr 1), some (.inr 119), some (.inl (y3 + 4))] [] CN (sh_S I14) (qi Q)))))))))) ∧ ((((I 0 (y3 + 1)) % 32) = 1 → ((0 ≤ (y3 + 1) ∧ (y3 + 1) < I 0 0) ∧ ((0 ≤ (y3 + 2) ∧ (y3 + 2) < I 0 0) ∧ (cc mX6_head [.inr 1, .inl (I 0 ((y3 + 1) + 1)), .inl (I 0 ((y3 + 2) + 1))] I (qi fun v25 I23 => ((I23 0 0 = I 0 0 ∧ I23 0 0 < 2147483648) ∧ (cc mX7_head [.inr 119, .inl (I23 0 ((y3 + 1) + 1)), .inl (I23 0 ((y3 + 2) + 1))] I23 (qi fun v29 I27 => (v25 = v29 ∧ sh_O mL_law 18 [some (.inr 0), some (.inr 1), some (.inr 119), some (.inl (y3 + 4))] [] CN (sh_S I27) (qi Q)))))))))) ∧ ((((I 0 (y3 + 1)) % 32) = 2 → ((0 ≤ (y3 + 1) ∧ (y3 + 1) < I 0 0) ∧ ((0 ≤ (y3 + 2) ∧ (y3 + 2) < I 0 0) ∧ (sh_Bd (I 0 ((y3 + 2) + 1)) ∧ (((I 0 ((y3 + 2) + 1)) = 0 → (cc mX6_light [.inr 1, .inl (I 0 ((y3 + 1) + 1)), .inl 0] I (qi fun v40 I38 => ((I38 0 0 = I 0 0 ∧ I38 0 0 < 2147483648) ∧ (sh_Bd (I38 0 ((y3 + 2) + 1)) ∧ (((I38 0 ((y3 + 2) + 1)) = 0 → (cc mX7_light [.inr 119, .inl (I38 0 ((y3 + 1) + 1)), .inl 0] I38 (qi fun v46 I44 => (v40 = v46 ∧ sh_O mL_law 18 [some (.inr 0), some (.inr 1), some (.inr 119), some (.inl (y3 + 4))] [] CN (sh_S I44) (qi Q))))) ∧ (¬ (I38 0 ((y3 + 2) + 1)) = 0 → (cc mX7_light [.inr 119, .inl (I38 0 ((y3 + 1) + 1)), .inl 1] I38 (qi fun v52 I50 => (v40 = v52 ∧ sh_O mL_law 18 [some (.inr 0), some (.inr 1), some (.inr 119), some (.inl (y3 + 4))] [] CN (sh_S I50) (qi Q))))))))))) ∧ (¬ (I 0 ((y3 + 2) + 1)) = 0 → (cc mX6_light [.inr 1, .inl (I 0 ((y3 + 1) + 1)), .inl 1] I (qi fun v58 I56 => ((I56 0 0 = I 0 0 ∧ I56 0 0 < 2147483648) ∧ (sh_Bd (I56 0 ((y3 + 2) + 1)) ∧ (((I56 0 ((y3 + 2) + 1)) = 0 → (cc mX7_light [.inr 119, .inl (I56 0 ((y3 + 1) + 1)), .inl 0] I56 (qi fun v64 I62 => (v58 = v64 ∧ sh_O mL_law 18 [some (.inr 0), some (.inr 1), some (.inr 119), some (.inl (y3 + 4))] [] CN (sh_S I62) (qi Q))))) ∧ (¬ (I56 0 ((y3 + 2) + 1)) = 0 → (cc mX7_light [.inr 119, .inl (I56 0 ((y3 + 1) + 1)), .inl 1] I56 (qi fun v70 I68 => (v58 = v70 ∧ sh_O mL_law 18 [some (.inr 0), some (.inr 1), some (.inr 119), some (.inl (y3 + 4))] [] CN (sh_S I68) (qi Q)))))))))))))))) ∧ ((((I 0 (y3 + 1)) % 32) = 3 → ((0 ≤ (y3 + 1) ∧ (y3 + 1) < I 0 0) ∧ ((0 ≤ (y3 + 2) ∧ (y3 + 2) < I 0 0) ∧ ((0 ≤ (y3 + 3) ∧ (y3 + 3) < I 0 0) ∧ (cc mX6_setLamp [.inr 1, .inl (I 0 ((y3 + 1) + 1)), .inl (I 0 ((y3 + 2) + 1)), .inl (I 0 ((y3 + 3) + 1))] I (qi fun v80 I78 => ((I78 0 0 = I 0 0 ∧ I78 0 0 < 2147483648) ∧ (cc mX7_setLamp [.inr 119, .inl (I78 0 ((y3 + 1) + 1)), .inl (I78 0 ((y3 + 2) + 1)), .inl (I78 0 ((y3 + 3) + 1))] I78 (qi fun v84 I82 => (v80 = v84 ∧ sh_O mL_law 18 [some (.inr 0), some (.inr 1), some (.inr 119), some (.inl (y3 + 4))] [] CN (sh_S I82) (qi Q))))))))))) ∧ ((((I 0 (y3 + 1)) % 32) = 4 → ((0 ≤ (y3 + 1) ∧ (y3 + 1) < I 0 0) ∧ ((0 ≤ (y3 + 2) ∧ (y3 + 2) < I 0 0) ∧ (cc mX6_set [.inr 1, .inl (I 0 ((y3 + 1) + 1)), .inl (I 0 ((y3 + 2) + 1))] I (qi fun v93 I91 => ((I91 0 0 = I 0 0 ∧ I91 0 0 < 2147483648) ∧ (cc mX7_set [.inr 119, .inl (I91 0 ((y3 + 1) + 1)), .inl (I91 0 ((y3 + 2) + 1))] I91 (qi fun v97 I95 => (v93 = v97 ∧ sh_O mL_law 18 [some (.inr 0), some (.inr 1), some (.inr 119), some (.inl (y3 + 4))] [] CN (sh_S I95) (qi Q)))))))))) ∧ ((((I 0 (y3 + 1)) % 32) = 5 → ((0 ≤ (y3 + 1) ∧ (y3 + 1) < I 0 0) ∧ (cc mX6_pass [.inr 1, .inl (I 0 ((y3 + 1) + 1))] I (qi fun v105 I103 => ((I103 0 0 = I 0 0 ∧ I103 0 0 < 2147483648) ∧ (cc mX7_pass [.inr 119, .inl (I103 0 ((y3 + 1) + 1))] I103 (qi fun v109 I107 => (v105 = v109 ∧ sh_O mL_law 18 [some (.inr 0), some (.inr 1), some (.inr 119), some (.inl (y3 + 4))] [] CN (sh_S I107) (qi Q))))))))) ∧ ((((I 0 (y3 + 1)) % 32) = 6 → ((0 ≤ (y3 + 1) ∧ (y3 + 1) < I 0 0) ∧ (cc mX6_type [.inr 1, .inl ((I 0 ((y3 + 1) + 1)) % 65536)] I (qi fun v117 I115 => ((I115 0 0 = I 0 0 ∧ I115 0 0 < 2147483648) ∧ (cc mX7_type [.inr 119, .inl ((I115 0 ((y3 + 1) + 1)) % 65536)] I115 (qi fun v121 I119 => (v117 = v121 ∧ sh_O mL_law 18 [some (.inr 0), some (.inr 1), some (.inr 119), some (.inl (y3 + 4))] [] CN (sh_S I119) (qi Q))))))))) ∧ ((((I 0 (y3 + 1)) % 32) = 7 → (cc mX6_clearText [.inr 1] I (qi fun v128 I126 => (cc mX7_clearText [.inr 119] I126 (qi fun v131 I129 => (v128 = v131 ∧ sh_O mL_law 18 [some (.inr 0), some (.inr 1), some (.inr 119), some (.inl (y3 + 4))] [] CN (sh_S I129) (qi Q))))))) ∧ ((((I 0 (y3 + 1)) % 32) = 8 → (cc mX6_perform [.inr 1] I (qi fun v138 I136 => (cc mX7_perform [.inr 119] I136 (qi fun v141 I139 => (v138 = v141 ∧ sh_O mL_law 18 [some (.inr 0), some (.inr 1), some (.inr 119), some (.inl (y3 + 4))] [] CN (sh_S I139) (qi Q))))))) ∧ ((((I 0 (y3 + 1)) % 32) = 9 → ((0 ≤ (y3 + 1) ∧ (y3 + 1) < I 0 0) ∧ (cc mX6_stopped [.inr 1, .inl (I 0 ((y3 + 1) + 1))] I (qi fun v149 I147 => ((I147 0 0 = I 0 0 ∧ I147 0 0 < 2147483648) ∧ (cc mX7_stopped [.inr 119, .inl (I147 0 ((y3 + 1) + 1))] I147 (qi fun v153 I151 => (v149 = v153 ∧ sh_O mL_law 18 [some (.inr 0), some (.inr 1), some (.inr 119), some (.inl (y3 + 4))] [] CN (sh_S I151) (qi Q))))))))) ∧ ((((I 0 (y3 + 1)) % 32) = 10 → (cc mX6_undo [.inr 1] I (qi fun v160 I158 => (cc mX7_undo [.inr 119] I158 (qi fun v163 I161 => (v160 = v163 ∧ sh_O mL_law 18 [some (.inr 0), some (.inr 1), some (.inr 119), some (.inl (y3 + 4))] [] CN (sh_S I161) (qi Q))))))) ∧ ((((I 0 (y3 + 1)) % 32) = 11 → (cc mX6_keep [.inr 1] I (qi fun v170 I168 => (cc mX7_keep [.inr 119] I168 (qi fun v173 I171 => (v170 = v173 ∧ sh_O mL_law 18 [some (.inr 0), some (.inr 1), some (.inr 119), some (.inl (y3 + 4))] [] CN (sh_S I171) (qi Q))))))) ∧ ((((I 0 (y3 + 1)) % 32) = 12 → (cc mX6_restore [.inr 1] I (qi fun v180 I178 => (cc mX7_restore [.inr 119] I178 (qi fun v183 I181 => (v180 = v183 ∧ sh_O mL_law 18 [some (.inr 0), some (.inr 1), some (.inr 119), some (.inl (y3 + 4))] [] CN (sh_S I181) (qi Q))))))) ∧ ((((I 0 (y3 + 1)) % 32) = 13 → ((0 ≤ (y3 + 1) ∧ (y3 + 1) < I 0 0) ∧ ((0 ≤ (y3 + 2) ∧ (y3 + 2) < I 0 0) ∧ (cc mX6_runner [.inr 1, .inl (I 0 ((y3 + 1) + 1)), .inl (I 0 ((y3 + 2) + 1))] I (qi fun v192 I190 => ((I190 0 0 = I 0 0 ∧ I190 0 0 < 2147483648) ∧ (cc mX7_runner [.inr 119, .inl (I190 0 ((y3 + 1) + 1)), .inl (I190 0 ((y3 + 2) + 1))] I190 (qi fun v196 I194 => (v192 = v196 ∧ sh_O mL_law 18 [some (.inr 0), some (.inr 1), some (.inr 119), some (.inl (y3 + 4))] [] CN (sh_S I194) (qi Q)))))))))) ∧ ((((I 0 (y3 + 1)) % 32) = 14 → ((0 ≤ (y3 + 1) ∧ (y3 + 1) < I 0 0) ∧ ((0 ≤ (y3 + 2) ∧ (y3 + 2) < I 0 0) ∧ (cc mX6_lamp [.inr 1, .inl (I 0 ((y3 + 1) + 1)), .inl (I 0 ((y3 + 2) + 1))] I (qi fun v205 I203 => ((I203 0 0 = I 0 0 ∧ I203 0 0 < 2147483648) ∧ (cc mX7_lamp [.inr 119, .inl (I203 0 ((y3 + 1) + 1)), .inl (I203 0 ((y3 + 2) + 1))] I203 (qi fun v209 I207 => (v205 = v209 ∧ sh_O mL_law 18 [some (.inr 0), some (.inr 1), some (.inr 119), some (.inl (y3 + 4))] [] CN (sh_S I207) (qi Q)))))))))) ∧ ((((I 0 (y3 + 1)) % 32) = 15 → ((0 ≤ (y3 + 1) ∧ (y3 + 1) < I 0 0) ∧ ((0 ≤ (y3 + 2) ∧ (y3 + 2) < I 0 0) ∧ ((0 ≤ (y3 + 3) ∧ (y3 + 3) < I 0 0) ∧ (cc mX6_shadow [.inr 1, .inl (I 0 ((y3 + 1) + 1)), .inl (I 0 ((y3 + 2) + 1)), .inl (I 0 ((y3 + 3) + 1))] I (qi fun v219 I217 => ((I217 0 0 = I 0 0 ∧ I217 0 0 < 2147483648) ∧ (cc mX7_shadow [.inr 119, .inl (I217 0 ((y3 + 1) + 1)), .inl (I217 0 ((y3 + 2) + 1)), .inl (I217 0 ((y3 + 3) + 1))] I217 (qi fun v223 I221 => (v219 = v223 ∧ sh_O mL_law 18 [some (.inr 0), some (.inr 1), some (.inr 119), some (.inl (y3 + 4))] [] CN (sh_S I221) (qi Q))))))))))) ∧ ((((I 0 (y3 + 1)) % 32) = 16 → ((0 ≤ (y3 + 1) ∧ (y3 + 1) < I 0 0) ∧ (cc mX6_darkness [.inr 1, .inl (I 0 ((y3 + 1) + 1))] I (qi fun v231 I229 => ((I229 0 0 = I 0 0 ∧ I229 0 0 < 2147483648) ∧ (cc mX7_darkness [.inr 119, .inl (I229 0 ((y3 + 1) + 1))] I229 (qi fun v235 I233 => (v231 = v235 ∧ sh_O mL_law 18 [some (.inr 0), some (.inr 1), some (.inr 119), some (.inl (y3 + 4))] [] CN (sh_S I233) (qi Q))))))))) ∧ ((((I 0 (y3 + 1)) % 32) = 17 → ((0 ≤ (y3 + 1) ∧ (y3 + 1) < I 0 0) ∧ (cc mX6_looked [.inr 1, .inl (I 0 ((y3 + 1) + 1))] I (qi fun v243 I241 => ((I241 0 0 = I 0 0 ∧ I241 0 0 < 2147483648) ∧ (cc mX7_looked [.inr 119, .inl (I241 0 ((y3 + 1) + 1))] I241 (qi fun v247 I245 => (v243 = v247 ∧ sh_O mL_law 18 [some (.inr 0), some (.inr 1), some (.inr 119), some (.inl (y3 + 4))] [] CN (sh_S I245) (qi Q))))))))) ∧ ((((I 0 (y3 + 1)) % 32) = 18 → ((0 ≤ (y3 + 1) ∧ (y3 + 1) < I 0 0) ∧ (cc mX6_at [.inr 1, .inl (I 0 ((y3 + 1) + 1))] I (qi fun v255 I253 => ((I253 0 0 = I 0 0 ∧ I253 0 0 < 2147483648) ∧ (cc mX7_at [.inr 119, .inl (I253 0 ((y3 + 1) + 1))] I253 (qi fun v259 I257 => (v255 = v259 ∧ sh_O mL_law 18 [some (.inr 0), some (.inr 1), some (.inr 119), some (.inl (y3 + 4))] [] CN (sh_S I257) (qi Q))))))))) ∧ ((((I 0 (y3 + 1)) % 32) = 19 → ((0 ≤ (y3 + 1) ∧ (y3 + 1) < I 0 0) ∧ (cc mX6_reason [.inr 1, .inl (I 0 ((y3 + 1) + 1))] I (qi fun v267 I265 => ((I265 0 0 = I 0 0 ∧ I265 0 0 < 2147483648) ∧ (cc mX7_reason [.inr 119, .inl (I265 0 ((y3 + 1) + 1))] I265 (qi fun v271 I269 => (v267 = v271 ∧ sh_O mL_law 18 [some (.inr 0), some (.inr 1), some (.inr 119), some (.inl (y3 + 4))] [] CN (sh_S I269) (qi Q))))))))) ∧ ((((I 0 (y3 + 1)) % 32) = 20 → ((0 ≤ (y3 + 1) ∧ (y3 + 1) < I 0 0) ∧ (cc mX6_stepsTo [.inr 1, .inl (I 0 ((y3 + 1) + 1))] I (qi fun v279 I277 => ((I277 0 0 = I 0 0 ∧ I277 0 0 < 2147483648) ∧ (cc mX7_stepsTo [.inr 119, .inl (I277 0 ((y3 + 1) + 1))] I277 (qi fun v283 I281 => (v279 = v283 ∧ sh_O mL_law 18 [some (.inr 0), some (.inr 1), some (.inr 119), some (.inl (y3 + 4))] [] CN (sh_S I281) (qi Q))))))))) ∧ ((((I 0 (y3 + 1)) % 32) = 21 → (cc mX6_safest [.inr 1] I (qi fun v290 I288 => (cc mX7_safest [.inr 119] I288 (qi fun v293 I291 => (v290 = v293 ∧ sh_O mL_law 18 [some (.inr 0), some (.inr 1), some (.inr 119), some (.inl (y3 + 4))] [] CN (sh_S I291) (qi Q))))))) ∧ ((((I 0 (y3 + 1)) % 32) = 22 → ((0 ≤ (y3 + 1) ∧ (y3 + 1) < I 0 0) ∧ ((0 ≤ (y3 + 2) ∧ (y3 + 2) < I 0 0) ∧ (cc mX6_ifTurns [.inr 1, .inl (I 0 ((y3 + 1) + 1)), .inl (I 0 ((y3 + 2) + 1))] I (qi fun v302 I300 => ((I300 0 0 = I 0 0 ∧ I300 0 0 < 2147483648) ∧ (cc mX7_ifTurns [.inr 119, .inl (I300 0 ((y3 + 1) + 1)), .inl (I300 0 ((y3 + 2) + 1))] I300 (qi fun v306 I304 => (v302 = v306 ∧ sh_O mL_law 18 [some (.inr 0), some (.inr 1), some (.inr 119), some (.inl (y3 + 4))] [] CN (sh_S I304) (qi Q)))))))))) ∧ ((((I 0 (y3 + 1)) % 32) = 23 → ((0 ≤ (y3 + 1) ∧ (y3 + 1) < I 0 0) ∧ (cc mX6_count [.inr 1, .inl (I 0 ((y3 + 1) + 1))] I (qi fun v314 I312 => ((I312 0 0 = I 0 0 ∧ I312 0 0 < 2147483648) ∧ (cc mX7_count [.inr 119, .inl (I312 0 ((y3 + 1) + 1))] I312 (qi fun v318 I316 => (v314 = v318 ∧ sh_O mL_law 18 [some (.inr 0), some (.inr 1), some (.inr 119), some (.inl (y3 + 4))] [] CN (sh_S I316) (qi Q))))))))) ∧ ((((I 0 (y3 + 1)) % 32) < 0 ∨ 23 < ((I 0 (y3 + 1)) % 32)) → sh_O mL_law 18 [some (.inr 0), some (.inr 1), some (.inr 119), some (.inl (y3 + 4))] [] CN (sh_S I) (qi Q))))))))))))))))))))))))))))))))))) : sh_O mL_law 18 [some (.inr 0), some (.inr 1), some (.inr 119), some (.inl y3)] [] CN (sh_S I) (qi Q) := by
  refine sh_iload_n (pc := 18) dL_law_18 rfl rfl ?_
  refine sh_aload_n (pc := 19) dL_law_19 rfl rfl ?_
  obtain ⟨hs_1, h⟩ := h
  refine sh_slen (pc := 20) dL_law_20 hs_1 ?_
  refine sh_iconst (pc := 21) (v := 4) dL_law_21 rfl ?_
  refine sh_isub (pc := 22) dL_law_22 ?_
  obtain ⟨hb_2, h⟩ := h
  obtain ⟨hb_3, h⟩ := h
  refine sh_icmp_gt (pc := 23) (tgt := 770) dL_law_23 (by decide) hb_2 hb_3 (fun q_4 => ?_) (fun q_4 => ?_)
  · replace h := h.1 q_4
    refine sh_iconst (pc := 770) (v := 1) dL_law_770 rfl ?_
    exact g_zret dL_law_771 rfl (Or.inr rfl) h
  · replace h := h.2 q_4
    refine sh_aload_n (pc := 26) dL_law_26 rfl rfl ?_
    refine sh_iload_n (pc := 27) dL_law_27 rfl rfl ?_
    obtain ⟨hs_5, h⟩ := h
    obtain ⟨hs_6, h⟩ := h
    refine sh_sld (pc := 28) dL_law_28 hs_5 hs_6 ?_
    refine sh_bipush (pc := 29) (v := 31) dL_law_29 (by decide) ?_
    refine sh_iand31 (pc := 31) dL_law_31 ?_
    obtain ⟨hb_7, h⟩ := h
    by_cases q_20 : ((I 0 (y3 + 1)) % 32) = 0
    · refine sh_tableIn (pc := 32) (k := 0) (tgt := 144) dL_law_32 q_20 (bd_lit (by decide)) (by decide) (by decide) rfl (by decide) ?_
      replace h := h.1 q_20
      refine sh_aload_n (pc := 144) dL_law_144 rfl rfl ?_
      refine sh_aload_n (pc := 145) dL_law_145 rfl rfl ?_
      refine sh_iload_n (pc := 146) dL_law_146 rfl rfl ?_
      refine sh_iconst (pc := 147) (v := 1) dL_law_147 rfl ?_
      refine sh_iadd (pc := 148) dL_law_148 ?_
      obtain ⟨hs_8, h⟩ := h
      refine sh_sld (pc := 149) dL_law_149 hs_8 hs_6 ?_
      refine sh_aload_n (pc := 150) dL_law_150 rfl rfl ?_
      refine sh_iload_n (pc := 151) dL_law_151 rfl rfl ?_
      refine sh_iconst (pc := 152) (v := 2) dL_law_152 rfl ?_
      refine sh_iadd (pc := 153) dL_law_153 ?_
      obtain ⟨hs_9, h⟩ := h
      refine sh_sld (pc := 154) dL_law_154 hs_9 hs_6 ?_
      refine g_V2i (pc := 155) is_1 dL_law_155 lk_L_13 rfl hcn h (fun v12 I10 h => ?_)
      refine sh_aload_n (pc := 158) dL_law_158 rfl rfl ?_
      refine sh_aload_n (pc := 159) dL_law_159 rfl rfl ?_
      refine sh_iload_n (pc := 160) dL_law_160 rfl rfl ?_
      refine sh_iconst (pc := 161) (v := 1) dL_law_161 rfl ?_
      refine sh_iadd (pc := 162) dL_law_162 ?_
      obtain ⟨hs_13, h⟩ := h
      refine sh_sld (pc := 163) dL_law_163 (by rw [hs_13.1]; exact hs_8) hs_13.2 ?_
      refine sh_aload_n (pc := 164) dL_law_164 rfl rfl ?_
      refine sh_iload_n (pc := 165) dL_law_165 rfl rfl ?_
      refine sh_iconst (pc := 166) (v := 2) dL_law_166 rfl ?_
      refine sh_iadd (pc := 167) dL_law_167 ?_
      refine sh_sld (pc := 168) dL_law_168 (by rw [hs_13.1]; exact hs_9) hs_13.2 ?_
      refine g_V2i (pc := 169) is_119 dL_law_169 lk_L_17 rfl hcn h (fun v16 I14 h => ?_)
      obtain ⟨q_e, h⟩ := h
      refine sh_icmp_eqS (pc := 172) (tgt := 764) dL_law_172 (by decide) q_e ?_
      refine k_iinc (pc := 764) [some (.inr 0), some (.inr 1), some (.inr 119), some (.inl (y3 + 4))] dL_law_764 rfl rfl (by decide) ?_
      refine sh_goto (pc := 767) (tgt := 18) dL_law_767 (by decide) ?_
      exact sh_O.locals h (sub_some (sub_some (sub_some (sub_some sub_nil))))
    replace h := h.2
    by_cases q_33 : ((I 0 (y3 + 1)) % 32) = 1
    · refine sh_tableIn (pc := 32) (k := 1) (tgt := 177) dL_law_32 q_33 (bd_lit (by decide)) (by decide) (by decide) rfl (by decide) ?_
      replace h := h.1 q_33
      refine sh_aload_n (pc := 177) dL_law_177 rfl rfl ?_
      refine sh_aload_n (pc := 178) dL_law_178 rfl rfl ?_
      refine sh_iload_n (pc := 179) dL_law_179 rfl rfl ?_
      refine sh_iconst (pc := 180) (v := 1) dL_law_180 rfl ?_
      refine sh_iadd (pc := 181) dL_law_181 ?_
      obtain ⟨hs_21, h⟩ := h
      refine sh_sld (pc := 182) dL_law_182 hs_21 hs_6 ?_
      refine sh_aload_n (pc := 183) dL_law_183 rfl rfl ?_
      refine sh_iload_n (pc := 184) dL_law_184 rfl rfl ?_
      refine sh_iconst (pc := 185) (v := 2) dL_law_185 rfl ?_
      refine sh_iadd (pc := 186) dL_law_186 ?_
      obtain ⟨hs_22, h⟩ := h
      refine sh_sld (pc := 187) dL_law_187 hs_22 hs_6 ?_
      refine g_V2i (pc := 188) is_1 dL_law_188 lk_L_18 rfl hcn h (fun v25 I23 h => ?_)
      refine sh_aload_n (pc := 191) dL_law_191 rfl rfl ?_
      refine sh_aload_n (pc := 192) dL_law_192 rfl rfl ?_
      refine sh_iload_n (pc := 193) dL_law_193 rfl rfl ?_
      refine sh_iconst (pc := 194) (v := 1) dL_law_194 rfl ?_
      refine sh_iadd (pc := 195) dL_law_195 ?_
      obtain ⟨hs_26, h⟩ := h
      refine sh_sld (pc := 196) dL_law_196 (by rw [hs_26.1]; exact hs_21) hs_26.2 ?_
      refine sh_aload_n (pc := 197) dL_law_197 rfl rfl ?_
      refine sh_iload_n (pc := 198) dL_law_198 rfl rfl ?_
      refine sh_iconst (pc := 199) (v := 2) dL_law_199 rfl ?_
      refine sh_iadd (pc := 200) dL_law_200 ?_
      refine sh_sld (pc := 201) dL_law_201 (by rw [hs_26.1]; exact hs_22) hs_26.2 ?_
      refine g_V2i (pc := 202) is_119 dL_law_202 lk_L_21 rfl hcn h (fun v29 I27 h => ?_)
      obtain ⟨q_e, h⟩ := h
      refine sh_icmp_eqS (pc := 205) (tgt := 764) dL_law_205 (by decide) q_e ?_
      refine k_iinc (pc := 764) [some (.inr 0), some (.inr 1), some (.inr 119), some (.inl (y3 + 4))] dL_law_764 rfl rfl (by decide) ?_
      refine sh_goto (pc := 767) (tgt := 18) dL_law_767 (by decide) ?_
      exact sh_O.locals h (sub_some (sub_some (sub_some (sub_some sub_nil))))
    replace h := h.2
    by_cases q_74 : ((I 0 (y3 + 1)) % 32) = 2
    · refine sh_tableIn (pc := 32) (k := 2) (tgt := 210) dL_law_32 q_74 (bd_lit (by decide)) (by decide) (by decide) rfl (by decide) ?_
      replace h := h.1 q_74
      refine sh_aload_n (pc := 210) dL_law_210 rfl rfl ?_
      refine sh_aload_n (pc := 211) dL_law_211 rfl rfl ?_
      refine sh_iload_n (pc := 212) dL_law_212 rfl rfl ?_
      refine sh_iconst (pc := 213) (v := 1) dL_law_213 rfl ?_
      refine sh_iadd (pc := 214) dL_law_214 ?_
      obtain ⟨hs_34, h⟩ := h
      refine sh_sld (pc := 215) dL_law_215 hs_34 hs_6 ?_
      refine sh_aload_n (pc := 216) dL_law_216 rfl rfl ?_
      refine sh_iload_n (pc := 217) dL_law_217 rfl rfl ?_
      refine sh_iconst (pc := 218) (v := 2) dL_law_218 rfl ?_
      refine sh_iadd (pc := 219) dL_law_219 ?_
      obtain ⟨hs_35, h⟩ := h
      refine sh_sld (pc := 220) dL_law_220 hs_35 hs_6 ?_
      obtain ⟨hb_36, h⟩ := h
      refine sh_if_eq (pc := 221) (tgt := 228) dL_law_221 (by decide) hb_36  (fun q_37 => ?_) (fun q_37 => ?_)
      · replace h := h.1 q_37
        refine sh_iconst (pc := 228) (v := 0) dL_law_228 rfl ?_
        refine g_V2i (pc := 229) is_1 dL_law_229 lk_L_22 rfl hcn h (fun v40 I38 h => ?_)
        refine sh_aload_n (pc := 232) dL_law_232 rfl rfl ?_
        refine sh_aload_n (pc := 233) dL_law_233 rfl rfl ?_
        refine sh_iload_n (pc := 234) dL_law_234 rfl rfl ?_
        refine sh_iconst (pc := 235) (v := 1) dL_law_235 rfl ?_
        refine sh_iadd (pc := 236) dL_law_236 ?_
        obtain ⟨hs_41, h⟩ := h
        refine sh_sld (pc := 237) dL_law_237 (by rw [hs_41.1]; exact hs_34) hs_41.2 ?_
        refine sh_aload_n (pc := 238) dL_law_238 rfl rfl ?_
        refine sh_iload_n (pc := 239) dL_law_239 rfl rfl ?_
        refine sh_iconst (pc := 240) (v := 2) dL_law_240 rfl ?_
        refine sh_iadd (pc := 241) dL_law_241 ?_
        refine sh_sld (pc := 242) dL_law_242 (by rw [hs_41.1]; exact hs_35) hs_41.2 ?_
        obtain ⟨hb_42, h⟩ := h
        refine sh_if_eq (pc := 243) (tgt := 250) dL_law_243 (by decide) hb_42  (fun q_43 => ?_) (fun q_43 => ?_)
        · replace h := h.1 q_43
          refine sh_iconst (pc := 250) (v := 0) dL_law_250 rfl ?_
          refine g_V2i (pc := 251) is_119 dL_law_251 lk_L_26 rfl hcn h (fun v46 I44 h => ?_)
          obtain ⟨q_e, h⟩ := h
          refine sh_icmp_eqS (pc := 254) (tgt := 764) dL_law_254 (by decide) q_e ?_
          refine k_iinc (pc := 764) [some (.inr 0), some (.inr 1), some (.inr 119), some (.inl (y3 + 4))] dL_law_764 rfl rfl (by decide) ?_
          refine sh_goto (pc := 767) (tgt := 18) dL_law_767 (by decide) ?_
          exact sh_O.locals h (sub_some (sub_some (sub_some (sub_some sub_nil))))
        · replace h := h.2 q_43
          refine sh_iconst (pc := 246) (v := 1) dL_law_246 rfl ?_
          refine sh_goto (pc := 247) (tgt := 251) dL_law_247 (by decide) ?_
          refine g_V2i (pc := 251) is_119 dL_law_251 lk_L_26 rfl hcn h (fun v52 I50 h => ?_)
          obtain ⟨q_e, h⟩ := h
          refine sh_icmp_eqS (pc := 254) (tgt := 764) dL_law_254 (by decide) q_e ?_
          refine k_iinc (pc := 764) [some (.inr 0), some (.inr 1), some (.inr 119), some (.inl (y3 + 4))] dL_law_764 rfl rfl (by decide) ?_
          refine sh_goto (pc := 767) (tgt := 18) dL_law_767 (by decide) ?_
          exact sh_O.locals h (sub_some (sub_some (sub_some (sub_some sub_nil))))
      · replace h := h.2 q_37
        refine sh_iconst (pc := 224) (v := 1) dL_law_224 rfl ?_
        refine sh_goto (pc := 225) (tgt := 229) dL_law_225 (by decide) ?_
        refine g_V2i (pc := 229) is_1 dL_law_229 lk_L_22 rfl hcn h (fun v58 I56 h => ?_)
        refine sh_aload_n (pc := 232) dL_law_232 rfl rfl ?_
        refine sh_aload_n (pc := 233) dL_law_233 rfl rfl ?_
        refine sh_iload_n (pc := 234) dL_law_234 rfl rfl ?_
        refine sh_iconst (pc := 235) (v := 1) dL_law_235 rfl ?_
        refine sh_iadd (pc := 236) dL_law_236 ?_
        obtain ⟨hs_59, h⟩ := h
        refine sh_sld (pc := 237) dL_law_237 (by rw [hs_59.1]; exact hs_34) hs_59.2 ?_
        refine sh_aload_n (pc := 238) dL_law_238 rfl rfl ?_
        refine sh_iload_n (pc := 239) dL_law_239 rfl rfl ?_
        refine sh_iconst (pc := 240) (v := 2) dL_law_240 rfl ?_
        refine sh_iadd (pc := 241) dL_law_241 ?_
        refine sh_sld (pc := 242) dL_law_242 (by rw [hs_59.1]; exact hs_35) hs_59.2 ?_
        obtain ⟨hb_60, h⟩ := h
        refine sh_if_eq (pc := 243) (tgt := 250) dL_law_243 (by decide) hb_60  (fun q_61 => ?_) (fun q_61 => ?_)
        · replace h := h.1 q_61
          refine sh_iconst (pc := 250) (v := 0) dL_law_250 rfl ?_
          refine g_V2i (pc := 251) is_119 dL_law_251 lk_L_26 rfl hcn h (fun v64 I62 h => ?_)
          obtain ⟨q_e, h⟩ := h
          refine sh_icmp_eqS (pc := 254) (tgt := 764) dL_law_254 (by decide) q_e ?_
          refine k_iinc (pc := 764) [some (.inr 0), some (.inr 1), some (.inr 119), some (.inl (y3 + 4))] dL_law_764 rfl rfl (by decide) ?_
          refine sh_goto (pc := 767) (tgt := 18) dL_law_767 (by decide) ?_
          exact sh_O.locals h (sub_some (sub_some (sub_some (sub_some sub_nil))))
        · replace h := h.2 q_61
          refine sh_iconst (pc := 246) (v := 1) dL_law_246 rfl ?_
          refine sh_goto (pc := 247) (tgt := 251) dL_law_247 (by decide) ?_
          refine g_V2i (pc := 251) is_119 dL_law_251 lk_L_26 rfl hcn h (fun v70 I68 h => ?_)
          obtain ⟨q_e, h⟩ := h
          refine sh_icmp_eqS (pc := 254) (tgt := 764) dL_law_254 (by decide) q_e ?_
          refine k_iinc (pc := 764) [some (.inr 0), some (.inr 1), some (.inr 119), some (.inl (y3 + 4))] dL_law_764 rfl rfl (by decide) ?_
          refine sh_goto (pc := 767) (tgt := 18) dL_law_767 (by decide) ?_
          exact sh_O.locals h (sub_some (sub_some (sub_some (sub_some sub_nil))))
    replace h := h.2
    by_cases q_88 : ((I 0 (y3 + 1)) % 32) = 3
    · refine sh_tableIn (pc := 32) (k := 3) (tgt := 259) dL_law_32 q_88 (bd_lit (by decide)) (by decide) (by decide) rfl (by decide) ?_
      replace h := h.1 q_88
      refine sh_aload_n (pc := 259) dL_law_259 rfl rfl ?_
      refine sh_aload_n (pc := 260) dL_law_260 rfl rfl ?_
      refine sh_iload_n (pc := 261) dL_law_261 rfl rfl ?_
      refine sh_iconst (pc := 262) (v := 1) dL_law_262 rfl ?_
      refine sh_iadd (pc := 263) dL_law_263 ?_
      obtain ⟨hs_75, h⟩ := h
      refine sh_sld (pc := 264) dL_law_264 hs_75 hs_6 ?_
      refine sh_aload_n (pc := 265) dL_law_265 rfl rfl ?_
      refine sh_iload_n (pc := 266) dL_law_266 rfl rfl ?_
      refine sh_iconst (pc := 267) (v := 2) dL_law_267 rfl ?_
      refine sh_iadd (pc := 268) dL_law_268 ?_
      obtain ⟨hs_76, h⟩ := h
      refine sh_sld (pc := 269) dL_law_269 hs_76 hs_6 ?_
      refine sh_aload_n (pc := 270) dL_law_270 rfl rfl ?_
      refine sh_iload_n (pc := 271) dL_law_271 rfl rfl ?_
      refine sh_iconst (pc := 272) (v := 3) dL_law_272 rfl ?_
      refine sh_iadd (pc := 273) dL_law_273 ?_
      obtain ⟨hs_77, h⟩ := h
      refine sh_sld (pc := 274) dL_law_274 hs_77 hs_6 ?_
      refine g_V3i (pc := 275) is_1 dL_law_275 lk_L_27 rfl hcn h (fun v80 I78 h => ?_)
      refine sh_aload_n (pc := 278) dL_law_278 rfl rfl ?_
      refine sh_aload_n (pc := 279) dL_law_279 rfl rfl ?_
      refine sh_iload_n (pc := 280) dL_law_280 rfl rfl ?_
      refine sh_iconst (pc := 281) (v := 1) dL_law_281 rfl ?_
      refine sh_iadd (pc := 282) dL_law_282 ?_
      obtain ⟨hs_81, h⟩ := h
      refine sh_sld (pc := 283) dL_law_283 (by rw [hs_81.1]; exact hs_75) hs_81.2 ?_
      refine sh_aload_n (pc := 284) dL_law_284 rfl rfl ?_
      refine sh_iload_n (pc := 285) dL_law_285 rfl rfl ?_
      refine sh_iconst (pc := 286) (v := 2) dL_law_286 rfl ?_
      refine sh_iadd (pc := 287) dL_law_287 ?_
      refine sh_sld (pc := 288) dL_law_288 (by rw [hs_81.1]; exact hs_76) hs_81.2 ?_
      refine sh_aload_n (pc := 289) dL_law_289 rfl rfl ?_
      refine sh_iload_n (pc := 290) dL_law_290 rfl rfl ?_
      refine sh_iconst (pc := 291) (v := 3) dL_law_291 rfl ?_
      refine sh_iadd (pc := 292) dL_law_292 ?_
      refine sh_sld (pc := 293) dL_law_293 (by rw [hs_81.1]; exact hs_77) hs_81.2 ?_
      refine g_V3i (pc := 294) is_119 dL_law_294 lk_L_31 rfl hcn h (fun v84 I82 h => ?_)
      obtain ⟨q_e, h⟩ := h
      refine sh_icmp_eqS (pc := 297) (tgt := 764) dL_law_297 (by decide) q_e ?_
      refine k_iinc (pc := 764) [some (.inr 0), some (.inr 1), some (.inr 119), some (.inl (y3 + 4))] dL_law_764 rfl rfl (by decide) ?_
      refine sh_goto (pc := 767) (tgt := 18) dL_law_767 (by decide) ?_
      exact sh_O.locals h (sub_some (sub_some (sub_some (sub_some sub_nil))))
    replace h := h.2
    by_cases q_101 : ((I 0 (y3 + 1)) % 32) = 4
    · refine sh_tableIn (pc := 32) (k := 4) (tgt := 302) dL_law_32 q_101 (bd_lit (by decide)) (by decide) (by decide) rfl (by decide) ?_
      replace h := h.1 q_101
      refine sh_aload_n (pc := 302) dL_law_302 rfl rfl ?_
      refine sh_aload_n (pc := 303) dL_law_303 rfl rfl ?_
      refine sh_iload_n (pc := 304) dL_law_304 rfl rfl ?_
      refine sh_iconst (pc := 305) (v := 1) dL_law_305 rfl ?_
      refine sh_iadd (pc := 306) dL_law_306 ?_
      obtain ⟨hs_89, h⟩ := h
      refine sh_sld (pc := 307) dL_law_307 hs_89 hs_6 ?_
      refine sh_aload_n (pc := 308) dL_law_308 rfl rfl ?_
      refine sh_iload_n (pc := 309) dL_law_309 rfl rfl ?_
      refine sh_iconst (pc := 310) (v := 2) dL_law_310 rfl ?_
      refine sh_iadd (pc := 311) dL_law_311 ?_
      obtain ⟨hs_90, h⟩ := h
      refine sh_sld (pc := 312) dL_law_312 hs_90 hs_6 ?_
      refine g_V2i (pc := 313) is_1 dL_law_313 lk_L_32 rfl hcn h (fun v93 I91 h => ?_)
      refine sh_aload_n (pc := 316) dL_law_316 rfl rfl ?_
      refine sh_aload_n (pc := 317) dL_law_317 rfl rfl ?_
      refine sh_iload_n (pc := 318) dL_law_318 rfl rfl ?_
      refine sh_iconst (pc := 319) (v := 1) dL_law_319 rfl ?_
      refine sh_iadd (pc := 320) dL_law_320 ?_
      obtain ⟨hs_94, h⟩ := h
      refine sh_sld (pc := 321) dL_law_321 (by rw [hs_94.1]; exact hs_89) hs_94.2 ?_
      refine sh_aload_n (pc := 322) dL_law_322 rfl rfl ?_
      refine sh_iload_n (pc := 323) dL_law_323 rfl rfl ?_
      refine sh_iconst (pc := 324) (v := 2) dL_law_324 rfl ?_
      refine sh_iadd (pc := 325) dL_law_325 ?_
      refine sh_sld (pc := 326) dL_law_326 (by rw [hs_94.1]; exact hs_90) hs_94.2 ?_
      refine g_V2i (pc := 327) is_119 dL_law_327 lk_L_35 rfl hcn h (fun v97 I95 h => ?_)
      obtain ⟨q_e, h⟩ := h
      refine sh_icmp_eqS (pc := 330) (tgt := 764) dL_law_330 (by decide) q_e ?_
      refine k_iinc (pc := 764) [some (.inr 0), some (.inr 1), some (.inr 119), some (.inl (y3 + 4))] dL_law_764 rfl rfl (by decide) ?_
      refine sh_goto (pc := 767) (tgt := 18) dL_law_767 (by decide) ?_
      exact sh_O.locals h (sub_some (sub_some (sub_some (sub_some sub_nil))))
    replace h := h.2
    by_cases q_113 : ((I 0 (y3 + 1)) % 32) = 5
    · refine sh_tableIn (pc := 32) (k := 5) (tgt := 335) dL_law_32 q_113 (bd_lit (by decide)) (by decide) (by decide) rfl (by decide) ?_
      replace h := h.1 q_113
      refine sh_aload_n (pc := 335) dL_law_335 rfl rfl ?_
      refine sh_aload_n (pc := 336) dL_law_336 rfl rfl ?_
      refine sh_iload_n (pc := 337) dL_law_337 rfl rfl ?_
      refine sh_iconst (pc := 338) (v := 1) dL_law_338 rfl ?_
      refine sh_iadd (pc := 339) dL_law_339 ?_
      obtain ⟨hs_102, h⟩ := h
      refine sh_sld (pc := 340) dL_law_340 hs_102 hs_6 ?_
      refine g_V1i (pc := 341) is_1 dL_law_341 lk_L_36 rfl hcn h (fun v105 I103 h => ?_)
      refine sh_aload_n (pc := 344) dL_law_344 rfl rfl ?_
      refine sh_aload_n (pc := 345) dL_law_345 rfl rfl ?_
      refine sh_iload_n (pc := 346) dL_law_346 rfl rfl ?_
      refine sh_iconst (pc := 347) (v := 1) dL_law_347 rfl ?_
      refine sh_iadd (pc := 348) dL_law_348 ?_
      obtain ⟨hs_106, h⟩ := h
      refine sh_sld (pc := 349) dL_law_349 (by rw [hs_106.1]; exact hs_102) hs_106.2 ?_
      refine g_V1i (pc := 350) is_119 dL_law_350 lk_L_40 rfl hcn h (fun v109 I107 h => ?_)
      obtain ⟨q_e, h⟩ := h
      refine sh_icmp_eqS (pc := 353) (tgt := 764) dL_law_353 (by decide) q_e ?_
      refine k_iinc (pc := 764) [some (.inr 0), some (.inr 1), some (.inr 119), some (.inl (y3 + 4))] dL_law_764 rfl rfl (by decide) ?_
      refine sh_goto (pc := 767) (tgt := 18) dL_law_767 (by decide) ?_
      exact sh_O.locals h (sub_some (sub_some (sub_some (sub_some sub_nil))))
    replace h := h.2
    by_cases q_125 : ((I 0 (y3 + 1)) % 32) = 6
    · refine sh_tableIn (pc := 32) (k := 6) (tgt := 358) dL_law_32 q_125 (bd_lit (by decide)) (by decide) (by decide) rfl (by decide) ?_
      replace h := h.1 q_125
      refine sh_aload_n (pc := 358) dL_law_358 rfl rfl ?_
      refine sh_aload_n (pc := 359) dL_law_359 rfl rfl ?_
      refine sh_iload_n (pc := 360) dL_law_360 rfl rfl ?_
      refine sh_iconst (pc := 361) (v := 1) dL_law_361 rfl ?_
      refine sh_iadd (pc := 362) dL_law_362 ?_
      obtain ⟨hs_114, h⟩ := h
      refine sh_sld (pc := 363) dL_law_363 hs_114 hs_6 ?_
      refine sh_i2c (pc := 364) dL_law_364 ?_
      refine g_V1i (pc := 365) is_1 dL_law_365 lk_L_41 rfl hcn h (fun v117 I115 h => ?_)
      refine sh_aload_n (pc := 368) dL_law_368 rfl rfl ?_
      refine sh_aload_n (pc := 369) dL_law_369 rfl rfl ?_
      refine sh_iload_n (pc := 370) dL_law_370 rfl rfl ?_
      refine sh_iconst (pc := 371) (v := 1) dL_law_371 rfl ?_
      refine sh_iadd (pc := 372) dL_law_372 ?_
      obtain ⟨hs_118, h⟩ := h
      refine sh_sld (pc := 373) dL_law_373 (by rw [hs_118.1]; exact hs_114) hs_118.2 ?_
      refine sh_i2c (pc := 374) dL_law_374 ?_
      refine g_V1i (pc := 375) is_119 dL_law_375 lk_L_45 rfl hcn h (fun v121 I119 h => ?_)
      obtain ⟨q_e, h⟩ := h
      refine sh_icmp_eqS (pc := 378) (tgt := 764) dL_law_378 (by decide) q_e ?_
      refine k_iinc (pc := 764) [some (.inr 0), some (.inr 1), some (.inr 119), some (.inl (y3 + 4))] dL_law_764 rfl rfl (by decide) ?_
      refine sh_goto (pc := 767) (tgt := 18) dL_law_767 (by decide) ?_
      exact sh_O.locals h (sub_some (sub_some (sub_some (sub_some sub_nil))))
    replace h := h.2
    by_cases q_135 : ((I 0 (y3 + 1)) % 32) = 7
    · refine sh_tableIn (pc := 32) (k := 7) (tgt := 383) dL_law_32 q_135 (bd_lit (by decide)) (by decide) (by decide) rfl (by decide) ?_
      replace h := h.1 q_135
      refine sh_aload_n (pc := 383) dL_law_383 rfl rfl ?_
      refine g_V0i (pc := 384) is_1 dL_law_384 lk_L_46 rfl hcn h (fun v128 I126 h => ?_)
      refine sh_aload_n (pc := 387) dL_law_387 rfl rfl ?_
      refine g_V0i (pc := 388) is_119 dL_law_388 lk_L_50 rfl hcn h (fun v131 I129 h => ?_)
      obtain ⟨q_e, h⟩ := h
      refine sh_icmp_eqS (pc := 391) (tgt := 764) dL_law_391 (by decide) q_e ?_
      refine k_iinc (pc := 764) [some (.inr 0), some (.inr 1), some (.inr 119), some (.inl (y3 + 4))] dL_law_764 rfl rfl (by decide) ?_
      refine sh_goto (pc := 767) (tgt := 18) dL_law_767 (by decide) ?_
      exact sh_O.locals h (sub_some (sub_some (sub_some (sub_some sub_nil))))
    replace h := h.2
    by_cases q_145 : ((I 0 (y3 + 1)) % 32) = 8
    · refine sh_tableIn (pc := 32) (k := 8) (tgt := 396) dL_law_32 q_145 (bd_lit (by decide)) (by decide) (by decide) rfl (by decide) ?_
      replace h := h.1 q_145
      refine sh_aload_n (pc := 396) dL_law_396 rfl rfl ?_
      refine g_V0i (pc := 397) is_1 dL_law_397 lk_L_51 rfl hcn h (fun v138 I136 h => ?_)
      refine sh_aload_n (pc := 400) dL_law_400 rfl rfl ?_
      refine g_V0i (pc := 401) is_119 dL_law_401 lk_L_54 rfl hcn h (fun v141 I139 h => ?_)
      obtain ⟨q_e, h⟩ := h
      refine sh_icmp_eqS (pc := 404) (tgt := 764) dL_law_404 (by decide) q_e ?_
      refine k_iinc (pc := 764) [some (.inr 0), some (.inr 1), some (.inr 119), some (.inl (y3 + 4))] dL_law_764 rfl rfl (by decide) ?_
      refine sh_goto (pc := 767) (tgt := 18) dL_law_767 (by decide) ?_
      exact sh_O.locals h (sub_some (sub_some (sub_some (sub_some sub_nil))))
    replace h := h.2
    by_cases q_157 : ((I 0 (y3 + 1)) % 32) = 9
    · refine sh_tableIn (pc := 32) (k := 9) (tgt := 409) dL_law_32 q_157 (bd_lit (by decide)) (by decide) (by decide) rfl (by decide) ?_
      replace h := h.1 q_157
      refine sh_aload_n (pc := 409) dL_law_409 rfl rfl ?_
      refine sh_aload_n (pc := 410) dL_law_410 rfl rfl ?_
      refine sh_iload_n (pc := 411) dL_law_411 rfl rfl ?_
      refine sh_iconst (pc := 412) (v := 1) dL_law_412 rfl ?_
      refine sh_iadd (pc := 413) dL_law_413 ?_
      obtain ⟨hs_146, h⟩ := h
      refine sh_sld (pc := 414) dL_law_414 hs_146 hs_6 ?_
      refine g_V1i (pc := 415) is_1 dL_law_415 lk_L_55 rfl hcn h (fun v149 I147 h => ?_)
      refine sh_aload_n (pc := 418) dL_law_418 rfl rfl ?_
      refine sh_aload_n (pc := 419) dL_law_419 rfl rfl ?_
      refine sh_iload_n (pc := 420) dL_law_420 rfl rfl ?_
      refine sh_iconst (pc := 421) (v := 1) dL_law_421 rfl ?_
      refine sh_iadd (pc := 422) dL_law_422 ?_
      obtain ⟨hs_150, h⟩ := h
      refine sh_sld (pc := 423) dL_law_423 (by rw [hs_150.1]; exact hs_146) hs_150.2 ?_
      refine g_V1i (pc := 424) is_119 dL_law_424 lk_L_58 rfl hcn h (fun v153 I151 h => ?_)
      obtain ⟨q_e, h⟩ := h
      refine sh_icmp_eqS (pc := 427) (tgt := 764) dL_law_427 (by decide) q_e ?_
      refine k_iinc (pc := 764) [some (.inr 0), some (.inr 1), some (.inr 119), some (.inl (y3 + 4))] dL_law_764 rfl rfl (by decide) ?_
      refine sh_goto (pc := 767) (tgt := 18) dL_law_767 (by decide) ?_
      exact sh_O.locals h (sub_some (sub_some (sub_some (sub_some sub_nil))))
    replace h := h.2
    by_cases q_167 : ((I 0 (y3 + 1)) % 32) = 10
    · refine sh_tableIn (pc := 32) (k := 10) (tgt := 432) dL_law_32 q_167 (bd_lit (by decide)) (by decide) (by decide) rfl (by decide) ?_
      replace h := h.1 q_167
      refine sh_aload_n (pc := 432) dL_law_432 rfl rfl ?_
      refine g_V0i (pc := 433) is_1 dL_law_433 lk_L_59 rfl hcn h (fun v160 I158 h => ?_)
      refine sh_aload_n (pc := 436) dL_law_436 rfl rfl ?_
      refine g_V0i (pc := 437) is_119 dL_law_437 lk_L_62 rfl hcn h (fun v163 I161 h => ?_)
      obtain ⟨q_e, h⟩ := h
      refine sh_icmp_eqS (pc := 440) (tgt := 764) dL_law_440 (by decide) q_e ?_
      refine k_iinc (pc := 764) [some (.inr 0), some (.inr 1), some (.inr 119), some (.inl (y3 + 4))] dL_law_764 rfl rfl (by decide) ?_
      refine sh_goto (pc := 767) (tgt := 18) dL_law_767 (by decide) ?_
      exact sh_O.locals h (sub_some (sub_some (sub_some (sub_some sub_nil))))
    replace h := h.2
    by_cases q_177 : ((I 0 (y3 + 1)) % 32) = 11
    · refine sh_tableIn (pc := 32) (k := 11) (tgt := 445) dL_law_32 q_177 (bd_lit (by decide)) (by decide) (by decide) rfl (by decide) ?_
      replace h := h.1 q_177
      refine sh_aload_n (pc := 445) dL_law_445 rfl rfl ?_
      refine g_V0i (pc := 446) is_1 dL_law_446 lk_L_63 rfl hcn h (fun v170 I168 h => ?_)
      refine sh_aload_n (pc := 449) dL_law_449 rfl rfl ?_
      refine g_V0i (pc := 450) is_119 dL_law_450 lk_L_66 rfl hcn h (fun v173 I171 h => ?_)
      obtain ⟨q_e, h⟩ := h
      refine sh_icmp_eqS (pc := 453) (tgt := 764) dL_law_453 (by decide) q_e ?_
      refine k_iinc (pc := 764) [some (.inr 0), some (.inr 1), some (.inr 119), some (.inl (y3 + 4))] dL_law_764 rfl rfl (by decide) ?_
      refine sh_goto (pc := 767) (tgt := 18) dL_law_767 (by decide) ?_
      exact sh_O.locals h (sub_some (sub_some (sub_some (sub_some sub_nil))))
    replace h := h.2
    by_cases q_187 : ((I 0 (y3 + 1)) % 32) = 12
    · refine sh_tableIn (pc := 32) (k := 12) (tgt := 458) dL_law_32 q_187 (bd_lit (by decide)) (by decide) (by decide) rfl (by decide) ?_
      replace h := h.1 q_187
      refine sh_aload_n (pc := 458) dL_law_458 rfl rfl ?_
      refine g_V0i (pc := 459) is_1 dL_law_459 lk_L_67 rfl hcn h (fun v180 I178 h => ?_)
      refine sh_aload_n (pc := 462) dL_law_462 rfl rfl ?_
      refine g_V0i (pc := 463) is_119 dL_law_463 lk_L_70 rfl hcn h (fun v183 I181 h => ?_)
      obtain ⟨q_e, h⟩ := h
      refine sh_icmp_eqS (pc := 466) (tgt := 764) dL_law_466 (by decide) q_e ?_
      refine k_iinc (pc := 764) [some (.inr 0), some (.inr 1), some (.inr 119), some (.inl (y3 + 4))] dL_law_764 rfl rfl (by decide) ?_
      refine sh_goto (pc := 767) (tgt := 18) dL_law_767 (by decide) ?_
      exact sh_O.locals h (sub_some (sub_some (sub_some (sub_some sub_nil))))
    replace h := h.2
    by_cases q_200 : ((I 0 (y3 + 1)) % 32) = 13
    · refine sh_tableIn (pc := 32) (k := 13) (tgt := 471) dL_law_32 q_200 (bd_lit (by decide)) (by decide) (by decide) rfl (by decide) ?_
      replace h := h.1 q_200
      refine sh_aload_n (pc := 471) dL_law_471 rfl rfl ?_
      refine sh_aload_n (pc := 472) dL_law_472 rfl rfl ?_
      refine sh_iload_n (pc := 473) dL_law_473 rfl rfl ?_
      refine sh_iconst (pc := 474) (v := 1) dL_law_474 rfl ?_
      refine sh_iadd (pc := 475) dL_law_475 ?_
      obtain ⟨hs_188, h⟩ := h
      refine sh_sld (pc := 476) dL_law_476 hs_188 hs_6 ?_
      refine sh_aload_n (pc := 477) dL_law_477 rfl rfl ?_
      refine sh_iload_n (pc := 478) dL_law_478 rfl rfl ?_
      refine sh_iconst (pc := 479) (v := 2) dL_law_479 rfl ?_
      refine sh_iadd (pc := 480) dL_law_480 ?_
      obtain ⟨hs_189, h⟩ := h
      refine sh_sld (pc := 481) dL_law_481 hs_189 hs_6 ?_
      refine g_V2i (pc := 482) is_1 dL_law_482 lk_L_71 rfl hcn h (fun v192 I190 h => ?_)
      refine sh_aload_n (pc := 485) dL_law_485 rfl rfl ?_
      refine sh_aload_n (pc := 486) dL_law_486 rfl rfl ?_
      refine sh_iload_n (pc := 487) dL_law_487 rfl rfl ?_
      refine sh_iconst (pc := 488) (v := 1) dL_law_488 rfl ?_
      refine sh_iadd (pc := 489) dL_law_489 ?_
      obtain ⟨hs_193, h⟩ := h
      refine sh_sld (pc := 490) dL_law_490 (by rw [hs_193.1]; exact hs_188) hs_193.2 ?_
      refine sh_aload_n (pc := 491) dL_law_491 rfl rfl ?_
      refine sh_iload_n (pc := 492) dL_law_492 rfl rfl ?_
      refine sh_iconst (pc := 493) (v := 2) dL_law_493 rfl ?_
      refine sh_iadd (pc := 494) dL_law_494 ?_
      refine sh_sld (pc := 495) dL_law_495 (by rw [hs_193.1]; exact hs_189) hs_193.2 ?_
      refine g_V2i (pc := 496) is_119 dL_law_496 lk_L_74 rfl hcn h (fun v196 I194 h => ?_)
      obtain ⟨q_e, h⟩ := h
      refine sh_icmp_eqS (pc := 499) (tgt := 764) dL_law_499 (by decide) q_e ?_
      refine k_iinc (pc := 764) [some (.inr 0), some (.inr 1), some (.inr 119), some (.inl (y3 + 4))] dL_law_764 rfl rfl (by decide) ?_
      refine sh_goto (pc := 767) (tgt := 18) dL_law_767 (by decide) ?_
      exact sh_O.locals h (sub_some (sub_some (sub_some (sub_some sub_nil))))
    replace h := h.2
    by_cases q_213 : ((I 0 (y3 + 1)) % 32) = 14
    · refine sh_tableIn (pc := 32) (k := 14) (tgt := 504) dL_law_32 q_213 (bd_lit (by decide)) (by decide) (by decide) rfl (by decide) ?_
      replace h := h.1 q_213
      refine sh_aload_n (pc := 504) dL_law_504 rfl rfl ?_
      refine sh_aload_n (pc := 505) dL_law_505 rfl rfl ?_
      refine sh_iload_n (pc := 506) dL_law_506 rfl rfl ?_
      refine sh_iconst (pc := 507) (v := 1) dL_law_507 rfl ?_
      refine sh_iadd (pc := 508) dL_law_508 ?_
      obtain ⟨hs_201, h⟩ := h
      refine sh_sld (pc := 509) dL_law_509 hs_201 hs_6 ?_
      refine sh_aload_n (pc := 510) dL_law_510 rfl rfl ?_
      refine sh_iload_n (pc := 511) dL_law_511 rfl rfl ?_
      refine sh_iconst (pc := 512) (v := 2) dL_law_512 rfl ?_
      refine sh_iadd (pc := 513) dL_law_513 ?_
      obtain ⟨hs_202, h⟩ := h
      refine sh_sld (pc := 514) dL_law_514 hs_202 hs_6 ?_
      refine g_V2i (pc := 515) is_1 dL_law_515 lk_L_75 rfl hcn h (fun v205 I203 h => ?_)
      refine sh_aload_n (pc := 518) dL_law_518 rfl rfl ?_
      refine sh_aload_n (pc := 519) dL_law_519 rfl rfl ?_
      refine sh_iload_n (pc := 520) dL_law_520 rfl rfl ?_
      refine sh_iconst (pc := 521) (v := 1) dL_law_521 rfl ?_
      refine sh_iadd (pc := 522) dL_law_522 ?_
      obtain ⟨hs_206, h⟩ := h
      refine sh_sld (pc := 523) dL_law_523 (by rw [hs_206.1]; exact hs_201) hs_206.2 ?_
      refine sh_aload_n (pc := 524) dL_law_524 rfl rfl ?_
      refine sh_iload_n (pc := 525) dL_law_525 rfl rfl ?_
      refine sh_iconst (pc := 526) (v := 2) dL_law_526 rfl ?_
      refine sh_iadd (pc := 527) dL_law_527 ?_
      refine sh_sld (pc := 528) dL_law_528 (by rw [hs_206.1]; exact hs_202) hs_206.2 ?_
      refine g_V2i (pc := 529) is_119 dL_law_529 lk_L_78 rfl hcn h (fun v209 I207 h => ?_)
      obtain ⟨q_e, h⟩ := h
      refine sh_icmp_eqS (pc := 532) (tgt := 764) dL_law_532 (by decide) q_e ?_
      refine k_iinc (pc := 764) [some (.inr 0), some (.inr 1), some (.inr 119), some (.inl (y3 + 4))] dL_law_764 rfl rfl (by decide) ?_
      refine sh_goto (pc := 767) (tgt := 18) dL_law_767 (by decide) ?_
      exact sh_O.locals h (sub_some (sub_some (sub_some (sub_some sub_nil))))
    replace h := h.2
    by_cases q_227 : ((I 0 (y3 + 1)) % 32) = 15
    · refine sh_tableIn (pc := 32) (k := 15) (tgt := 537) dL_law_32 q_227 (bd_lit (by decide)) (by decide) (by decide) rfl (by decide) ?_
      replace h := h.1 q_227
      refine sh_aload_n (pc := 537) dL_law_537 rfl rfl ?_
      refine sh_aload_n (pc := 538) dL_law_538 rfl rfl ?_
      refine sh_iload_n (pc := 539) dL_law_539 rfl rfl ?_
      refine sh_iconst (pc := 540) (v := 1) dL_law_540 rfl ?_
      refine sh_iadd (pc := 541) dL_law_541 ?_
      obtain ⟨hs_214, h⟩ := h
      refine sh_sld (pc := 542) dL_law_542 hs_214 hs_6 ?_
      refine sh_aload_n (pc := 543) dL_law_543 rfl rfl ?_
      refine sh_iload_n (pc := 544) dL_law_544 rfl rfl ?_
      refine sh_iconst (pc := 545) (v := 2) dL_law_545 rfl ?_
      refine sh_iadd (pc := 546) dL_law_546 ?_
      obtain ⟨hs_215, h⟩ := h
      refine sh_sld (pc := 547) dL_law_547 hs_215 hs_6 ?_
      refine sh_aload_n (pc := 548) dL_law_548 rfl rfl ?_
      refine sh_iload_n (pc := 549) dL_law_549 rfl rfl ?_
      refine sh_iconst (pc := 550) (v := 3) dL_law_550 rfl ?_
      refine sh_iadd (pc := 551) dL_law_551 ?_
      obtain ⟨hs_216, h⟩ := h
      refine sh_sld (pc := 552) dL_law_552 hs_216 hs_6 ?_
      refine g_V3i (pc := 553) is_1 dL_law_553 lk_L_79 rfl hcn h (fun v219 I217 h => ?_)
      refine sh_aload_n (pc := 556) dL_law_556 rfl rfl ?_
      refine sh_aload_n (pc := 557) dL_law_557 rfl rfl ?_
      refine sh_iload_n (pc := 558) dL_law_558 rfl rfl ?_
      refine sh_iconst (pc := 559) (v := 1) dL_law_559 rfl ?_
      refine sh_iadd (pc := 560) dL_law_560 ?_
      obtain ⟨hs_220, h⟩ := h
      refine sh_sld (pc := 561) dL_law_561 (by rw [hs_220.1]; exact hs_214) hs_220.2 ?_
      refine sh_aload_n (pc := 562) dL_law_562 rfl rfl ?_
      refine sh_iload_n (pc := 563) dL_law_563 rfl rfl ?_
      refine sh_iconst (pc := 564) (v := 2) dL_law_564 rfl ?_
      refine sh_iadd (pc := 565) dL_law_565 ?_
      refine sh_sld (pc := 566) dL_law_566 (by rw [hs_220.1]; exact hs_215) hs_220.2 ?_
      refine sh_aload_n (pc := 567) dL_law_567 rfl rfl ?_
      refine sh_iload_n (pc := 568) dL_law_568 rfl rfl ?_
      refine sh_iconst (pc := 569) (v := 3) dL_law_569 rfl ?_
      refine sh_iadd (pc := 570) dL_law_570 ?_
      refine sh_sld (pc := 571) dL_law_571 (by rw [hs_220.1]; exact hs_216) hs_220.2 ?_
      refine g_V3i (pc := 572) is_119 dL_law_572 lk_L_82 rfl hcn h (fun v223 I221 h => ?_)
      obtain ⟨q_e, h⟩ := h
      refine sh_icmp_eqS (pc := 575) (tgt := 764) dL_law_575 (by decide) q_e ?_
      refine k_iinc (pc := 764) [some (.inr 0), some (.inr 1), some (.inr 119), some (.inl (y3 + 4))] dL_law_764 rfl rfl (by decide) ?_
      refine sh_goto (pc := 767) (tgt := 18) dL_law_767 (by decide) ?_
      exact sh_O.locals h (sub_some (sub_some (sub_some (sub_some sub_nil))))
    replace h := h.2
    by_cases q_239 : ((I 0 (y3 + 1)) % 32) = 16
    · refine sh_tableIn (pc := 32) (k := 16) (tgt := 580) dL_law_32 q_239 (bd_lit (by decide)) (by decide) (by decide) rfl (by decide) ?_
      replace h := h.1 q_239
      refine sh_aload_n (pc := 580) dL_law_580 rfl rfl ?_
      refine sh_aload_n (pc := 581) dL_law_581 rfl rfl ?_
      refine sh_iload_n (pc := 582) dL_law_582 rfl rfl ?_
      refine sh_iconst (pc := 583) (v := 1) dL_law_583 rfl ?_
      refine sh_iadd (pc := 584) dL_law_584 ?_
      obtain ⟨hs_228, h⟩ := h
      refine sh_sld (pc := 585) dL_law_585 hs_228 hs_6 ?_
      refine g_V1i (pc := 586) is_1 dL_law_586 lk_L_83 rfl hcn h (fun v231 I229 h => ?_)
      refine sh_aload_n (pc := 589) dL_law_589 rfl rfl ?_
      refine sh_aload_n (pc := 590) dL_law_590 rfl rfl ?_
      refine sh_iload_n (pc := 591) dL_law_591 rfl rfl ?_
      refine sh_iconst (pc := 592) (v := 1) dL_law_592 rfl ?_
      refine sh_iadd (pc := 593) dL_law_593 ?_
      obtain ⟨hs_232, h⟩ := h
      refine sh_sld (pc := 594) dL_law_594 (by rw [hs_232.1]; exact hs_228) hs_232.2 ?_
      refine g_V1i (pc := 595) is_119 dL_law_595 lk_L_86 rfl hcn h (fun v235 I233 h => ?_)
      obtain ⟨q_e, h⟩ := h
      refine sh_icmp_eqS (pc := 598) (tgt := 764) dL_law_598 (by decide) q_e ?_
      refine k_iinc (pc := 764) [some (.inr 0), some (.inr 1), some (.inr 119), some (.inl (y3 + 4))] dL_law_764 rfl rfl (by decide) ?_
      refine sh_goto (pc := 767) (tgt := 18) dL_law_767 (by decide) ?_
      exact sh_O.locals h (sub_some (sub_some (sub_some (sub_some sub_nil))))
    replace h := h.2
    by_cases q_251 : ((I 0 (y3 + 1)) % 32) = 17
    · refine sh_tableIn (pc := 32) (k := 17) (tgt := 603) dL_law_32 q_251 (bd_lit (by decide)) (by decide) (by decide) rfl (by decide) ?_
      replace h := h.1 q_251
      refine sh_aload_n (pc := 603) dL_law_603 rfl rfl ?_
      refine sh_aload_n (pc := 604) dL_law_604 rfl rfl ?_
      refine sh_iload_n (pc := 605) dL_law_605 rfl rfl ?_
      refine sh_iconst (pc := 606) (v := 1) dL_law_606 rfl ?_
      refine sh_iadd (pc := 607) dL_law_607 ?_
      obtain ⟨hs_240, h⟩ := h
      refine sh_sld (pc := 608) dL_law_608 hs_240 hs_6 ?_
      refine g_V1i (pc := 609) is_1 dL_law_609 lk_L_87 rfl hcn h (fun v243 I241 h => ?_)
      refine sh_aload_n (pc := 612) dL_law_612 rfl rfl ?_
      refine sh_aload_n (pc := 613) dL_law_613 rfl rfl ?_
      refine sh_iload_n (pc := 614) dL_law_614 rfl rfl ?_
      refine sh_iconst (pc := 615) (v := 1) dL_law_615 rfl ?_
      refine sh_iadd (pc := 616) dL_law_616 ?_
      obtain ⟨hs_244, h⟩ := h
      refine sh_sld (pc := 617) dL_law_617 (by rw [hs_244.1]; exact hs_240) hs_244.2 ?_
      refine g_V1i (pc := 618) is_119 dL_law_618 lk_L_90 rfl hcn h (fun v247 I245 h => ?_)
      obtain ⟨q_e, h⟩ := h
      refine sh_icmp_eqS (pc := 621) (tgt := 764) dL_law_621 (by decide) q_e ?_
      refine k_iinc (pc := 764) [some (.inr 0), some (.inr 1), some (.inr 119), some (.inl (y3 + 4))] dL_law_764 rfl rfl (by decide) ?_
      refine sh_goto (pc := 767) (tgt := 18) dL_law_767 (by decide) ?_
      exact sh_O.locals h (sub_some (sub_some (sub_some (sub_some sub_nil))))
    replace h := h.2
    by_cases q_263 : ((I 0 (y3 + 1)) % 32) = 18
    · refine sh_tableIn (pc := 32) (k := 18) (tgt := 626) dL_law_32 q_263 (bd_lit (by decide)) (by decide) (by decide) rfl (by decide) ?_
      replace h := h.1 q_263
      refine sh_aload_n (pc := 626) dL_law_626 rfl rfl ?_
      refine sh_aload_n (pc := 627) dL_law_627 rfl rfl ?_
      refine sh_iload_n (pc := 628) dL_law_628 rfl rfl ?_
      refine sh_iconst (pc := 629) (v := 1) dL_law_629 rfl ?_
      refine sh_iadd (pc := 630) dL_law_630 ?_
      obtain ⟨hs_252, h⟩ := h
      refine sh_sld (pc := 631) dL_law_631 hs_252 hs_6 ?_
      refine g_V1i (pc := 632) is_1 dL_law_632 lk_L_91 rfl hcn h (fun v255 I253 h => ?_)
      refine sh_aload_n (pc := 635) dL_law_635 rfl rfl ?_
      refine sh_aload_n (pc := 636) dL_law_636 rfl rfl ?_
      refine sh_iload_n (pc := 637) dL_law_637 rfl rfl ?_
      refine sh_iconst (pc := 638) (v := 1) dL_law_638 rfl ?_
      refine sh_iadd (pc := 639) dL_law_639 ?_
      obtain ⟨hs_256, h⟩ := h
      refine sh_sld (pc := 640) dL_law_640 (by rw [hs_256.1]; exact hs_252) hs_256.2 ?_
      refine g_V1i (pc := 641) is_119 dL_law_641 lk_L_94 rfl hcn h (fun v259 I257 h => ?_)
      obtain ⟨q_e, h⟩ := h
      refine sh_icmp_eqS (pc := 644) (tgt := 764) dL_law_644 (by decide) q_e ?_
      refine k_iinc (pc := 764) [some (.inr 0), some (.inr 1), some (.inr 119), some (.inl (y3 + 4))] dL_law_764 rfl rfl (by decide) ?_
      refine sh_goto (pc := 767) (tgt := 18) dL_law_767 (by decide) ?_
      exact sh_O.locals h (sub_some (sub_some (sub_some (sub_some sub_nil))))
    replace h := h.2
    by_cases q_275 : ((I 0 (y3 + 1)) % 32) = 19
    · refine sh_tableIn (pc := 32) (k := 19) (tgt := 649) dL_law_32 q_275 (bd_lit (by decide)) (by decide) (by decide) rfl (by decide) ?_
      replace h := h.1 q_275
      refine sh_aload_n (pc := 649) dL_law_649 rfl rfl ?_
      refine sh_aload_n (pc := 650) dL_law_650 rfl rfl ?_
      refine sh_iload_n (pc := 651) dL_law_651 rfl rfl ?_
      refine sh_iconst (pc := 652) (v := 1) dL_law_652 rfl ?_
      refine sh_iadd (pc := 653) dL_law_653 ?_
      obtain ⟨hs_264, h⟩ := h
      refine sh_sld (pc := 654) dL_law_654 hs_264 hs_6 ?_
      refine g_V1i (pc := 655) is_1 dL_law_655 lk_L_95 rfl hcn h (fun v267 I265 h => ?_)
      refine sh_aload_n (pc := 658) dL_law_658 rfl rfl ?_
      refine sh_aload_n (pc := 659) dL_law_659 rfl rfl ?_
      refine sh_iload_n (pc := 660) dL_law_660 rfl rfl ?_
      refine sh_iconst (pc := 661) (v := 1) dL_law_661 rfl ?_
      refine sh_iadd (pc := 662) dL_law_662 ?_
      obtain ⟨hs_268, h⟩ := h
      refine sh_sld (pc := 663) dL_law_663 (by rw [hs_268.1]; exact hs_264) hs_268.2 ?_
      refine g_V1i (pc := 664) is_119 dL_law_664 lk_L_98 rfl hcn h (fun v271 I269 h => ?_)
      obtain ⟨q_e, h⟩ := h
      refine sh_icmp_eqS (pc := 667) (tgt := 764) dL_law_667 (by decide) q_e ?_
      refine k_iinc (pc := 764) [some (.inr 0), some (.inr 1), some (.inr 119), some (.inl (y3 + 4))] dL_law_764 rfl rfl (by decide) ?_
      refine sh_goto (pc := 767) (tgt := 18) dL_law_767 (by decide) ?_
      exact sh_O.locals h (sub_some (sub_some (sub_some (sub_some sub_nil))))
    replace h := h.2
    by_cases q_287 : ((I 0 (y3 + 1)) % 32) = 20
    · refine sh_tableIn (pc := 32) (k := 20) (tgt := 672) dL_law_32 q_287 (bd_lit (by decide)) (by decide) (by decide) rfl (by decide) ?_
      replace h := h.1 q_287
      refine sh_aload_n (pc := 672) dL_law_672 rfl rfl ?_
      refine sh_aload_n (pc := 673) dL_law_673 rfl rfl ?_
      refine sh_iload_n (pc := 674) dL_law_674 rfl rfl ?_
      refine sh_iconst (pc := 675) (v := 1) dL_law_675 rfl ?_
      refine sh_iadd (pc := 676) dL_law_676 ?_
      obtain ⟨hs_276, h⟩ := h
      refine sh_sld (pc := 677) dL_law_677 hs_276 hs_6 ?_
      refine g_V1i (pc := 678) is_1 dL_law_678 lk_L_99 rfl hcn h (fun v279 I277 h => ?_)
      refine sh_aload_n (pc := 681) dL_law_681 rfl rfl ?_
      refine sh_aload_n (pc := 682) dL_law_682 rfl rfl ?_
      refine sh_iload_n (pc := 683) dL_law_683 rfl rfl ?_
      refine sh_iconst (pc := 684) (v := 1) dL_law_684 rfl ?_
      refine sh_iadd (pc := 685) dL_law_685 ?_
      obtain ⟨hs_280, h⟩ := h
      refine sh_sld (pc := 686) dL_law_686 (by rw [hs_280.1]; exact hs_276) hs_280.2 ?_
      refine g_V1i (pc := 687) is_119 dL_law_687 lk_L_102 rfl hcn h (fun v283 I281 h => ?_)
      obtain ⟨q_e, h⟩ := h
      refine sh_icmp_eqS (pc := 690) (tgt := 764) dL_law_690 (by decide) q_e ?_
      refine k_iinc (pc := 764) [some (.inr 0), some (.inr 1), some (.inr 119), some (.inl (y3 + 4))] dL_law_764 rfl rfl (by decide) ?_
      refine sh_goto (pc := 767) (tgt := 18) dL_law_767 (by decide) ?_
      exact sh_O.locals h (sub_some (sub_some (sub_some (sub_some sub_nil))))
    replace h := h.2
    by_cases q_297 : ((I 0 (y3 + 1)) % 32) = 21
    · refine sh_tableIn (pc := 32) (k := 21) (tgt := 695) dL_law_32 q_297 (bd_lit (by decide)) (by decide) (by decide) rfl (by decide) ?_
      replace h := h.1 q_297
      refine sh_aload_n (pc := 695) dL_law_695 rfl rfl ?_
      refine g_V0i (pc := 696) is_1 dL_law_696 lk_L_103 rfl hcn h (fun v290 I288 h => ?_)
      refine sh_aload_n (pc := 699) dL_law_699 rfl rfl ?_
      refine g_V0i (pc := 700) is_119 dL_law_700 lk_L_106 rfl hcn h (fun v293 I291 h => ?_)
      obtain ⟨q_e, h⟩ := h
      refine sh_icmp_eqS (pc := 703) (tgt := 764) dL_law_703 (by decide) q_e ?_
      refine k_iinc (pc := 764) [some (.inr 0), some (.inr 1), some (.inr 119), some (.inl (y3 + 4))] dL_law_764 rfl rfl (by decide) ?_
      refine sh_goto (pc := 767) (tgt := 18) dL_law_767 (by decide) ?_
      exact sh_O.locals h (sub_some (sub_some (sub_some (sub_some sub_nil))))
    replace h := h.2
    by_cases q_310 : ((I 0 (y3 + 1)) % 32) = 22
    · refine sh_tableIn (pc := 32) (k := 22) (tgt := 708) dL_law_32 q_310 (bd_lit (by decide)) (by decide) (by decide) rfl (by decide) ?_
      replace h := h.1 q_310
      refine sh_aload_n (pc := 708) dL_law_708 rfl rfl ?_
      refine sh_aload_n (pc := 709) dL_law_709 rfl rfl ?_
      refine sh_iload_n (pc := 710) dL_law_710 rfl rfl ?_
      refine sh_iconst (pc := 711) (v := 1) dL_law_711 rfl ?_
      refine sh_iadd (pc := 712) dL_law_712 ?_
      obtain ⟨hs_298, h⟩ := h
      refine sh_sld (pc := 713) dL_law_713 hs_298 hs_6 ?_
      refine sh_aload_n (pc := 714) dL_law_714 rfl rfl ?_
      refine sh_iload_n (pc := 715) dL_law_715 rfl rfl ?_
      refine sh_iconst (pc := 716) (v := 2) dL_law_716 rfl ?_
      refine sh_iadd (pc := 717) dL_law_717 ?_
      obtain ⟨hs_299, h⟩ := h
      refine sh_sld (pc := 718) dL_law_718 hs_299 hs_6 ?_
      refine g_V2i (pc := 719) is_1 dL_law_719 lk_L_107 rfl hcn h (fun v302 I300 h => ?_)
      refine sh_aload_n (pc := 722) dL_law_722 rfl rfl ?_
      refine sh_aload_n (pc := 723) dL_law_723 rfl rfl ?_
      refine sh_iload_n (pc := 724) dL_law_724 rfl rfl ?_
      refine sh_iconst (pc := 725) (v := 1) dL_law_725 rfl ?_
      refine sh_iadd (pc := 726) dL_law_726 ?_
      obtain ⟨hs_303, h⟩ := h
      refine sh_sld (pc := 727) dL_law_727 (by rw [hs_303.1]; exact hs_298) hs_303.2 ?_
      refine sh_aload_n (pc := 728) dL_law_728 rfl rfl ?_
      refine sh_iload_n (pc := 729) dL_law_729 rfl rfl ?_
      refine sh_iconst (pc := 730) (v := 2) dL_law_730 rfl ?_
      refine sh_iadd (pc := 731) dL_law_731 ?_
      refine sh_sld (pc := 732) dL_law_732 (by rw [hs_303.1]; exact hs_299) hs_303.2 ?_
      refine g_V2i (pc := 733) is_119 dL_law_733 lk_L_110 rfl hcn h (fun v306 I304 h => ?_)
      obtain ⟨q_e, h⟩ := h
      refine sh_icmp_eqS (pc := 736) (tgt := 764) dL_law_736 (by decide) q_e ?_
      refine k_iinc (pc := 764) [some (.inr 0), some (.inr 1), some (.inr 119), some (.inl (y3 + 4))] dL_law_764 rfl rfl (by decide) ?_
      refine sh_goto (pc := 767) (tgt := 18) dL_law_767 (by decide) ?_
      exact sh_O.locals h (sub_some (sub_some (sub_some (sub_some sub_nil))))
    replace h := h.2
    by_cases q_322 : ((I 0 (y3 + 1)) % 32) = 23
    · refine sh_tableIn (pc := 32) (k := 23) (tgt := 741) dL_law_32 q_322 (bd_lit (by decide)) (by decide) (by decide) rfl (by decide) ?_
      replace h := h.1 q_322
      refine sh_aload_n (pc := 741) dL_law_741 rfl rfl ?_
      refine sh_aload_n (pc := 742) dL_law_742 rfl rfl ?_
      refine sh_iload_n (pc := 743) dL_law_743 rfl rfl ?_
      refine sh_iconst (pc := 744) (v := 1) dL_law_744 rfl ?_
      refine sh_iadd (pc := 745) dL_law_745 ?_
      obtain ⟨hs_311, h⟩ := h
      refine sh_sld (pc := 746) dL_law_746 hs_311 hs_6 ?_
      refine g_V1i (pc := 747) is_1 dL_law_747 lk_L_111 rfl hcn h (fun v314 I312 h => ?_)
      refine sh_aload_n (pc := 750) dL_law_750 rfl rfl ?_
      refine sh_aload_n (pc := 751) dL_law_751 rfl rfl ?_
      refine sh_iload_n (pc := 752) dL_law_752 rfl rfl ?_
      refine sh_iconst (pc := 753) (v := 1) dL_law_753 rfl ?_
      refine sh_iadd (pc := 754) dL_law_754 ?_
      obtain ⟨hs_315, h⟩ := h
      refine sh_sld (pc := 755) dL_law_755 (by rw [hs_315.1]; exact hs_311) hs_315.2 ?_
      refine g_V1i (pc := 756) is_119 dL_law_756 lk_L_114 rfl hcn h (fun v318 I316 h => ?_)
      obtain ⟨q_e, h⟩ := h
      refine sh_icmp_eqS (pc := 759) (tgt := 764) dL_law_759 (by decide) q_e ?_
      refine k_iinc (pc := 764) [some (.inr 0), some (.inr 1), some (.inr 119), some (.inl (y3 + 4))] dL_law_764 rfl rfl (by decide) ?_
      refine sh_goto (pc := 767) (tgt := 18) dL_law_767 (by decide) ?_
      exact sh_O.locals h (sub_some (sub_some (sub_some (sub_some sub_nil))))
    replace h := h.2
    have q_323 : ((I 0 (y3 + 1)) % 32) < 0 ∨ 23 < ((I 0 (y3 + 1)) % 32) := by omega
    refine sh_tableOut (pc := 32) (tgt := 764) dL_law_32 hb_7 q_323 (by decide) ?_
    replace h := h q_323
    refine k_iinc (pc := 764) [some (.inr 0), some (.inr 1), some (.inr 119), some (.inl (y3 + 4))] dL_law_764 rfl rfl (by decide) ?_
    refine sh_goto (pc := 767) (tgt := 18) dL_law_767 (by decide) ?_
    exact sh_O.locals h (sub_some (sub_some (sub_some (sub_some sub_nil))))
