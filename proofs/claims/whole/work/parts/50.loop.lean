/-! ===== 50: the law's loop, to its end ===== -/
theorem law_loop {CN : Nat × Nat} (hcn : CN.1 ≤ 600000 ∧ CN.2 ≤ 7302249) {S : Int → Int} (h0 : 0 ≤ S 0 ∧ S 0 ≤ 2048) (hS : ∀ k, sh_Bd (S k)) : ∀ (n : Nat) (y : Int) (I : sh_Mem), Inv I → I 0 = S → 0 ≤ y → S 0 - y < (n : Int) → y ≤ 4000 → sh_O mL_law 18 [some (.inr 0), some (.inr 1), some (.inr 119), some (.inl y)] [] CN (sh_S I) (qi fun v _ => v = 1) := by
  intro n
  induction n with
  | zero =>
    intro y I hI eS y0 yn yb
    refine lL_law_18 hcn ⟨by rw [eS]; omega, bdi (by omega), by rw [eS]; exact bdi (by omega), fun _ => rfl, fun q => ?_⟩
    rw [eS] at q
    omega
  | succ n ih =>
    intro y I hI eS y0 yn yb
    refine lL_law_18 hcn ⟨by rw [eS]; omega, bdi (by omega), by rw [eS]; exact bdi (by omega), fun _ => rfl, fun q => ?_⟩
    have e0 : I 0 0 = S 0 := by rw [eS]
    have hb : ∀ k, sh_Bd (I 0 k) := fun k => by rw [eS]; exact hS k
    have next : ∀ K, Inv K → K 0 = I 0 → sh_O mL_law 18 [some (.inr 0), some (.inr 1), some (.inr 119), some (.inl (y + 4))] [] CN (sh_S K) (qi fun v _ => v = 1) := fun K hK eK => ih (y + 4) K hK (eK.trans eS) (by omega) (by omega) (by omega)
    have w1 : 0 ≤ y + 1 ∧ y + 1 < I 0 0 := by omega
    have w2 : 0 ≤ y + 2 ∧ y + 2 < I 0 0 := by omega
    have w3 : 0 ≤ y + 3 ∧ y + 3 < I 0 0 := by omega
    refine ⟨by omega, by omega, bdi (by omega), fun _ => ?_, fun _ => ?_, fun _ => ?_, fun _ => ?_, fun _ => ?_, fun _ => ?_, fun _ => ?_, fun _ => ?_, fun _ => ?_, fun _ => ?_, fun _ => ?_, fun _ => ?_, fun _ => ?_, fun _ => ?_, fun _ => ?_, fun _ => ?_, fun _ => ?_, fun _ => ?_, fun _ => ?_, fun _ => ?_, fun _ => ?_, fun _ => ?_, fun _ => ?_, fun _ => ?_, fun _ => next I hI rfl⟩
    · refine ⟨w1, w2, ci_mono (b_come hI (hb _) (hb _) (fun r1 r2 K => r1 = r2 ∧ sh_O mL_law 18 [some (.inr 0), some (.inr 1), some (.inr 119), some (.inl (y + 4))] [] CN (sh_S K) (qi fun v _ => v = 1)) (fun r K hK hK0 => ⟨rfl, next K hK hK0⟩)) (fun v J c => ?_)⟩
      obtain ⟨hj, c⟩ := c
      rw [hj]
      exact ⟨⟨rfl, by omega⟩, c⟩
    · refine ⟨w1, w2, ci_mono (b_head hI (hb _) (hb _) (fun r1 r2 K => r1 = r2 ∧ sh_O mL_law 18 [some (.inr 0), some (.inr 1), some (.inr 119), some (.inl (y + 4))] [] CN (sh_S K) (qi fun v _ => v = 1)) (fun r K hK hK0 => ⟨rfl, next K hK hK0⟩)) (fun v J c => ?_)⟩
      obtain ⟨hj, c⟩ := c
      rw [hj]
      exact ⟨⟨rfl, by omega⟩, c⟩
    · refine ⟨w1, w2, hb _, fun q0 => ci_mono (b_light hI (hb _) (Or.inl rfl) (fun r1 r2 K => r1 = r2 ∧ sh_O mL_law 18 [some (.inr 0), some (.inr 1), some (.inr 119), some (.inl (y + 4))] [] CN (sh_S K) (qi fun v _ => v = 1)) (fun r K hK hK0 => ⟨rfl, next K hK hK0⟩)) (fun v J c => ?_), fun q0 => ci_mono (b_light hI (hb _) (Or.inr rfl) (fun r1 r2 K => r1 = r2 ∧ sh_O mL_law 18 [some (.inr 0), some (.inr 1), some (.inr 119), some (.inl (y + 4))] [] CN (sh_S K) (qi fun v _ => v = 1)) (fun r K hK hK0 => ⟨rfl, next K hK hK0⟩)) (fun v J c => ?_)⟩
      · obtain ⟨hj, c⟩ := c
        rw [hj]
        exact ⟨⟨rfl, by omega⟩, hb _, fun _ => c, fun q1 => absurd q0 q1⟩
      · obtain ⟨hj, c⟩ := c
        rw [hj]
        exact ⟨⟨rfl, by omega⟩, hb _, fun q1 => absurd q1 q0, fun _ => c⟩
    · refine ⟨w1, w2, w3, ci_mono (b_setLamp hI (hb _) (hb _) (hb _) (fun r1 r2 K => r1 = r2 ∧ sh_O mL_law 18 [some (.inr 0), some (.inr 1), some (.inr 119), some (.inl (y + 4))] [] CN (sh_S K) (qi fun v _ => v = 1)) (fun r K hK hK0 => ⟨rfl, next K hK hK0⟩)) (fun v J c => ?_)⟩
      obtain ⟨hj, c⟩ := c
      rw [hj]
      exact ⟨⟨rfl, by omega⟩, c⟩
    · refine ⟨w1, w2, ci_mono (b_set hI (hb _) (hb _) (fun r1 r2 K => r1 = r2 ∧ sh_O mL_law 18 [some (.inr 0), some (.inr 1), some (.inr 119), some (.inl (y + 4))] [] CN (sh_S K) (qi fun v _ => v = 1)) (fun r K hK hK0 => ⟨rfl, next K hK hK0⟩)) (fun v J c => ?_)⟩
      obtain ⟨hj, c⟩ := c
      rw [hj]
      exact ⟨⟨rfl, by omega⟩, c⟩
    · refine ⟨w1, ci_mono (b_pass hI (hb _) (fun r1 r2 K => r1 = r2 ∧ sh_O mL_law 18 [some (.inr 0), some (.inr 1), some (.inr 119), some (.inl (y + 4))] [] CN (sh_S K) (qi fun v _ => v = 1)) (fun r K hK hK0 => ⟨rfl, next K hK hK0⟩)) (fun v J c => ?_)⟩
      obtain ⟨hj, c⟩ := c
      rw [hj]
      exact ⟨⟨rfl, by omega⟩, c⟩
    · refine ⟨w1, ci_mono (b_type hI (by omega) (fun r1 r2 K => r1 = r2 ∧ sh_O mL_law 18 [some (.inr 0), some (.inr 1), some (.inr 119), some (.inl (y + 4))] [] CN (sh_S K) (qi fun v _ => v = 1)) (fun r K hK hK0 => ⟨rfl, next K hK hK0⟩)) (fun v J c => ?_)⟩
      obtain ⟨hj, c⟩ := c
      rw [hj]
      exact ⟨⟨rfl, by omega⟩, c⟩
    · exact ci_mono (b_clearText hI  (fun r1 r2 K => r1 = r2 ∧ sh_O mL_law 18 [some (.inr 0), some (.inr 1), some (.inr 119), some (.inl (y + 4))] [] CN (sh_S K) (qi fun v _ => v = 1)) (fun r K hK hK0 => ⟨rfl, next K hK hK0⟩)) (fun v J c => c.2)
    · exact ci_mono (b_perform hI  (fun r1 r2 K => r1 = r2 ∧ sh_O mL_law 18 [some (.inr 0), some (.inr 1), some (.inr 119), some (.inl (y + 4))] [] CN (sh_S K) (qi fun v _ => v = 1)) (fun r K hK hK0 => ⟨rfl, next K hK hK0⟩)) (fun v J c => c.2)
    · refine ⟨w1, ci_mono (b_stopped hI (hb _) (fun r1 r2 K => r1 = r2 ∧ sh_O mL_law 18 [some (.inr 0), some (.inr 1), some (.inr 119), some (.inl (y + 4))] [] CN (sh_S K) (qi fun v _ => v = 1)) (fun r K hK hK0 => ⟨rfl, next K hK hK0⟩)) (fun v J c => ?_)⟩
      obtain ⟨hj, c⟩ := c
      rw [hj]
      exact ⟨⟨rfl, by omega⟩, c⟩
    · exact ci_mono (b_undo hI  (fun r1 r2 K => r1 = r2 ∧ sh_O mL_law 18 [some (.inr 0), some (.inr 1), some (.inr 119), some (.inl (y + 4))] [] CN (sh_S K) (qi fun v _ => v = 1)) (fun r K hK hK0 => ⟨rfl, next K hK hK0⟩)) (fun v J c => c.2)
    · exact ci_mono (b_keep hI  (fun r1 r2 K => r1 = r2 ∧ sh_O mL_law 18 [some (.inr 0), some (.inr 1), some (.inr 119), some (.inl (y + 4))] [] CN (sh_S K) (qi fun v _ => v = 1)) (fun r K hK hK0 => ⟨rfl, next K hK hK0⟩)) (fun v J c => c.2)
    · exact ci_mono (b_restore hI  (fun r1 r2 K => r1 = r2 ∧ sh_O mL_law 18 [some (.inr 0), some (.inr 1), some (.inr 119), some (.inl (y + 4))] [] CN (sh_S K) (qi fun v _ => v = 1)) (fun r K hK hK0 => ⟨rfl, next K hK hK0⟩)) (fun v J c => c.2)
    · refine ⟨w1, w2, ci_mono (b_runner hI (hb _) (hb _) (fun r1 r2 K => r1 = r2 ∧ sh_O mL_law 18 [some (.inr 0), some (.inr 1), some (.inr 119), some (.inl (y + 4))] [] CN (sh_S K) (qi fun v _ => v = 1)) (fun r K hK hK0 => ⟨rfl, next K hK hK0⟩)) (fun v J c => ?_)⟩
      obtain ⟨hj, c⟩ := c
      rw [hj]
      exact ⟨⟨rfl, by omega⟩, c⟩
    · refine ⟨w1, w2, ci_mono (b_lamp hI (hb _) (hb _) (fun r1 r2 K => r1 = r2 ∧ sh_O mL_law 18 [some (.inr 0), some (.inr 1), some (.inr 119), some (.inl (y + 4))] [] CN (sh_S K) (qi fun v _ => v = 1)) (fun r K hK hK0 => ⟨rfl, next K hK hK0⟩)) (fun v J c => ?_)⟩
      obtain ⟨hj, c⟩ := c
      rw [hj]
      exact ⟨⟨rfl, by omega⟩, c⟩
    · refine ⟨w1, w2, w3, ci_mono (b_shadow hI (hb _) (hb _) (hb _) (fun r1 r2 K => r1 = r2 ∧ sh_O mL_law 18 [some (.inr 0), some (.inr 1), some (.inr 119), some (.inl (y + 4))] [] CN (sh_S K) (qi fun v _ => v = 1)) (fun r K hK hK0 => ⟨rfl, next K hK hK0⟩)) (fun v J c => ?_)⟩
      obtain ⟨hj, c⟩ := c
      rw [hj]
      exact ⟨⟨rfl, by omega⟩, c⟩
    · refine ⟨w1, ci_mono (b_darkness hI (hb _) (fun r1 r2 K => r1 = r2 ∧ sh_O mL_law 18 [some (.inr 0), some (.inr 1), some (.inr 119), some (.inl (y + 4))] [] CN (sh_S K) (qi fun v _ => v = 1)) (fun r K hK hK0 => ⟨rfl, next K hK hK0⟩)) (fun v J c => ?_)⟩
      obtain ⟨hj, c⟩ := c
      rw [hj]
      exact ⟨⟨rfl, by omega⟩, c⟩
    · refine ⟨w1, ci_mono (b_looked hI (hb _) (fun r1 r2 K => r1 = r2 ∧ sh_O mL_law 18 [some (.inr 0), some (.inr 1), some (.inr 119), some (.inl (y + 4))] [] CN (sh_S K) (qi fun v _ => v = 1)) (fun r K hK hK0 => ⟨rfl, next K hK hK0⟩)) (fun v J c => ?_)⟩
      obtain ⟨hj, c⟩ := c
      rw [hj]
      exact ⟨⟨rfl, by omega⟩, c⟩
    · refine ⟨w1, ci_mono (b_at hI (hb _) (fun r1 r2 K => r1 = r2 ∧ sh_O mL_law 18 [some (.inr 0), some (.inr 1), some (.inr 119), some (.inl (y + 4))] [] CN (sh_S K) (qi fun v _ => v = 1)) (fun r K hK hK0 => ⟨rfl, next K hK hK0⟩)) (fun v J c => ?_)⟩
      obtain ⟨hj, c⟩ := c
      rw [hj]
      exact ⟨⟨rfl, by omega⟩, c⟩
    · refine ⟨w1, ci_mono (b_reason hI (hb _) (fun r1 r2 K => r1 = r2 ∧ sh_O mL_law 18 [some (.inr 0), some (.inr 1), some (.inr 119), some (.inl (y + 4))] [] CN (sh_S K) (qi fun v _ => v = 1)) (fun r K hK hK0 => ⟨rfl, next K hK hK0⟩)) (fun v J c => ?_)⟩
      obtain ⟨hj, c⟩ := c
      rw [hj]
      exact ⟨⟨rfl, by omega⟩, c⟩
    · refine ⟨w1, ci_mono (b_stepsTo hI (hb _) (fun r1 r2 K => r1 = r2 ∧ sh_O mL_law 18 [some (.inr 0), some (.inr 1), some (.inr 119), some (.inl (y + 4))] [] CN (sh_S K) (qi fun v _ => v = 1)) (fun r K hK hK0 => ⟨rfl, next K hK hK0⟩)) (fun v J c => ?_)⟩
      obtain ⟨hj, c⟩ := c
      rw [hj]
      exact ⟨⟨rfl, by omega⟩, c⟩
    · exact ci_mono (b_safest hI  (fun r1 r2 K => r1 = r2 ∧ sh_O mL_law 18 [some (.inr 0), some (.inr 1), some (.inr 119), some (.inl (y + 4))] [] CN (sh_S K) (qi fun v _ => v = 1)) (fun r K hK hK0 => ⟨rfl, next K hK hK0⟩)) (fun v J c => c.2)
    · refine ⟨w1, w2, ci_mono (b_ifTurns hI (hb _) (hb _) (fun r1 r2 K => r1 = r2 ∧ sh_O mL_law 18 [some (.inr 0), some (.inr 1), some (.inr 119), some (.inl (y + 4))] [] CN (sh_S K) (qi fun v _ => v = 1)) (fun r K hK hK0 => ⟨rfl, next K hK hK0⟩)) (fun v J c => ?_)⟩
      obtain ⟨hj, c⟩ := c
      rw [hj]
      exact ⟨⟨rfl, by omega⟩, c⟩
    · refine ⟨w1, ci_mono (b_count hI (hb _) (fun r1 r2 K => r1 = r2 ∧ sh_O mL_law 18 [some (.inr 0), some (.inr 1), some (.inr 119), some (.inl (y + 4))] [] CN (sh_S K) (qi fun v _ => v = 1)) (fun r K hK hK0 => ⟨rfl, next K hK hK0⟩)) (fun v J c => ?_)⟩
      obtain ⟨hj, c⟩ := c
      rw [hj]
      exact ⟨⟨rfl, by omega⟩, c⟩
