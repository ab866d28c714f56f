/-! ===== 55: any act, by the class and by the law ===== -/
theorem AC_up {v : Vw} {j : Nat} {r x : Int} (hj : 1 ≤ j ∧ j ≤ 8) (h : AC v) : AC (up v j r x) := by
  refine h.same ?_ ?_ (fun i => ?_) (fun i => ?_) (fun i => ?_) <;> exact up_ne (by omega)
theorem t_acts {c : sh_Cx} (hx : cx c) {G L N : Nat} (hG : dy c G 42) (hL : dy c L 12) (hN : dy c N 9) (d : ap G L N) {x5 x6 : Int} {I : sh_Mem} {Q : Int → sh_Mem → Prop} {v : Vw} (hb : sh_Bd x5) (hI : CI I v) (e : LV I G L N v) (hA : AC v) (hz : v 0 6 = 0 → I N 1 = 0) (hkind : ¬ x5 = 0 → 1 ≤ v 0 6) (ht9 : v 0 0 ≤ 90000) (h : ∀ K w, Wd G L N I v K w → Q 1 K) : cl c mL_acts [.inr 1, .inr G, .inr L, .inr N, .inl x5, .inl x6] I (li c Q) := by
  have fr : 119 ≤ G ∧ 119 ≤ L ∧ 119 ≤ N := ⟨hG.ge, hL.ge, hN.ge⟩
  have hB : WB v := hI.2.1
  have hv := hB.1
  have hm := hv.many
  have h00 := hv.2.2.2.2.2.2.2.1
  have e8 := e.n8
  -- the class has done what the law has written
  have fin : ∀ (K : sh_Mem) (w : Vw) (J : sh_Mem), 1 ≤ v 0 6 → (∀ o, o < 119 → K o = I o) → LV K G L N w → AC w → w 0 0 ≤ v 0 0 + 40 → w 0 6 = v 0 6 → CI (mxM J K) w → (∀ k, k = 0 ∨ 119 ≤ k → mxM J K k = K k) → Wd G L N I v (mxM J K) w := fun K w J a1 a2 a3 a4 a5 a6 a7 a8 =>
    ⟨a7, a3.same (a8 G (Or.inr fr.1)) (a8 L (Or.inr fr.2.1)) (a8 N (Or.inr fr.2.2)), by rw [a8 0 (Or.inl rfl)]; exact a2 0 (by decide), a4, a5, by omega⟩
  have at156 : ∀ (r dd z2 : Int), isr v r → (-1 ≤ dd ∧ dd ≤ 3) → z2 = hw dd → kl c (0, 0) mL_acts 156 [some (.inr 1), some (.inr G), none, none, none, none, none, some (.inl r), some (.inl dd), some (.inl (I G ((7 * r) + 2))), none, none, none, none, none, none, none, none] [.inl z2, .inl ((7 * r) + 2), .inr G] I (qli c Q) := by
    intro r dd z2 hr hd hz2
    have hr6 := isr_bd hv hr
    have hr1 := hr.1
    have hr2 := hr.2
    have h8 := (hv.2.2.1 r hr1 hr2).2.2.1
    have hwb : 0 ≤ hw dd ∧ hw dd ≤ 4 := by
      unfold hw
      split <;> omega
    subst hz2
    have eW : LV (sh_u I G ((7 * r) + 2) (hw dd)) G L N (up v 8 r (hw dd)) := e.wg d 8 (by decide) hr6 (by omega) rfl
    have hK : CI (sh_u I G ((7 * r) + 2) (hw dd)) v := hI.off (fun o ho => sh_u_ne (by omega))
    have o1 : ∀ o, o < 119 → sh_u I G ((7 * r) + 2) (hw dd) o = I o := fun o ho => sh_u_ne (by omega)
    have a := a_head (c := r) (x := dd) hK (bdi (by omega)) (bdi (by omega))
    obtain ⟨cb, cw, cf⟩ := headF_ok (r := r) (d := dd) hB
    have hself : sh_u I G ((7 * r) + 2) (hw dd) G ((7 * r) + 2) = hw dd := by simp [sh_u]
    refine lL_acts_156 hx hG hL hN ⟨by omega, ?_⟩
    rw [e.g2 hr6]
    have hn1 : ¬ ¬ (0 ≤ r ∧ r < v 0 6) := fun q => q hr
    have hn2 : ¬ ¬ (-1 ≤ dd ∧ dd ≤ 3) := fun q => q hd
    by_cases z : v 8 r = hw dd
    · have ef : headF v r dd = (-5, v) := by
        unfold headF
        rw [if_neg hn1, if_neg hn2, if_pos z]
      rw [ef] at a cw cf
      rw [← z, up_self] at eW
      rw [z] at eW
      refine a.law hK cw cf (fun J j1 j2 => ⟨by omega, ?_⟩)
      rw [j2 G (Or.inr fr.1), hself]
      exact okk z (okk rfl (h _ _ (fin _ v J (by omega) o1 eW hA (by omega) rfl j1 j2)))
    · have ef : headF v r dd = (v 8 r, up v 8 r (hw dd)) := by
        unfold headF
        rw [if_neg hn1, if_neg hn2, if_neg z]
      rw [ef] at a cw cf
      refine a.law hK cw cf (fun J j1 j2 => ⟨by omega, ?_⟩)
      rw [j2 G (Or.inr fr.1), hself]
      exact ⟨Or.inr ⟨bdi (by omega), bdi (by omega)⟩, fun _ => okk rfl (h _ _ (fin _ _ J (by omega) o1 eW (AC_up (by decide) hA) (by rw [up_ne (by omega)]; omega) (up_ne (by omega)) j1 j2)), fun q => absurd q z⟩
  have at249 : ∀ (l b : Int), 1 ≤ v 0 6 → (0 ≤ l ∧ l < 3) → (b = 0 ∨ b = 1) → kl c (0, 0) mL_acts 249 [none, none, some (.inr L), none, none, none, some (.inl l), none, none, none, some (.inl (I L ((4 * l) + 3))), none, none, none, none, none, none, none] [.inl b, .inl l, .inr 1] (sh_u I L ((4 * l) + 3) b) (qli c Q) := by
    intro l b h1 hl hb
    have h5 := (hv.2.2.2.2.1 l hl.1 hl.2).2.2.2
    have eW : LV (sh_u I L ((4 * l) + 3) b) G L N (up v 5 l b) := e.wl d 5 (by decide) hl (by omega) rfl
    have hK : CI (sh_u I L ((4 * l) + 3) b) v := hI.off (fun o ho => sh_u_ne (by omega))
    have o1 : ∀ o, o < 119 → sh_u I L ((4 * l) + 3) b o = I o := fun o ho => sh_u_ne (by omega)
    have a := a_light (l := l) (on := b) hK (bdi (by omega)) hb
    obtain ⟨cb, cw, cf⟩ := lightF_ok (l := l) (on := b) hB (by omega)
    have hself : sh_u I L ((4 * l) + 3) b L ((4 * l) + 3) = b := by simp [sh_u]
    refine lL_acts_249 hx hG hL hN ?_
    rw [e.l3 hl]
    have hn1 : ¬ ¬ (0 ≤ l ∧ l < 3) := fun q => q hl
    by_cases z : v 5 l = b
    · have ef : lightF v l b = (-5, v) := by
        unfold lightF
        rw [if_neg hn1, if_pos z]
      rw [ef] at a cw cf
      rw [← z, up_self] at eW
      rw [z] at eW
      refine a.law hK cw cf (fun J j1 j2 => ⟨by omega, ?_⟩)
      rw [j2 L (Or.inr fr.2.1), hself]
      exact okk z (okk rfl (h _ _ (fin _ v J h1 o1 eW hA (by omega) rfl j1 j2)))
    · have ef : lightF v l b = (brn (up v 5 l b), up v 5 l b) := by
        unfold lightF
        rw [if_neg hn1, if_neg z]
      rw [ef] at a cw cf
      refine a.law hK cw cf (fun J j1 j2 => ⟨by omega, ?_⟩)
      rw [j2 L (Or.inr fr.2.1), hself]
      exact ⟨Or.inr ⟨bdi (by omega), bdi (by omega)⟩, fun _ => okk eW.b.symm (h _ _ (fin _ _ J h1 o1 eW (AC_up (by decide) hA) (by rw [up_ne (by omega)]; omega) (up_ne (by omega)) j1 j2)), fun q => absurd q z⟩
  have h1 : ¬ x5 = 0 → 1 ≤ v 0 6 := hkind
  have at365 : ¬ x5 = 0 → ∀ (l w x : Int), (0 ≤ l ∧ l < 3) → (0 ≤ w ∧ w < 3) → ((w = 0 ∧ 0 ≤ x ∧ x ≤ 3) ∨ (w = 1 ∧ 1 ≤ x ∧ x ≤ 4) ∨ (w = 2 ∧ 0 ≤ x ∧ x ≤ 9)) → kl c (0, 0) mL_acts 365 [some (.inr 1), none, some (.inr L), none, none, none, some (.inl l), none, none, none, none, some (.inl w), some (.inl (I L ((4 * l) + w))), none, none, none, none, none] [.inl x, .inl ((4 * l) + w), .inr L] I (qli c Q) := by
    intro h0 l w x hl hw3 hok
    have h1 := hkind h0
    have hlw := hv.2.2.2.2.1 l hl.1 hl.2
    have hj : (slj w : Int) = 2 + w ∧ 2 ≤ slj w ∧ slj w ≤ 4 := by
      unfold slj
      split
      · omega
      · split <;> omega
    have hold : I L ((4 * l) + w) = v (slj w) l := by
      have := e.l (slj w) (by omega) hl
      rw [show 4 * l + ((slj w : Int) - 2) = 4 * l + w by omega] at this
      exact this
    have hob : 0 ≤ v (slj w) l ∧ v (slj w) l ≤ 9 := by
      unfold slj
      split
      · omega
      · split <;> omega
    have eW : LV (sh_u I L ((4 * l) + w) x) G L N (up v (slj w) l x) := e.wl d (slj w) (by omega) hl (by omega) rfl
    have hK : CI (sh_u I L ((4 * l) + w) x) v := hI.off (fun o ho => sh_u_ne (by omega))
    have o1 : ∀ o, o < 119 → sh_u I L ((4 * l) + w) x o = I o := fun o ho => sh_u_ne (by omega)
    have hself : sh_u I L ((4 * l) + w) x L ((4 * l) + w) = x := by simp [sh_u]
    have a := a_setLamp (l := l) (w := w) (x := x) hK (bdi (by omega)) (bdi (by omega)) (bdi (by omega))
    obtain ⟨cb, cw, cf⟩ := setLF_ok (l := l) (w := w) (x := x) hB
    refine lL_acts_365 hx hG hL hN ⟨by omega, by omega, ?_⟩
    rw [hold, hself]
    have hn1 : ¬ ¬ (0 ≤ l ∧ l < 3) := fun q => q hl
    have hn2 := fun q : ¬ ((w = 0 ∧ 0 ≤ x ∧ x ≤ 3) ∨ (w = 1 ∧ 1 ≤ x ∧ x ≤ 4) ∨ (w = 2 ∧ 0 ≤ x ∧ x ≤ 9)) => q hok
    by_cases z : v (slj w) l = x
    · have ef : setLF v l w x = (-5, v) := by
        unfold setLF
        rw [if_neg hn1, if_neg hn2, if_pos z]
      rw [ef] at a cw cf
      rw [← z, up_self] at eW
      rw [z] at eW
      refine a.law hK cw cf (fun J j1 j2 => ?_)
      rw [j2 L (Or.inr fr.2.1), hself]
      exact okk z (okk rfl (h _ _ (fin _ v J h1 o1 eW hA (by omega) rfl j1 j2)))
    · have ef : setLF v l w x = (v (slj w) l, up v (slj w) l x) := by
        unfold setLF
        rw [if_neg hn1, if_neg hn2, if_neg z]
      rw [ef] at a cw cf
      refine a.law hK cw cf (fun J j1 j2 => ?_)
      rw [j2 L (Or.inr fr.2.1), hself]
      exact ⟨Or.inr ⟨bdi (by omega), bdi (by omega)⟩, fun _ => okk rfl (h _ _ (fin _ _ J h1 o1 eW (AC_up (by omega) hA) (by rw [up_ne (by omega)]; omega) (up_ne (by omega)) j1 j2)), fun q => absurd q z⟩
  have at516 : ¬ x5 = 0 → ∀ (t : Nat), 1 ≤ t → t ≤ 40 → kl c (0, 0) mL_acts 516 [some (.inr 1), some (.inr G), some (.inr L), some (.inr N), none, none, none, none, none, none, none, none, none, none, none, some (.inl (t : Int)), some (.inl (I N 2)), some (.inl 0)] [] I (qli c Q) := by
    intro h0 t t1 t2
    have h1 := hkind h0
    have key : ∀ (n m : Nat) (K : sh_Mem), m + n = t → (∀ o, o < 119 → K o = I o) → LV K G L N (tuN v m) → kl c (0, 0) mL_acts 516 [some (.inr 1), some (.inr G), some (.inr L), some (.inr N), none, none, none, none, none, none, none, none, none, none, none, some (.inl (t : Int)), some (.inl (I N 2)), some (.inl (m : Int))] [] K (qli c Q) := by
      intro n
      induction n with
      | zero =>
        intro m K g0 o1 eK
        have em : m = t := by omega
        subst em
        obtain ⟨b1, b2, b3, b4⟩ := tuN_ok hv hB.2.1 m (by omega)
        have hK : CI K v := hI.off o1
        have a := a_pass (t := (m : Int)) hK (bdi (by omega))
        obtain ⟨cb, cw, cf⟩ := passF_ok (t := (m : Int)) hB
        have ef : passF v (m : Int) = (tuN v m 0 2 - v 0 2, tuN v m) := by
          unfold passF
          rw [if_neg (fun q => q (by omega)), if_neg (by omega)]
          rfl
        rw [ef] at a cw cf
        refine lL_acts_516 hx hG hL hN ⟨bdi (by omega), bdi (by omega), fun _ => ?_, fun q => absurd q (by omega)⟩
        refine a.law hK cw cf (fun J j1 j2 => ?_)
        have eJ : mxM J K N 2 = tuN v m 0 2 := by rw [j2 N (Or.inr fr.2.2)]; exact eK.n2
        refine okk ?_ (h _ _ (fin _ _ J h1 o1 eK (AC_tuN hv hB.2.1 hA m (by omega)) (by omega) b2 j1 j2))
        rw [eJ, e.n2]
      | succ n ih =>
        intro m K g0 o1 eK
        obtain ⟨b1, b2, b3, b4⟩ := tuN_ok hv hB.2.1 m (by omega)
        refine lL_acts_516 hx hG hL hN ⟨bdi (by omega), bdi (by omega), fun q => absurd q (by omega), fun _ => ?_⟩
        refine t_turns hx hG hL hN d eK b1 b4 (by omega) (fun J oJ eJ => ?_)
        exact ih (m + 1) J (by omega) (fun o ho => by rw [oJ o (by omega) (by omega) (by omega)]; exact o1 o ho) eJ
    exact key t 0 I (by omega) (fun _ _ => rfl) e
  refine eL_acts hx hG hL hN (t_low hx (by decide) (fun l hl => ⟨hb, fun q => ?_, fun q => ?_, fun q => ?_, fun q => ?_, fun q => ?_, fun q => ?_, fun q => ?_, fun q => ?_, fun q => ?_⟩))
  · exact t_comes hx hG hL hN d hI e hA hz (fun K w hW => ⟨Or.inr rfl, h K w hW⟩)
  · have h1 := hkind (by omega)
    rw [e8]
    refine ⟨bdi (by omega), fun _ => t_low hx ⟨by omega, by omega⟩ (fun r hr => fun u hu => t_low hx (by decide) (fun s hs => ⟨bdi (by omega), fun q2 => ⟨by omega, fun q3 => at156 r (s - 1) _ ⟨by omega, by omega⟩ (by omega) (by unfold hw; rw [if_neg (by omega)]), fun q3 => at156 r (s - 1) _ ⟨by omega, by omega⟩ (by omega) (by unfold hw; rw [if_pos (by omega)])⟩, fun q2 => ⟨by omega, at156 r 2 2 ⟨by omega, by omega⟩ (by decide) rfl⟩⟩)), fun z => absurd z (by omega)⟩
  · have h1 := hkind (by omega)
    rw [e8]
    refine ⟨bdi (by omega), fun _ => t_low hx ⟨by omega, by omega⟩ (fun r hr => fun u hu => t_low hx (by decide) (fun s hs => ⟨bdi (by omega), fun q2 => ⟨by omega, fun q3 => at156 r (s - 1) _ ⟨by omega, by omega⟩ (by omega) (by unfold hw; rw [if_neg (by omega)]), fun q3 => at156 r (s - 1) _ ⟨by omega, by omega⟩ (by omega) (by unfold hw; rw [if_pos (by omega)])⟩, fun q2 => ⟨by omega, at156 r 2 2 ⟨by omega, by omega⟩ (by decide) rfl⟩⟩)), fun z => absurd z (by omega)⟩
  · have h1 := hkind (by omega)
    rw [e8]
    refine ⟨bdi (by omega), fun _ => t_low hx ⟨by omega, by omega⟩ (fun r hr => fun u hu => t_low hx (by decide) (fun s hs => ⟨bdi (by omega), fun q2 => ⟨by omega, fun q3 => at156 r (s - 1) _ ⟨by omega, by omega⟩ (by omega) (by unfold hw; rw [if_neg (by omega)]), fun q3 => at156 r (s - 1) _ ⟨by omega, by omega⟩ (by omega) (by unfold hw; rw [if_pos (by omega)])⟩, fun q2 => ⟨by omega, at156 r 2 2 ⟨by omega, by omega⟩ (by decide) rfl⟩⟩)), fun z => absurd z (by omega)⟩
  · have h1 := hkind (by omega)
    refine ⟨by omega, fun u hu => t_low hx (by decide) (fun s hs => ⟨bdi (by omega), fun q2 => ?_, fun q2 => ?_⟩)⟩
    · have hself : sh_u I L ((4 * l) + 3) 0 L ((4 * l) + 3) = 0 := by simp [sh_u]
      rw [hself]
      exact ⟨Or.inr ⟨bd_lit (by decide), bd_lit (by decide)⟩, fun _ => at249 l 0 h1 hl (Or.inl rfl), fun q3 => absurd q3 (by decide)⟩
    · have hself : sh_u I L ((4 * l) + 3) 1 L ((4 * l) + 3) = 1 := by simp [sh_u]
      rw [hself]
      exact ⟨Or.inl rfl, fun q3 => absurd rfl q3, fun _ => at249 l 1 h1 hl (Or.inr rfl)⟩
  · have at365 := at365 (by omega)
    intro u hu
    refine t_low hx (by decide) (fun w hw3 => ⟨by omega, bdi (by omega), fun q2 => ⟨Or.inr ⟨bdi (by omega), bd_lit (by decide)⟩, fun q3 => fun u2 hu2 => t_low hx (by decide) (fun x hx3 => at365 l w x hl hw3 (Or.inr (Or.inr ⟨by omega, by omega, by omega⟩))), fun q3 => fun u2 hu2 => t_low hx (by decide) (fun x hx3 => at365 l w (1 + x) hl hw3 (Or.inr (Or.inl ⟨q3, by omega, by omega⟩)))⟩, fun q2 => fun u2 hu2 => t_low hx (by decide) (fun x hx3 => at365 l w x hl hw3 (Or.inl ⟨q2, by omega, by omega⟩))⟩)
  · have at365 := at365 (by omega)
    intro u hu
    refine t_low hx (by decide) (fun w hw3 => ⟨by omega, bdi (by omega), fun q2 => ⟨Or.inr ⟨bdi (by omega), bd_lit (by decide)⟩, fun q3 => fun u2 hu2 => t_low hx (by decide) (fun x hx3 => at365 l w x hl hw3 (Or.inr (Or.inr ⟨by omega, by omega, by omega⟩))), fun q3 => fun u2 hu2 => t_low hx (by decide) (fun x hx3 => at365 l w (1 + x) hl hw3 (Or.inr (Or.inl ⟨q3, by omega, by omega⟩)))⟩, fun q2 => fun u2 hu2 => t_low hx (by decide) (fun x hx3 => at365 l w x hl hw3 (Or.inl ⟨q2, by omega, by omega⟩))⟩)
  · have h1 := hkind (by omega)
    refine t_low hx (by decide) (fun w hw2 => ⟨by omega, fun u hu => t_low hx (by decide) (fun x hx9 => ?_)⟩)
    have hws := hv.2.2.2.2.2
    have hold : I N (6 + w) = v 1 w := by
      by_cases w0 : w = 0
      · subst w0
        exact e.n6
      · have w1 : w = 1 := by omega
        subst w1
        exact e.n7
    have hob : 0 ≤ v 1 w ∧ v 1 w ≤ 9 := by
      by_cases w0 : w = 0
      · subst w0
        exact hws.1
      · have w1 : w = 1 := by omega
        subst w1
        exact hws.2.1
    have eW : LV (sh_u I N (6 + w) x) G L N (up v 1 w x) := e.ws d (by omega) rfl rfl
    have hK : CI (sh_u I N (6 + w) x) v := hI.off (fun o ho => sh_u_ne (by omega))
    have o1 : ∀ o, o < 119 → sh_u I N (6 + w) x o = I o := fun o ho => sh_u_ne (by omega)
    have hself : sh_u I N (6 + w) x N (6 + w) = x := by simp [sh_u]
    have a := a_set (w := w) (x := x) hK (bdi (by omega)) (bdi (by omega))
    obtain ⟨cb, cw, cf⟩ := setF_ok (w := w) (x := x) hB
    rw [hself, show (6 + w) - 6 = w by omega, hold]
    have hn1 : ¬ ¬ (0 ≤ w ∧ w ≤ 1) := fun q => q (by omega)
    have hn2 : ¬ ¬ (0 ≤ x ∧ x ≤ 9) := fun q => q (by omega)
    by_cases z : v 1 w = x
    · have ef : setF v w x = (-5, v) := by
        unfold setF
        rw [if_neg hn1, if_neg hn2, if_pos z]
      rw [ef] at a cw cf
      rw [← z, up_self] at eW
      rw [z] at eW
      refine a.law hK cw cf (fun J j1 j2 => ?_)
      rw [j2 N (Or.inr fr.2.2), hself]
      exact okk z (okk rfl (h _ _ (fin _ v J h1 o1 eW hA (by omega) rfl j1 j2)))
    · have ef : setF v w x = (v 1 w, up v 1 w x) := by
        unfold setF
        rw [if_neg hn1, if_neg hn2, if_neg z]
      rw [ef] at a cw cf
      refine a.law hK cw cf (fun J j1 j2 => ?_)
      rw [j2 N (Or.inr fr.2.2), hself]
      exact ⟨Or.inr ⟨bdi (by omega), bdi (by omega)⟩, fun _ => okk rfl (h _ _ (fin _ _ J h1 o1 eW (AC_up (by decide) hA) (by rw [up_ne (by omega)]; omega) (up_ne (by omega)) j1 j2)), fun q => absurd q z⟩
  · have h0 : ¬ x5 = 0 := by omega
    intro u hu
    refine t_low hx (by decide) (fun s hs => ⟨bdi (by omega), fun q2 => t_low hx (by decide) (fun y hy => ?_), fun q2 => t_low hx (by decide) (fun y hy => ?_)⟩)
    · have := at516 h0 (1 + y).toNat (by omega) (by omega)
      rw [show (((1 + y).toNat : Nat) : Int) = 1 + y by omega] at this
      exact this
    · have := at516 h0 (1 + y).toNat (by omega) (by omega)
      rw [show (((1 + y).toNat : Nat) : Int) = 1 + y by omega] at this
      exact this
