/-! ===== 44: the law's platform as a state ===== -/
def vL (g l n : Int → Int) : Vw := fun j i => if 0 ≤ i ∧ i < szv j then (if j = 0 then (if i = 1 then (if n 8 = 0 then -5 else n 1) else if i = 6 then n 8 else n i) else if j = 1 then n (6 + i) else if j ≤ 5 then l (4 * i + ((j : Int) - 2)) else g (7 * i + ((j : Int) - 6))) else 0
/-- the law's arrays G, L, N hold the state v -/
def LV (I : sh_Mem) (G L N : Nat) (v : Vw) : Prop := vL (I G) (I L) (I N) = v
theorem vL_in {g l n : Int → Int} {j : Nat} {i : Int} (h : 0 ≤ i ∧ i < szv j) : vL g l n j i = (if j = 0 then (if i = 1 then (if n 8 = 0 then -5 else n 1) else if i = 6 then n 8 else n i) else if j = 1 then n (6 + i) else if j ≤ 5 then l (4 * i + ((j : Int) - 2)) else g (7 * i + ((j : Int) - 6))) := if_pos h
theorem szvR {j : Nat} (h : 6 ≤ j ∧ j ≤ 12) : szv j = 6 := by
  unfold szv
  rw [if_neg (by omega), if_neg (by omega), if_neg (by omega), if_pos (by omega)]
theorem szvL {j : Nat} (h : 2 ≤ j ∧ j ≤ 5) : szv j = 3 := by
  unfold szv
  rw [if_neg (by omega), if_neg (by omega), if_pos (by omega)]
theorem LV.g {I : sh_Mem} {G L N : Nat} {v : Vw} (e : LV I G L N v) {r : Int} (j : Nat) (hj : 6 ≤ j ∧ j ≤ 12) (hr : 0 ≤ r ∧ r < 6) : I G (7 * r + ((j : Int) - 6)) = v j r := by
  rw [← e, vL_in (by rw [szvR hj]; exact hr), if_neg (by omega), if_neg (by omega), if_neg (by omega)]
theorem LV.g0 {I : sh_Mem} {G L N : Nat} {v : Vw} (e : LV I G L N v) {r : Int} (hr : 0 ≤ r ∧ r < 6) : I G (7 * r) = v 6 r := by
  have h := e.g 6 (by decide) hr
  rw [show 7 * r + (((6 : Nat) : Int) - 6) = 7 * r by omega] at h
  exact h
theorem LV.g1 {I : sh_Mem} {G L N : Nat} {v : Vw} (e : LV I G L N v) {r : Int} (hr : 0 ≤ r ∧ r < 6) : I G (7 * r + 1) = v 7 r := e.g 7 (by decide) hr
theorem LV.g2 {I : sh_Mem} {G L N : Nat} {v : Vw} (e : LV I G L N v) {r : Int} (hr : 0 ≤ r ∧ r < 6) : I G (7 * r + 2) = v 8 r := e.g 8 (by decide) hr
theorem LV.g3 {I : sh_Mem} {G L N : Nat} {v : Vw} (e : LV I G L N v) {r : Int} (hr : 0 ≤ r ∧ r < 6) : I G (7 * r + 3) = v 9 r := e.g 9 (by decide) hr
theorem LV.g4 {I : sh_Mem} {G L N : Nat} {v : Vw} (e : LV I G L N v) {r : Int} (hr : 0 ≤ r ∧ r < 6) : I G (7 * r + 4) = v 10 r := e.g 10 (by decide) hr
theorem LV.g5 {I : sh_Mem} {G L N : Nat} {v : Vw} (e : LV I G L N v) {r : Int} (hr : 0 ≤ r ∧ r < 6) : I G (7 * r + 5) = v 11 r := e.g 11 (by decide) hr
theorem LV.g6 {I : sh_Mem} {G L N : Nat} {v : Vw} (e : LV I G L N v) {r : Int} (hr : 0 ≤ r ∧ r < 6) : I G (7 * r + 6) = v 12 r := e.g 12 (by decide) hr
theorem LV.l {I : sh_Mem} {G L N : Nat} {v : Vw} (e : LV I G L N v) {r : Int} (j : Nat) (hj : 2 ≤ j ∧ j ≤ 5) (hr : 0 ≤ r ∧ r < 3) : I L (4 * r + ((j : Int) - 2)) = v j r := by
  rw [← e, vL_in (by rw [szvL hj]; exact hr), if_neg (by omega), if_neg (by omega), if_pos (by omega)]
theorem LV.l0 {I : sh_Mem} {G L N : Nat} {v : Vw} (e : LV I G L N v) {r : Int} (hr : 0 ≤ r ∧ r < 3) : I L (4 * r) = v 2 r := by
  have h := e.l 2 (by decide) hr
  rw [show 4 * r + (((2 : Nat) : Int) - 2) = 4 * r by omega] at h
  exact h
theorem LV.l1 {I : sh_Mem} {G L N : Nat} {v : Vw} (e : LV I G L N v) {r : Int} (hr : 0 ≤ r ∧ r < 3) : I L (4 * r + 1) = v 3 r := e.l 3 (by decide) hr
theorem LV.l2 {I : sh_Mem} {G L N : Nat} {v : Vw} (e : LV I G L N v) {r : Int} (hr : 0 ≤ r ∧ r < 3) : I L (4 * r + 2) = v 4 r := e.l 4 (by decide) hr
theorem LV.l3 {I : sh_Mem} {G L N : Nat} {v : Vw} (e : LV I G L N v) {r : Int} (hr : 0 ≤ r ∧ r < 3) : I L (4 * r + 3) = v 5 r := e.l 5 (by decide) hr
theorem LV.n0 {I : sh_Mem} {G L N : Nat} {v : Vw} (e : LV I G L N v) : I N 0 = v 0 0 := by rw [← e]; rfl
theorem LV.n2 {I : sh_Mem} {G L N : Nat} {v : Vw} (e : LV I G L N v) : I N 2 = v 0 2 := by rw [← e]; rfl
theorem LV.n3 {I : sh_Mem} {G L N : Nat} {v : Vw} (e : LV I G L N v) : I N 3 = v 0 3 := by rw [← e]; rfl
theorem LV.n4 {I : sh_Mem} {G L N : Nat} {v : Vw} (e : LV I G L N v) : I N 4 = v 0 4 := by rw [← e]; rfl
theorem LV.n5 {I : sh_Mem} {G L N : Nat} {v : Vw} (e : LV I G L N v) : I N 5 = v 0 5 := by rw [← e]; rfl
theorem LV.n6 {I : sh_Mem} {G L N : Nat} {v : Vw} (e : LV I G L N v) : I N 6 = v 1 0 := by rw [← e]; rfl
theorem LV.n7 {I : sh_Mem} {G L N : Nat} {v : Vw} (e : LV I G L N v) : I N 7 = v 1 1 := by rw [← e]; rfl
theorem LV.n8 {I : sh_Mem} {G L N : Nat} {v : Vw} (e : LV I G L N v) : I N 8 = v 0 6 := by rw [← e]; rfl
theorem LV.c {I : sh_Mem} {G L N : Nat} {v : Vw} (e : LV I G L N v) : (if I N 8 = 0 then -5 else I N 1) = v 0 1 := by rw [← e]; rfl
theorem LV.n1 {I : sh_Mem} {G L N : Nat} {v : Vw} (e : LV I G L N v) (h : ¬ v 0 6 = 0) : I N 1 = v 0 1 := by
  rw [← e.c, if_neg]
  rw [e.n8]
  exact h
theorem sh_u_self {I : sh_Mem} {o : Nat} {k x : Int} : sh_u I o k x o = fun b => if b = k then x else I o b := by
  funext b
  simp [sh_u]
theorem vL_g {g l n : Int → Int} {j : Nat} {r x : Int} (hj : 6 ≤ j ∧ j ≤ 12) (hr : 0 ≤ r ∧ r < 6) : vL (fun b => if b = 7 * r + ((j : Int) - 6) then x else g b) l n = up (vL g l n) j r x := by
  funext a i
  simp only [up]
  by_cases hd : 0 ≤ i ∧ i < szv a
  · rw [vL_in hd, vL_in hd]
    have ha := szv_pos hd
    by_cases h6 : a ≤ 5
    · rw [if_neg (show ¬ (a = j ∧ i = r) by omega)]
      simp only [if_pos h6]
    · simp only [if_neg h6, if_neg (show ¬ a = 0 by omega), if_neg (show ¬ a = 1 by omega)]
      by_cases e : a = j ∧ i = r
      · rw [if_pos e, if_pos (by rw [e.1, e.2])]
      · rw [if_neg e, if_neg]
        have hi : i < 6 := by
          have := hd.2
          rw [szvR (by omega)] at this
          exact this
        omega
  · rw [show vL (fun b => if b = 7 * r + ((j : Int) - 6) then x else g b) l n a i = 0 from if_neg hd, show vL g l n a i = 0 from if_neg hd, if_neg]
    rintro ⟨rfl, rfl⟩
    rw [szvR hj] at hd
    exact hd hr
theorem vL_l {g l n : Int → Int} {j : Nat} {r x : Int} (hj : 2 ≤ j ∧ j ≤ 5) (hr : 0 ≤ r ∧ r < 3) : vL g (fun b => if b = 4 * r + ((j : Int) - 2) then x else l b) n = up (vL g l n) j r x := by
  funext a i
  simp only [up]
  by_cases hd : 0 ≤ i ∧ i < szv a
  · rw [vL_in hd, vL_in hd]
    have ha := szv_pos hd
    by_cases h2 : 2 ≤ a ∧ a ≤ 5
    · simp only [if_pos h2.2, if_neg (show ¬ a = 0 by omega), if_neg (show ¬ a = 1 by omega)]
      by_cases e : a = j ∧ i = r
      · rw [if_pos e, if_pos (by rw [e.1, e.2])]
      · rw [if_neg e, if_neg]
        have hi : i < 3 := by
          have := hd.2
          rw [szvL h2] at this
          exact this
        omega
    · rw [if_neg (show ¬ (a = j ∧ i = r) by omega)]
      by_cases h0 : a = 0
      · simp only [if_pos h0]
      · by_cases h1 : a = 1
        · simp only [if_neg h0, if_pos h1]
        · simp only [if_neg h0, if_neg h1, if_neg (show ¬ a ≤ 5 by omega)]
  · rw [show vL g (fun b => if b = 4 * r + ((j : Int) - 2) then x else l b) n a i = 0 from if_neg hd, show vL g l n a i = 0 from if_neg hd, if_neg]
    rintro ⟨rfl, rfl⟩
    rw [szvL hj] at hd
    exact hd hr
/-- the three arrays are apart -/
def ap (G L N : Nat) : Prop := ¬ G = L ∧ ¬ G = N ∧ ¬ L = N
theorem LV.wg {I : sh_Mem} {G L N : Nat} {v : Vw} (d : ap G L N) (e : LV I G L N v) {r k x y : Int} (j : Nat) (hj : 6 ≤ j ∧ j ≤ 12) (hr : 0 ≤ r ∧ r < 6) (hk : k = 7 * r + ((j : Int) - 6)) (hxy : x = y) : LV (sh_u I G k x) G L N (up v j r y) := by
  subst hk
  subst hxy
  unfold LV
  rw [sh_u_ne (fun z => d.1 z.symm), sh_u_ne (fun z => d.2.1 z.symm), sh_u_self, vL_g hj hr]
  rw [show vL (I G) (I L) (I N) = v from e]
theorem LV.wl {I : sh_Mem} {G L N : Nat} {v : Vw} (d : ap G L N) (e : LV I G L N v) {r k x y : Int} (j : Nat) (hj : 2 ≤ j ∧ j ≤ 5) (hr : 0 ≤ r ∧ r < 3) (hk : k = 4 * r + ((j : Int) - 2)) (hxy : x = y) : LV (sh_u I L k x) G L N (up v j r y) := by
  subst hk
  subst hxy
  unfold LV
  rw [sh_u_ne d.1, sh_u_ne (fun z => d.2.2 z.symm), sh_u_self, vL_l hj hr]
  rw [show vL (I G) (I L) (I N) = v from e]
theorem vL_n {g l n : Int → Int} {i x : Int} (hi : i = 0 ∨ i = 2 ∨ i = 3 ∨ i = 4 ∨ i = 5) : vL g l (fun b => if b = i then x else n b) = up (vL g l n) 0 i x := by
  funext a k
  simp only [up]
  by_cases hd : 0 ≤ k ∧ k < szv a
  · rw [vL_in hd, vL_in hd]
    by_cases h0 : a = 0
    · simp only [if_pos h0]
      have hk : k ≤ 6 := szv_le hd
      by_cases e : k = i
      · rw [if_neg (by omega), if_neg (by omega), if_pos e, if_pos ⟨h0, e⟩]
      · rw [if_neg (show ¬ (a = 0 ∧ k = i) by omega), if_neg (show ¬ (8 : Int) = i by omega), if_neg (show ¬ (1 : Int) = i by omega), if_neg e]
    · rw [if_neg (show ¬ (a = 0 ∧ k = i) by omega)]
      simp only [if_neg h0]
      by_cases h1 : a = 1
      · simp only [if_pos h1]
        rw [if_neg (by omega)]
      · simp only [if_neg h1]
  · rw [show vL g l (fun b => if b = i then x else n b) a k = 0 from if_neg hd, show vL g l n a k = 0 from if_neg hd, if_neg]
    rintro ⟨rfl, rfl⟩
    have : szv 0 = 7 := rfl
    omega
theorem vL_s {g l n : Int → Int} {i x : Int} (hi : i = 0 ∨ i = 1) : vL g l (fun b => if b = 6 + i then x else n b) = up (vL g l n) 1 i x := by
  funext a k
  simp only [up]
  by_cases hd : 0 ≤ k ∧ k < szv a
  · rw [vL_in hd, vL_in hd]
    by_cases h0 : a = 0
    · rw [if_neg (show ¬ (a = 1 ∧ k = i) by omega)]
      simp only [if_pos h0]
      rw [if_neg (show ¬ (8 : Int) = 6 + i by omega), if_neg (show ¬ (1 : Int) = 6 + i by omega)]
      by_cases h6 : k = 6
      · simp only [if_pos h6]
      · simp only [if_neg h6]
        have hk : k ≤ 6 := szv_le hd
        rw [if_neg (show ¬ k = 6 + i by omega)]
    · simp only [if_neg h0]
      by_cases h1 : a = 1
      · simp only [if_pos h1]
        by_cases e : k = i
        · rw [if_pos (by rw [e]), if_pos ⟨h1, e⟩]
        · rw [if_neg (by omega), if_neg (by omega)]
      · rw [if_neg (show ¬ (a = 1 ∧ k = i) by omega)]
        simp only [if_neg h1]
  · rw [show vL g l (fun b => if b = 6 + i then x else n b) a k = 0 from if_neg hd, show vL g l n a k = 0 from if_neg hd, if_neg]
    rintro ⟨rfl, rfl⟩
    have : szv 1 = 2 := rfl
    omega
theorem vL_c {g l n : Int → Int} {x : Int} (h : ¬ n 8 = 0) : vL g l (fun b => if b = 1 then x else n b) = up (vL g l n) 0 1 x := by
  funext a k
  simp only [up]
  by_cases hd : 0 ≤ k ∧ k < szv a
  · rw [vL_in hd, vL_in hd]
    by_cases h0 : a = 0
    · simp only [if_pos h0]
      rw [if_neg (show ¬ (8 : Int) = 1 by decide), if_neg h, if_neg h]
      by_cases e : k = 1
      · rw [if_pos e, if_pos trivial, if_pos ⟨h0, e⟩]
      · rw [if_neg e, if_neg e, if_neg (show ¬ (a = 0 ∧ k = 1) by omega), if_neg e]
    · rw [if_neg (show ¬ (a = 0 ∧ k = 1) by omega)]
      simp only [if_neg h0]
      by_cases h1 : a = 1
      · simp only [if_pos h1]
        rw [if_neg (by omega)]
      · simp only [if_neg h1]
  · rw [show vL g l (fun b => if b = 1 then x else n b) a k = 0 from if_neg hd, show vL g l n a k = 0 from if_neg hd, if_neg]
    rintro ⟨rfl, rfl⟩
    have : szv 0 = 7 := rfl
    omega
theorem LV.wn {I : sh_Mem} {G L N : Nat} {v : Vw} (d : ap G L N) (e : LV I G L N v) {i x y : Int} (hi : i = 0 ∨ i = 2 ∨ i = 3 ∨ i = 4 ∨ i = 5) (hxy : x = y) : LV (sh_u I N i x) G L N (up v 0 i y) := by
  subst hxy
  unfold LV
  rw [sh_u_ne d.2.1, sh_u_ne d.2.2, sh_u_self, vL_n hi]
  rw [show vL (I G) (I L) (I N) = v from e]
theorem LV.ws {I : sh_Mem} {G L N : Nat} {v : Vw} (d : ap G L N) (e : LV I G L N v) {i k x y : Int} (hi : i = 0 ∨ i = 1) (hk : k = 6 + i) (hxy : x = y) : LV (sh_u I N k x) G L N (up v 1 i y) := by
  subst hk
  subst hxy
  unfold LV
  rw [sh_u_ne d.2.1, sh_u_ne d.2.2, sh_u_self, vL_s hi]
  rw [show vL (I G) (I L) (I N) = v from e]
theorem LV.wc {I : sh_Mem} {G L N : Nat} {v : Vw} (d : ap G L N) (e : LV I G L N v) (h : ¬ v 0 6 = 0) {x y : Int} (hxy : x = y) : LV (sh_u I N 1 x) G L N (up v 0 1 y) := by
  subst hxy
  unfold LV
  rw [sh_u_ne d.2.1, sh_u_ne d.2.2, sh_u_self, vL_c (by rw [e.n8]; exact h)]
  rw [show vL (I G) (I L) (I N) = v from e]
theorem LV.same {I J : sh_Mem} {G L N : Nat} {v : Vw} (e : LV I G L N v) (h1 : J G = I G) (h2 : J L = I L) (h3 : J N = I N) : LV J G L N v := by
  unfold LV
  rw [h1, h2, h3]
  exact e
/-! its questions -/
theorem t_low {c : sh_Cx} (hx : cx c) {x m : Int} {I : sh_Mem} {Q : Int → sh_Mem → Prop} (hm : 0 < m ∧ m < 2147483648) (h : ∀ r, 0 ≤ r ∧ r < m → Q r I) : cl c mL_low [.inl x, .inl m] I (li c Q) :=
  eL_low hx (fun u hu => ⟨hu, hm, h _ ⟨Int.emod_nonneg _ (by omega), Int.emod_lt_of_pos _ hm.1⟩⟩)
theorem t_who {c : sh_Cx} (hx : cx c) {G L N : Nat} (hG : dy c G 42) (hN : dy c N 9) {x : Int} {I : sh_Mem} {Q : Int → sh_Mem → Prop} {v : Vw} (e : LV I G L N v) (hv : WF v) (hb : sh_Bd x) (h : Q (st v x) I) : cl c mL_who [.inr G, .inr N, .inl x] I (li c Q) := by
  have hm := hv.many
  have e8 := e.n8
  refine eL_who hx hG hN ?_
  have key : ∀ (n : Nat) (y : Int), 0 ≤ y → y + (n : Int) = v 0 6 → (∀ r, 0 ≤ r → r < y → ¬ v 6 r = x) → kl c (0, 0) mL_who 2 [some (.inr G), some (.inr N), some (.inl x), some (.inl y)] [] I (qli c Q) := by
    intro n
    induction n with
    | zero =>
      intro y h0 hn hr
      refine lL_who_2 hx hG hN ⟨bdi (by omega), bdi (by omega), fun q => ?_, fun q => absurd q (by omega)⟩
      rwa [← st_none hv (c := x) (fun r hr2 => hr r hr2.1 (by unfold isr at hr2; omega))]
    | succ n ih =>
      intro y h0 hn hr
      have ec := e.g0 (r := y) (by omega)
      have hc := hv.cell (r := y) h0 (by omega)
      refine lL_who_2 hx hG hN ⟨bdi (by omega), bdi (by omega), fun q => absurd q (by omega), fun q => ⟨by omega, Or.inr ⟨bdi (by omega), hb⟩, fun q2 => ih (y + 1) (by omega) (by omega) (fun r hr1 hr2 => ?_), fun q2 => ?_⟩⟩
      · by_cases z : r = y
        · rw [z, ← ec]
          exact q2
        · exact hr r hr1 (by omega)
      · rwa [st_is hv (c := x) (r := y) ⟨h0, by omega⟩ (by rw [← ec]; exact q2)] at h
  exact key (v 0 6).toNat 0 (by omega) (by omega) (fun r h1 h2 => absurd h2 (by omega))
/-- how far straight away -/
def sg (a b d : Int) : Int := if 0 < di a b d then di a b d else 0
theorem t_straight {c : sh_Cx} (hx : cx c) {a b d : Int} {I : sh_Mem} {Q : Int → sh_Mem → Prop} (ha : 0 ≤ a ∧ a < 100) (hb : 0 ≤ b ∧ b < 100) (hd : 0 ≤ d ∧ d < 4) (h : Q (sg a b d) I) : cl c mL_straight [.inl a, .inl b, .inl d] I (li c Q) := by
  have fin : ∀ z, z = (if d = 0 then -(b / 10 - a / 10) else if d = 1 then b % 10 - a % 10 else if d = 2 then b / 10 - a / 10 else -(b % 10 - a % 10)) → kl c (0, 0) mL_straight 52 [none, none, some (.inl d), some (.inl (b / 10 - a / 10)), some (.inl (b % 10 - a % 10)), none] [.inl z] I (qli c Q) := by
    intro z hz
    have hzb : sh_Bd z := bdi (by rcases dir4 hd with rfl | rfl | rfl | rfl <;> simp at hz <;> omega)
    refine lL_straight_52 hx ⟨hzb, fun q => ?_, fun q => ⟨by omega, bdi (by omega), fun q2 => ⟨bdi (by omega), fun q3 => ?_, fun q3 => ?_⟩, fun q2 => ⟨bdi (by omega), fun q3 => ?_, fun q3 => ?_⟩⟩⟩
    · have : sg a b d = 0 := by
        unfold sg di
        rcases dir4 hd with rfl | rfl | rfl | rfl <;> simp at hz ⊢ <;> split <;> omega
      rw [this] at h
      exact h
    · have : sg a b d = 0 := by
        unfold sg di
        rcases dir4 hd with rfl | rfl | rfl | rfl <;> simp at hz q2 ⊢ <;> split <;> omega
      rw [this] at h
      exact h
    · have : sg a b d = z := by
        unfold sg di
        rcases dir4 hd with rfl | rfl | rfl | rfl <;> simp at hz q2 ⊢ <;> simp [q3] <;> omega
      rw [this] at h
      exact h
    · have : sg a b d = 0 := by
        unfold sg di
        rcases dir4 hd with rfl | rfl | rfl | rfl <;> simp at hz q2 ⊢ <;> split <;> omega
      rw [this] at h
      exact h
    · have : sg a b d = z := by
        unfold sg di
        rcases dir4 hd with rfl | rfl | rfl | rfl <;> simp at hz q2 ⊢ <;> simp [q3] <;> omega
      rw [this] at h
      exact h
  refine eL_straight hx ⟨by omega, by omega, bdi (by omega), fun q => ⟨Or.inr ⟨bdi (by omega), bd_lit (by decide)⟩, fun q2 => ⟨Or.inr ⟨bdi (by omega), bd_lit (by decide)⟩, fun q3 => fin _ ?_, fun q3 => fin _ ?_⟩, fun q2 => fin _ ?_⟩, fun q => fin _ ?_⟩
  · rw [if_neg q, if_neg q2, if_neg q3]
  · rw [if_neg q, if_neg q2, if_pos q3]
  · rw [if_neg q, if_pos q2]
  · rw [if_pos q]
/-- a shadow, told by who stands between -/
theorem shd_btw {v : Vw} {r l c : Int} (hv : WF v) (hr : isr v r) (hl : 0 ≤ l ∧ l < 3) (hc : 0 ≤ c ∧ c < 100) : shd v r l c ↔ ((v 5 l = 1 ∧ 0 < di (v 6 r) c (aw v l) ∧ di (v 6 r) c (aw v l) ≤ v 7 r * v 3 l) ∧ ∀ s, isr v s → sg (v 6 r) (v 6 s) (aw v l) = 0 ∨ di (v 6 r) c (aw v l) ≤ sg (v 6 r) (v 6 s) (aw v l)) := by
  have hcr := hv.cell hr.1 hr.2
  have hln := ln_in hv hr hl
  have hs := ln_spec hv hr hl
  have hmx := mx_in hv hr hl
  constructor
  · intro h
    have h1 := h.1
    have h2 := h.2
    have h3 := hs.1.2
    have hon : v 5 l = 1 := Classical.byContradiction fun q => by
      unfold mx at h3
      rw [if_neg q] at h3
      omega
    refine ⟨⟨hon, h1, ?_⟩, fun s hs2 => ?_⟩
    · unfold mx at h3
      rw [if_pos hon] at h3
      omega
    · rcases Int.lt_or_le 0 (di (v 6 r) (v 6 s) (aw v l)) with z | z
      · rcases Int.lt_or_le (di (v 6 r) (v 6 s) (aw v l)) (di (v 6 r) c (aw v l)) with y | y
        · exfalso
          have h4 := hs.2.1 (di (v 6 r) (v 6 s) (aw v l)) (by omega) (by omega)
          rw [(al_di hcr (hv.cell hs2.1 hs2.2) aw_in z).2, st_is hv hs2 rfl] at h4
          have := hs2.1
          omega
        · right
          unfold sg
          rw [if_pos z]
          exact y
      · left
        unfold sg
        rw [if_neg (by omega)]
  · rintro ⟨⟨hon, h1, h2⟩, h3⟩
    refine ⟨h1, ?_⟩
    rcases Int.lt_or_le (ln v r l) (di (v 6 r) c (aw v l)) with z | z
    · exfalso
      have h4 := (al_di hcr hc aw_in h1).1
      have h5 : di (v 6 r) c (aw v l) ≤ mx v r l := by
        unfold mx
        rw [if_pos hon]
        omega
      obtain ⟨h6, h7⟩ := hs.2.2 (by omega)
      obtain ⟨hs2, hc2⟩ := st_ne hv h7
      have h8 := h3 _ hs2
      rw [hc2] at h8
      have h9 : di (v 6 r) (al (v 6 r) (aw v l) (ln v r l)) (aw v l) = ln v r l := di_al hcr aw_in ⟨by omega, by omega⟩
      unfold sg at h8
      rw [h9, if_pos (by omega)] at h8
      omega
    · exact z
