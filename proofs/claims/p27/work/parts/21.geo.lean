/-! ===== 21: the platform's ways: next cells, distances, edges; what holds of a state ===== -/
def nx (c d : Int) : Int := if d = 0 then (if c < 10 then -5 else c - 10) else if d = 1 then (if c % 10 = 9 then -5 else c + 1) else if d = 2 then (if 89 < c then -5 else c + 10) else (if c % 10 = 0 then -5 else c - 1)
def te (c d : Int) : Int := if d = 0 then c / 10 else if d = 1 then 9 - c % 10 else if d = 2 then 9 - c / 10 else c % 10
def al (c d k : Int) : Int := if d = 0 then c - 10 * k else if d = 1 then c + k else if d = 2 then c + 10 * k else c - k
def di (a c d : Int) : Int := if d = 0 then (if c % 10 - a % 10 = 0 then -(c / 10 - a / 10) else 0) else if d = 1 then (if c / 10 - a / 10 = 0 then c % 10 - a % 10 else 0) else if d = 2 then (if c % 10 - a % 10 = 0 then c / 10 - a / 10 else 0) else (if c / 10 - a / 10 = 0 then -(c % 10 - a % 10) else 0)
def op (d : Int) : Int := (d + 2) % 4
theorem dir4 {d : Int} (h : 0 ≤ d ∧ d < 4) : d = 0 ∨ d = 1 ∨ d = 2 ∨ d = 3 := by omega
theorem op_in {d : Int} : 0 ≤ op d ∧ op d < 4 := by unfold op; omega
theorem op_op {d : Int} (h : 0 ≤ d ∧ d < 4) : op (op d) = d := by unfold op; omega
theorem te_in {c d : Int} (h : 0 ≤ c ∧ c < 100) : 0 ≤ te c d ∧ te c d ≤ 9 := by
  unfold te
  split
  · omega
  · split
    · omega
    · split <;> omega
theorem al_in {c d k : Int} (h : 0 ≤ c ∧ c < 100) (hd : 0 ≤ d ∧ d < 4) (hk : 0 ≤ k ∧ k ≤ te c d) : 0 ≤ al c d k ∧ al c d k < 100 := by
  rcases dir4 hd with rfl | rfl | rfl | rfl <;> simp [te, al] at * <;> omega
theorem te_al {c d k : Int} (h : 0 ≤ c ∧ c < 100) (hd : 0 ≤ d ∧ d < 4) (hk : 0 ≤ k ∧ k ≤ te c d) : te (al c d k) d = te c d - k := by
  rcases dir4 hd with rfl | rfl | rfl | rfl <;> simp [te, al] at * <;> omega
theorem nx_al {c d k : Int} (h : 0 ≤ c ∧ c < 100) (hd : 0 ≤ d ∧ d < 4) (hk : 0 ≤ k ∧ k ≤ te c d) : nx (al c d k) d = if k < te c d then al c d (k + 1) else -5 := by
  rcases dir4 hd with rfl | rfl | rfl | rfl <;> simp [te, al, nx] at * <;> split <;> split <;> omega
theorem al0 {c d : Int} : al c d 0 = c := by unfold al; split <;> (try split) <;> (try split) <;> omega
theorem nx_te {c d : Int} (h : 0 ≤ c ∧ c < 100) (hd : 0 ≤ d ∧ d < 4) : nx c d = if 0 < te c d then al c d 1 else -5 := by
  have h1 := nx_al (k := 0) h hd ⟨by omega, (te_in h).1⟩
  rwa [al0] at h1
theorem di_al {c d k : Int} (h : 0 ≤ c ∧ c < 100) (hd : 0 ≤ d ∧ d < 4) (hk : 0 ≤ k ∧ k ≤ te c d) : di c (al c d k) d = k := by
  rcases dir4 hd with rfl | rfl | rfl | rfl <;> simp [te, al, di] at * <;> omega
theorem al_di {a c d : Int} (ha : 0 ≤ a ∧ a < 100) (hc : 0 ≤ c ∧ c < 100) (hd : 0 ≤ d ∧ d < 4) (h : 0 < di a c d) : di a c d ≤ te a d ∧ al a d (di a c d) = c := by
  rcases dir4 hd with rfl | rfl | rfl | rfl <;> simp [te, al, di] at * <;> split at h <;> (try rw [if_pos (by assumption)]) <;> omega
theorem di_op {a c d : Int} (ha : 0 ≤ a ∧ a < 100) (hc : 0 ≤ c ∧ c < 100) (hd : 0 ≤ d ∧ d < 4) : di c a (op d) = di a c d := by
  rcases dir4 hd with rfl | rfl | rfl | rfl <;> simp [op, di] <;> split <;> split <;> omega
theorem di_bd {a c d : Int} (ha : 0 ≤ a ∧ a < 100) (hc : 0 ≤ c ∧ c < 100) : -9 ≤ di a c d ∧ di a c d ≤ 9 := by
  unfold di
  split
  · split <;> omega
  · split
    · split <;> omega
    · split
      · split <;> omega
      · split <;> omega
theorem al_inj {c d k k' : Int} (h : al c d k = al c d k') : k = k' := by
  unfold al at h
  split at h
  · omega
  · split at h
    · omega
    · split at h <;> omega
/-- what holds of a state -/
def WF (v : Vw) : Prop := (0 ≤ v 0 6 ∧ v 0 6 ≤ 6) ∧ ((v 0 6 = 0 ∧ v 0 1 = -5) ∨ (0 ≤ v 0 1 ∧ v 0 1 < v 0 6)) ∧
  (∀ r, 0 ≤ r → r < v 0 6 → (0 ≤ v 6 r ∧ v 6 r < 100) ∧ (1 ≤ v 7 r ∧ v 7 r ≤ 5) ∧ (0 ≤ v 8 r ∧ v 8 r ≤ 4) ∧ (0 ≤ v 9 r ∧ v 9 r ≤ 10)) ∧
  (∀ r s, 0 ≤ r → r < v 0 6 → 0 ≤ s → s < v 0 6 → v 6 r = v 6 s → r = s) ∧
  (∀ l, 0 ≤ l → l < 3 → (0 ≤ v 2 l ∧ v 2 l < 4) ∧ (1 ≤ v 3 l ∧ v 3 l ≤ 4) ∧ (0 ≤ v 4 l ∧ v 4 l ≤ 9) ∧ (0 ≤ v 5 l ∧ v 5 l ≤ 1)) ∧
  (0 ≤ v 1 0 ∧ v 1 0 ≤ 9) ∧ (0 ≤ v 1 1 ∧ v 1 1 ≤ 9) ∧ (0 ≤ v 0 0 ∧ v 0 0 < 150000) ∧ (0 ≤ v 0 2 ∧ v 0 2 ≤ v 0 0 + 1)
theorem WF.many {v : Vw} (h : WF v) : 0 ≤ v 0 6 ∧ v 0 6 ≤ 6 := h.1
theorem WF.run {v : Vw} (h : WF v) {r : Int} (h0 : 0 ≤ r) (h1 : r < v 0 6) : (0 ≤ v 6 r ∧ v 6 r < 100) ∧ (1 ≤ v 7 r ∧ v 7 r ≤ 5) ∧ (0 ≤ v 8 r ∧ v 8 r ≤ 4) ∧ (0 ≤ v 9 r ∧ v 9 r ≤ 10) := h.2.2.1 r h0 h1
theorem WF.cell {v : Vw} (h : WF v) {r : Int} (h0 : 0 ≤ r) (h1 : r < v 0 6) : 0 ≤ v 6 r ∧ v 6 r < 100 := (h.run h0 h1).1
theorem WF.apart {v : Vw} (h : WF v) {r s : Int} (h0 : 0 ≤ r) (h1 : r < v 0 6) (h2 : 0 ≤ s) (h3 : s < v 0 6) (e : v 6 r = v 6 s) : r = s := h.2.2.2.1 r s h0 h1 h2 h3 e
theorem WF.lampw {v : Vw} (h : WF v) {l : Int} (h0 : 0 ≤ l ∧ l < 3) : (0 ≤ v 2 l ∧ v 2 l < 4) ∧ (1 ≤ v 3 l ∧ v 3 l ≤ 4) ∧ (0 ≤ v 4 l ∧ v 4 l ≤ 9) ∧ (0 ≤ v 5 l ∧ v 5 l ≤ 1) := h.2.2.2.2.1 l h0.1 h0.2
/-- a runner -/
def isr (v : Vw) (r : Int) : Prop := 0 ≤ r ∧ r < v 0 6
/-- the runner on a cell: the last of the first n; -5 without one -/
def stn (v : Vw) (c : Int) : Nat → Int
  | 0 => -5
  | n + 1 => if v 6 (n : Int) = c then (n : Int) else stn v c n
def st (v : Vw) (c : Int) : Int := stn v c (v 0 6).toNat
theorem stn_spec (v : Vw) (c : Int) : ∀ n : Nat, (stn v c n = -5 ∧ ∀ r, 0 ≤ r → r < (n : Int) → ¬ v 6 r = c) ∨ (0 ≤ stn v c n ∧ stn v c n < (n : Int) ∧ v 6 (stn v c n) = c) := by
  intro n
  induction n with
  | zero => exact Or.inl ⟨rfl, fun r h1 h2 => by simp at h2; omega⟩
  | succ n ih =>
    unfold stn
    by_cases h : v 6 (n : Int) = c
    · rw [if_pos h]
      exact Or.inr ⟨by omega, by omega, h⟩
    · rw [if_neg h]
      rcases ih with ⟨h1, h2⟩ | ⟨h1, h2, h3⟩
      · refine Or.inl ⟨h1, fun r a b => ?_⟩
        by_cases e : r = (n : Int)
        · rw [e]
          exact h
        · exact h2 r a (by omega)
      · exact Or.inr ⟨h1, by omega, h3⟩
theorem st_spec {v : Vw} (hv : WF v) (c : Int) : (st v c = -5 ∧ ∀ r, isr v r → ¬ v 6 r = c) ∨ (isr v (st v c) ∧ v 6 (st v c) = c) := by
  have hm := hv.many
  have e : ((v 0 6).toNat : Int) = v 0 6 := Int.toNat_of_nonneg hm.1
  rcases stn_spec v c (v 0 6).toNat with ⟨h1, h2⟩ | ⟨h1, h2, h3⟩
  · exact Or.inl ⟨h1, fun r hr => h2 r hr.1 (by rw [e]; exact hr.2)⟩
  · exact Or.inr ⟨⟨h1, by rw [e] at h2; exact h2⟩, h3⟩
theorem st_none {v : Vw} (hv : WF v) {c : Int} (h : ∀ r, isr v r → ¬ v 6 r = c) : st v c = -5 := by
  rcases st_spec hv c with ⟨h1, -⟩ | ⟨h1, h2⟩
  · exact h1
  · exact absurd h2 (h _ h1)
theorem st_is {v : Vw} (hv : WF v) {c r : Int} (hr : isr v r) (h : v 6 r = c) : st v c = r := by
  rcases st_spec hv c with ⟨-, h2⟩ | ⟨h1, h2⟩
  · exact absurd h (h2 r hr)
  · exact hv.apart h1.1 h1.2 hr.1 hr.2 (h2.trans h.symm)
theorem st_bd {v : Vw} (hv : WF v) (c : Int) : -5 ≤ st v c ∧ st v c < 6 := by
  have hm := hv.many
  rcases st_spec hv c with ⟨h1, -⟩ | ⟨h1, -⟩
  · omega
  · unfold isr at h1
    omega
theorem st_ne {v : Vw} (hv : WF v) {c : Int} (h : ¬ st v c = -5) : isr v (st v c) ∧ v 6 (st v c) = c := by
  rcases st_spec hv c with ⟨h1, -⟩ | h1
  · exact absurd h1 h
  · exact h1
