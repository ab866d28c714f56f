/-! ===== 35: undo, the snapshot and the text, called on both ===== -/
theorem sh_u_nf {I : sh_Mem} {o : Nat} {f g v : Int} (h : g ≠ f) : sh_u I o f v o g = I o g := by simp [sh_u, h]
