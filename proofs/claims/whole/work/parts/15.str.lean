/-! texts -/
section ST
variable {ρ : Type} {τ : ρ → Option Value × US} {M : MI} {d pc : Nat} {ex : Option ρ} {ls : LL} {st : List Value} {u : US}
theorem r_ldcS (j : Nat) {idx : Nat} (hj : decide (j < 7) = true) (hi : idxS.getD j 0 = idx) (hM : M.1.cls = RX12) (hd : decode M.2.1 pc = .ok (.ldc idx, 2)) (k : Sim τ M d ex (pc + 2) ls (.ref (100 + j) :: st) u) : Sim τ M d ex pc ls st u := by
  refine ⟨?_, trivial⟩
  intro p l e s m args below meth c ad dC dI cI cJ cZ A r arr H locs hA hr hl hP hS
  have hZ := hA.2.2.2.2.2.2.2.2.2.2.2.2.1 j (of_decide_eq_true hj)
  rw [hi] at hZ
  have ho := hA.2.2.2.2.1
  rw [hM] at ho
  exact va_ldcS hA.1 hA.2.1 ho hZ hd (k.1 hA hr hl hP hS)
theorem r_ldcSw (j : Nat) {idx : Nat} (hj : decide (j < 7) = true) (hi : idxS.getD j 0 = idx) (hM : M.1.cls = RX12) (hd : decode M.2.1 pc = .ok (.ldc_w idx, 3)) (k : Sim τ M d ex (pc + 3) ls (.ref (100 + j) :: st) u) : Sim τ M d ex pc ls st u := by
  refine ⟨?_, trivial⟩
  intro p l e s m args below meth c ad dC dI cI cJ cZ A r arr H locs hA hr hl hP hS
  have hZ := hA.2.2.2.2.2.2.2.2.2.2.2.2.1 j (of_decide_eq_true hj)
  rw [hi] at hZ
  have ho := hA.2.2.2.2.1
  rw [hM] at ho
  intro T hT X
  obtain ⟨t, a1, b1⟩ := k.1 hA hr hl hP hS T hT X
  exact ⟨t, X.ldcStringW hA.1 ho (text := txS.getD j "") (a := ad (100 + j)) hZ.1 hZ.2 (g := F0 m pc arr (st.map (av ad))) rfl (by rw [hA.2.1]; exact hd) t a1, b1⟩
theorem r_slen (s : Nat) {idx : Nat} (hs : isStr s = true) (hlk : Cond.methodLink M.1.cls idx ⟨"java/lang/String", "length", "()I"⟩ ∈ TB) (hd1 : 3 ≤ d) (hw : (st.map fun v => v.category).sum ≤ 8) (hd : decode M.2.1 pc = .ok (.invokevirtual idx, 3)) (k : Sim τ M d ex (pc + 3) ls (.int (nI (lenS.getD (s - 100) 0)) :: st) u) : Sim τ M d ex pc ls (.ref s :: st) u := by
  sorry
theorem r_char (s : Nat) {idx : Nat} {x : Int32} (hs : isStr s = true) (hlk : Cond.methodLink M.1.cls idx ⟨"java/lang/String", "charAt", "(I)C"⟩ ∈ TB) (hd1 : 3 ≤ d) (hw : (st.map fun v => v.category).sum ≤ 8) (hd : decode M.2.1 pc = .ok (.invokevirtual idx, 3)) (k : Sim τ M d ex (pc + 3) ls (.int ((bytS.getD (s - 100) []).getD x.toNatClampNeg 0) :: st) u) : Sim τ M d (gd (inb x (lenS.getD (s - 100) 0)) ex) pc ls (.int x :: .ref s :: st) u := by
  sorry
end ST
