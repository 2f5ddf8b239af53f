/-! rule: the model reads -/
variable {D : DD} {m m' : MM} {e r : Nat} {u v w : US} {n mo p : Nat} {c : Nat → Nat} {ok : Bool}
abbrev FRm (u v : US) : Prop := Fm [(47, 19), (47, 21), (47, 27)] [60] [] u v
/-- the codes written so far -/
def Md (L : List Int32) (u : US) : Prop := gI u 47 27 = nI L.length ∧ L.length ≤ 80 ∧ codL (u.2.1 60) L.length = L
theorem Md.fd {L : List Int32} (h : Md L u) (f : Fdm u v) : Md L v := ⟨(f.i 47 27 rfl).trans h.1, h.2.1, by rw [f.a 60 rfl]; exact h.2.2⟩
/-- how many codes stand, never more than signs read -/
def Mn (q : Nat) (u : US) : Prop := ∃ a : Nat, a ≤ q ∧ gI u 47 27 = nI a
theorem codes_m {L : List Int32} (h : Md L u) (hl : L.length < 80) (x : Int32) (hr : Rm n mo c p u) : ∃ v, fX12_codes x u = some v ∧ Md (L ++ [x]) v ∧ Rm n mo c p v ∧ gI v 47 21 = gI u 47 21 ∧ FRm u v := by
  obtain ⟨h1, h2, h3⟩ := h
  have i1 := inb_nI hl (show 80 < 2 ^ 31 by decide)
  unfold fX12_codes
  rw [h1, gd_t i1, nxs, nxs]
  refine ⟨_, rfl, ⟨?_, ?_, ?_⟩, ?_, rfl, (Fm.rf.sA rfl).sI rfl⟩
  · show gI u 47 27 + 1 = _
    rw [h1, nI_1, List.length_append]; rfl
  · rw [List.length_append]; exact hl
  · show codL (upd (u.2.1 60) (nI L.length).toNatClampNeg x) (L ++ [x]).length = _
    rw [nI_clamp (by omega), List.length_append]; exact cod_upd h3
  · exact hr.fm (a := [(47, 27)]) (b := [60]) (d := []) ((Fm.rf.sA rfl).sI rfl) rfl rfl
theorem codes_n {q : Nat} (h : Mn q u) (hq : q < 80) (x : Int32) (hr : Rm n mo c p u) : ∃ v, fX12_codes x u = some v ∧ Mn (q + 1) v ∧ Rm n mo c p v ∧ gI v 47 21 = gI u 47 21 ∧ FRm u v := by
  obtain ⟨a, h1, h2⟩ := h
  have i1 := inb_nI (show a < 80 by omega) (show 80 < 2 ^ 31 by decide)
  unfold fX12_codes
  rw [h2, gd_t i1, nxs, nxs]
  refine ⟨_, rfl, ⟨a + 1, (by omega), ?_⟩, ?_, rfl, (Fm.rf.sA rfl).sI rfl⟩
  · show gI u 47 27 + 1 = _
    rw [h2, nI_1]
  · exact hr.fm (a := [(47, 27)]) (b := [60]) (d := []) ((Fm.rf.sA rfl).sI rfl) rfl rfl
