/-! a method's entry; calls by their answers; switches -/
def entL : List Value → LL
  | [] => []
  | v :: vs => if v.category = 2 then some v :: none :: entL vs else some v :: entL vs
def pad (n : Nat) (l : LL) : LL := l ++ List.replicate (n - l.length) none
theorem entL_args {ad : Nat → Nat} : ∀ (vs : List Value) (k i : Nat) (v : Value), (entL vs)[i]? = some (some v) → (i + k, av ad v) ∈ lv_args k (vs.map (av ad)) := by
  intro vs
  induction vs with
  | nil => intro k i v h; simp [entL] at h
  | cons w vs ih =>
    intro k i v h
    unfold entL at h
    rw [List.map_cons, lv_args, av_cat]
    by_cases hc : w.category = 2
    · rw [if_pos hc] at h ⊢
      match i with
      | 0 =>
        simp only [List.getElem?_cons_zero, Option.some.injEq] at h
        rw [← h, Nat.zero_add]
        exact List.mem_cons_self
      | 1 => simp at h
      | i + 2 =>
        have h2 : (entL vs)[i]? = some (some v) := by simpa using h
        have := ih (k + 2) i v h2
        rw [show i + 2 + k = i + (k + 2) by omega]
        exact List.mem_cons_of_mem _ this
    · rw [if_neg hc] at h ⊢
      match i with
      | 0 =>
        simp only [List.getElem?_cons_zero, Option.some.injEq] at h
        rw [← h, Nat.zero_add]
        exact List.mem_cons_self
      | i + 1 =>
        have h2 : (entL vs)[i]? = some (some v) := by simpa using h
        have := ih (k + 1) i v h2
        rw [show i + 1 + k = i + (k + 1) by omega]
        exact List.mem_cons_of_mem _ this
theorem pad_in {n i : Nat} {l : LL} {v : Value} (h : (pad n l)[i]? = some (some v)) : l[i]? = some (some v) := by
  unfold pad at h
  by_cases hi : i < l.length
  · rwa [List.getElem?_append_left hi] at h
  · rw [List.getElem?_append_right (by omega), List.getElem?_replicate] at h
    split at h <;> cases h
theorem sl_len {ad : Nat → Nat} (vs : List Value) : (lg_sl (vs.map (av ad))).length = (lg_sl vs).length := by
  induction vs with
  | nil => rfl
  | cons v vs ih =>
    unfold lg_sl at ih ⊢
    rw [List.map_cons, List.flatMap_cons, List.flatMap_cons, List.length_append, List.length_append, ih, av_cat]
    by_cases hc : v.category = 2
    · rw [if_pos hc, if_pos hc]; rfl
    · rw [if_neg hc, if_neg hc]; rfl
theorem met_of {ρ : Type} {τ : ρ → Option Value × US} {M : MI} {d : Nat} {ex : Option ρ} {avs : List Value} {u : US} {ls : LL} (hy : plainFor M.1 = true) (hln : (lg_sl avs).length ≤ M.2.2.1) (hls : pad M.2.2.1 (entL avs) = ls) (h : Sim τ M d ex 0 ls [] u) (r : ρ) (hr : ex = some r) : MetC M d avs u (τ r) := by
  intro l hlt ad dC dI cI cJ cZ sz
  subst hls
  refine va_MetF (cc := M.2.1) (maxL := M.2.2.1) (ret := M.2.2.2) hy rfl ?_
  intro p e s m args below meth c s₁ B hml hv
  obtain ⟨rfl, hsz, hP, hK, hD0, hN, hX⟩ := hv
  subst hsz
  have hD := hD0.self (sz := s.heap.size)
  rw [lg_entry_eq]
  have hl := lv_entry (avs.map (av ad)) (n := M.2.2.1) (by rw [sl_len]; exact hln)
  refine h.1 (A := va_A (wld ad cI cJ cZ u) s.heap.size) ⟨B.exec, B.bytes, hml, B.returns, findClass_of_methodNamed B.named, atoms_spec (ws := wsM M) B.pre, B.notSynchronized, hK, fun u2 => wld_D hD u2, fun q hq => Or.inr hq, hN, hX, hlt, fun h => absurd h (by decide)⟩ hr ?_ hP va_S.rf
  exact ⟨hl.1, hl.2.1, fun i v hi => hl.2.2 (i, av ad v) (by have := entL_args (ad := ad) avs 0 i v (pad_in hi); simpa using this)⟩
section SC
variable {ρ : Type} {Z : QT ρ} {kx : Nat} {R : Room} {cl sl : Nat} {M : MI} {d pc : Nat} {ex : Option ρ} {ls : LL} {st : List Value} {u : US}
def nx {ρ : Type} (v : US) (k : US → Option ρ) : Option ρ := k v
theorem r_nx {k : US → Option ρ} (h : ∀ v, SimG Z kx R cl sl M (k v) pc ls st v) : SimG Z kx R cl sl M (nx u k) pc ls st u := h u
theorem r_ite {c : Prop} {dc : Decidable c} {e1 e2 : Option ρ} (kt : c → SimG Z kx R cl sl M e1 pc ls st u) (kf : ¬ c → SimG Z kx R cl sl M e2 pc ls st u) : SimG Z kx R cl sl M (@ite _ c dc e1 e2) pc ls st u := by
  refine ⟨?_, trivial⟩
  intro p l e s m args below meth c2 ad dC dI cI cJ cZ A r arr H locs hA hr hl hP hS
  by_cases h : c
  · rw [if_pos h] at hr; exact (kt h).1 hA hr hl hP hS
  · rw [if_neg h] at hr; exact (kf h).1 hA hr hl hP hS
theorem r_tabIn {dflt lo hi : Int} {offs : Array Int} {len : Nat} {x : Int32} {off : Int} {tgt : Nat} (hd : decode M.2.1 pc = .ok (.tableswitch dflt lo hi offs, len)) (h1 : ¬ x.toInt < lo) (h2 : ¬ hi < x.toInt) (ho : offs[(x.toInt - lo).toNat]? = some off) (ht : (pc : Int) + off = (tgt : Int)) (k : SimG Z kx R cl sl M ex tgt ls st u) : SimG Z kx R cl sl M ex pc ls (.int x :: st) u := by
  refine ⟨?_, trivial⟩
  intro p l e s m args below meth c ad dC dI cI cJ cZ A r arr H locs hA hr hl hP hS
  exact lv_tableIn hA.1 hA.2.1 hd h1 h2 ho ht (k.1 hA hr hl hP hS)
theorem r_tabOut {dflt lo hi : Int} {offs : Array Int} {len : Nat} {x : Int32} {tgt : Nat} (hd : decode M.2.1 pc = .ok (.tableswitch dflt lo hi offs, len)) (h : x.toInt < lo ∨ hi < x.toInt) (ht : (pc : Int) + dflt = (tgt : Int)) (k : SimG Z kx R cl sl M ex tgt ls st u) : SimG Z kx R cl sl M ex pc ls (.int x :: st) u := by
  refine ⟨?_, trivial⟩
  intro p l e s m args below meth c ad dC dI cI cJ cZ A r arr H locs hA hr hl hP hS
  exact lv_tableOut hA.1 hA.2.1 hd h ht (k.1 hA hr hl hP hS)
theorem r_look {dflt : Int} {ps : Array (Int × Int)} {len : Nat} {x : Int32} {off : Int} {tgt : Nat} (hd : decode M.2.1 pc = .ok (.lookupswitch dflt ps, len)) (hp : (ps.toList.zip (ps.toList.drop 1)).all (fun (a, next) => a.1 < next.1) = true) (ho : Op.lookupswitch.offset ps.toList dflt x.toInt = off) (ht : (pc : Int) + off = (tgt : Int)) (k : SimG Z kx R cl sl M ex tgt ls st u) : SimG Z kx R cl sl M ex pc ls (.int x :: st) u := by
  refine ⟨?_, trivial⟩
  intro p l e s m args below meth c ad dC dI cI cJ cZ A r arr H locs hA hr hl hP hS
  exact lv_lookup hA.1 hA.2.1 hd hp ho ht (k.1 hA hr hl hP hS)
theorem ne_int {x y : Int32} (h : ¬ x = y) : ¬ x.toInt = y.toInt := fun q => h (Int32.toInt_inj.mp q)
end SC
section SC2
variable {ρ : Type} {Z : QT ρ} {kx : Nat} {M : MI} {d pc : Nat} {ex : Option ρ} {ls : LL} {st : List Value} {u : US}
theorem c_VI {Mc : MI} {dc n idx : Nat} {i ci : Nat} {As st0 : List Value} {fc : Option (Int32 × US)} {k : Int32 → US → Option ρ} (kv : KV M.1.cls idx Mc n ci) (hi : okO i ci = true) (hdc : dc < d) (hm : ∀ r, fc = some r → MetC Mc dc (.ref i :: As) u (tI r)) (hn : As.length = n) (hs : (st.map fun v => v.category).sum ≤ 8) (hst : st0 = As.reverse ++ .ref i :: st) (hd : decode M.2.1 pc = .ok (.invokevirtual idx, 3)) (kk : ∀ a v, SimQ Z kx M d (k a v) (pc + 3) ls (.int a :: st) v) : SimQ Z kx M d (oB fc k) pc ls st0 u := by
  refine ⟨?_, trivial⟩
  intro p l e s m args below meth c ad dC dI cI cJ cZ A r arr H locs hA hr hl hP hS
  cases fc with
  | none => cases hr
  | some q => exact (r_callV kv hi hdc hn (hm _ rfl) hs hd hst rfl (fun _ => rfl) (kk q.1 q.2)).1 hA hr hl hP hS
theorem c_VJ {Mc : MI} {dc n idx : Nat} {i ci : Nat} {As st0 : List Value} {fc : Option (Int64 × US)} {k : Int64 → US → Option ρ} (kv : KV M.1.cls idx Mc n ci) (hi : okO i ci = true) (hdc : dc < d) (hm : ∀ r, fc = some r → MetC Mc dc (.ref i :: As) u (tJ r)) (hn : As.length = n) (hs : (st.map fun v => v.category).sum ≤ 8) (hst : st0 = As.reverse ++ .ref i :: st) (hd : decode M.2.1 pc = .ok (.invokevirtual idx, 3)) (kk : ∀ a v, SimQ Z kx M d (k a v) (pc + 3) ls (.long a :: st) v) : SimQ Z kx M d (oB fc k) pc ls st0 u := by
  refine ⟨?_, trivial⟩
  intro p l e s m args below meth c ad dC dI cI cJ cZ A r arr H locs hA hr hl hP hS
  cases fc with
  | none => cases hr
  | some q => exact (r_callV kv hi hdc hn (hm _ rfl) hs hd hst rfl (fun _ => rfl) (kk q.1 q.2)).1 hA hr hl hP hS
theorem c_VV {Mc : MI} {dc n idx : Nat} {i ci : Nat} {As st0 : List Value} {fc : Option (US)} {k : US → Option ρ} (kv : KV M.1.cls idx Mc n ci) (hi : okO i ci = true) (hdc : dc < d) (hm : ∀ r, fc = some r → MetC Mc dc (.ref i :: As) u (tV r)) (hn : As.length = n) (hs : (st.map fun v => v.category).sum ≤ 8) (hst : st0 = As.reverse ++ .ref i :: st) (hd : decode M.2.1 pc = .ok (.invokevirtual idx, 3)) (kk : ∀ v, SimQ Z kx M d (k v) (pc + 3) ls (st) v) : SimQ Z kx M d (oV fc k) pc ls st0 u := by
  refine ⟨?_, trivial⟩
  intro p l e s m args below meth c ad dC dI cI cJ cZ A r arr H locs hA hr hl hP hS
  cases fc with
  | none => cases hr
  | some v => exact (r_callV kv hi hdc hn (hm _ rfl) hs hd hst rfl (fun _ => rfl) (kk v)).1 hA hr hl hP hS
theorem c_SI {Mc : MI} {dc n idx : Nat} {As st0 : List Value} {fc : Option (Int32 × US)} {k : Int32 → US → Option ρ} (kv : KS M.1.cls idx Mc n) (hdc : dc < d) (hm : ∀ r, fc = some r → MetC Mc dc As u (tI r)) (hn : As.length = n) (hs : (st.map fun v => v.category).sum ≤ 8) (hst : st0 = As.reverse ++ st) (hd : decode M.2.1 pc = .ok (.invokestatic idx, 3)) (kk : ∀ a v, SimQ Z kx M d (k a v) (pc + 3) ls (.int a :: st) v) : SimQ Z kx M d (oB fc k) pc ls st0 u := by
  refine ⟨?_, trivial⟩
  intro p l e s m args below meth c ad dC dI cI cJ cZ A r arr H locs hA hr hl hP hS
  cases fc with
  | none => cases hr
  | some q => exact (r_callS kv hdc hn (hm _ rfl) hs hd hst (fun _ => rfl) (kk q.1 q.2)).1 hA hr hl hP hS
theorem c_SJ {Mc : MI} {dc n idx : Nat} {As st0 : List Value} {fc : Option (Int64 × US)} {k : Int64 → US → Option ρ} (kv : KS M.1.cls idx Mc n) (hdc : dc < d) (hm : ∀ r, fc = some r → MetC Mc dc As u (tJ r)) (hn : As.length = n) (hs : (st.map fun v => v.category).sum ≤ 8) (hst : st0 = As.reverse ++ st) (hd : decode M.2.1 pc = .ok (.invokestatic idx, 3)) (kk : ∀ a v, SimQ Z kx M d (k a v) (pc + 3) ls (.long a :: st) v) : SimQ Z kx M d (oB fc k) pc ls st0 u := by
  refine ⟨?_, trivial⟩
  intro p l e s m args below meth c ad dC dI cI cJ cZ A r arr H locs hA hr hl hP hS
  cases fc with
  | none => cases hr
  | some q => exact (r_callS kv hdc hn (hm _ rfl) hs hd hst (fun _ => rfl) (kk q.1 q.2)).1 hA hr hl hP hS
theorem c_SV {Mc : MI} {dc n idx : Nat} {As st0 : List Value} {fc : Option (US)} {k : US → Option ρ} (kv : KS M.1.cls idx Mc n) (hdc : dc < d) (hm : ∀ r, fc = some r → MetC Mc dc As u (tV r)) (hn : As.length = n) (hs : (st.map fun v => v.category).sum ≤ 8) (hst : st0 = As.reverse ++ st) (hd : decode M.2.1 pc = .ok (.invokestatic idx, 3)) (kk : ∀ v, SimQ Z kx M d (k v) (pc + 3) ls (st) v) : SimQ Z kx M d (oV fc k) pc ls st0 u := by
  refine ⟨?_, trivial⟩
  intro p l e s m args below meth c ad dC dI cI cJ cZ A r arr H locs hA hr hl hP hS
  cases fc with
  | none => cases hr
  | some v => exact (r_callS kv hdc hn (hm _ rfl) hs hd hst (fun _ => rfl) (kk v)).1 hA hr hl hP hS
theorem c_NI {Mc : MI} {dc n idx : Nat} {As st0 : List Value} {fc : Option (Int32 × US)} {k : Int32 → US → Option ρ} (kv : KN M.1.cls idx Mc n) (hdc : dc < d) (hm : ∀ r, fc = some r → MetC Mc dc As u (tI r)) (hn : As.length = n) (hs : (st.map fun v => v.category).sum ≤ 8) (hst : st0 = As.reverse ++ st) (hd : decode M.2.1 pc = .ok (.invokestatic idx, 3)) (kk : ∀ a v, SimQ Z kx M d (k a v) (pc + 3) ls (.int a :: st) v) : SimQ Z kx M d (oB fc k) pc ls st0 u := by
  refine ⟨?_, trivial⟩
  intro p l e s m args below meth c ad dC dI cI cJ cZ A r arr H locs hA hr hl hP hS
  cases fc with
  | none => cases hr
  | some q => exact (r_callN kv hdc hn (hm _ rfl) hs hd hst (fun _ => rfl) (kk q.1 q.2)).1 hA hr hl hP hS
theorem c_NJ {Mc : MI} {dc n idx : Nat} {As st0 : List Value} {fc : Option (Int64 × US)} {k : Int64 → US → Option ρ} (kv : KN M.1.cls idx Mc n) (hdc : dc < d) (hm : ∀ r, fc = some r → MetC Mc dc As u (tJ r)) (hn : As.length = n) (hs : (st.map fun v => v.category).sum ≤ 8) (hst : st0 = As.reverse ++ st) (hd : decode M.2.1 pc = .ok (.invokestatic idx, 3)) (kk : ∀ a v, SimQ Z kx M d (k a v) (pc + 3) ls (.long a :: st) v) : SimQ Z kx M d (oB fc k) pc ls st0 u := by
  refine ⟨?_, trivial⟩
  intro p l e s m args below meth c ad dC dI cI cJ cZ A r arr H locs hA hr hl hP hS
  cases fc with
  | none => cases hr
  | some q => exact (r_callN kv hdc hn (hm _ rfl) hs hd hst (fun _ => rfl) (kk q.1 q.2)).1 hA hr hl hP hS
theorem c_NV {Mc : MI} {dc n idx : Nat} {As st0 : List Value} {fc : Option (US)} {k : US → Option ρ} (kv : KN M.1.cls idx Mc n) (hdc : dc < d) (hm : ∀ r, fc = some r → MetC Mc dc As u (tV r)) (hn : As.length = n) (hs : (st.map fun v => v.category).sum ≤ 8) (hst : st0 = As.reverse ++ st) (hd : decode M.2.1 pc = .ok (.invokestatic idx, 3)) (kk : ∀ v, SimQ Z kx M d (k v) (pc + 3) ls (st) v) : SimQ Z kx M d (oV fc k) pc ls st0 u := by
  refine ⟨?_, trivial⟩
  intro p l e s m args below meth c ad dC dI cI cJ cZ A r arr H locs hA hr hl hP hS
  cases fc with
  | none => cases hr
  | some v => exact (r_callN kv hdc hn (hm _ rfl) hs hd hst (fun _ => rfl) (kk v)).1 hA hr hl hP hS
end SC2
