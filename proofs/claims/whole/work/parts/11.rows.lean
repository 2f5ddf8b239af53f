section SR
variable {ρ : Type} {Z : QT ρ} {kx : Nat} {R : Room} {cl sl : Nat} {M : MI} {d pc : Nat} {ex : Option ρ} {ls : LL} {st : List Value} {u : US}
theorem r_none : SimG Z kx R cl sl M (none : Option ρ) pc ls st u := by
  refine ⟨?_, trivial⟩
  intro p l e s m args below meth c ad dC dI cI cJ cZ A r arr H locs hA hr
  cases hr
theorem r_iconst {n : Int} {v : Int32} (hd : decode M.2.1 pc = .ok (.iconst n, 1)) (hv : Int32.ofInt n = v) (k : SimG Z kx R cl sl M ex (pc + 1) ls (.int v :: st) u) : SimG Z kx R cl sl M ex pc ls (st) u := by
  refine ⟨?_, trivial⟩
  intro p l e s m args below meth c ad dC dI cI cJ cZ A r arr H locs hA hr hl hP hS
  exact lv_iconst hA.1 hA.2.1 hd hv (k.1 hA hr hl hP hS)
theorem r_bipush {n : Int} {v : Int32} (hd : decode M.2.1 pc = .ok (.bipush n, 2)) (hv : (Int8.ofInt n).toInt32 = v) (k : SimG Z kx R cl sl M ex (pc + 2) ls (.int v :: st) u) : SimG Z kx R cl sl M ex pc ls (st) u := by
  refine ⟨?_, trivial⟩
  intro p l e s m args below meth c ad dC dI cI cJ cZ A r arr H locs hA hr hl hP hS
  exact lv_bipush hA.1 hA.2.1 hd hv (k.1 hA hr hl hP hS)
theorem r_sipush {n : Int} {v : Int32} (hd : decode M.2.1 pc = .ok (.sipush n, 3)) (hv : (Int16.ofInt n).toInt32 = v) (k : SimG Z kx R cl sl M ex (pc + 3) ls (.int v :: st) u) : SimG Z kx R cl sl M ex pc ls (st) u := by
  refine ⟨?_, trivial⟩
  intro p l e s m args below meth c ad dC dI cI cJ cZ A r arr H locs hA hr hl hP hS
  exact lv_sipush hA.1 hA.2.1 hd hv (k.1 hA hr hl hP hS)
theorem r_lconst {n : Fin 2} {v : Int64} (hd : decode M.2.1 pc = .ok (.lconst n, 1)) (hv : Int64.ofNat (n : Nat) = v) (k : SimG Z kx R cl sl M ex (pc + 1) ls (.long v :: st) u) : SimG Z kx R cl sl M ex pc ls (st) u := by
  refine ⟨?_, trivial⟩
  intro p l e s m args below meth c ad dC dI cI cJ cZ A r arr H locs hA hr hl hP hS
  exact lv_lconst hA.1 hA.2.1 hd hv (k.1 hA hr hl hP hS)
theorem r_iload {i : Nat} {x : Int32} (hd : decode M.2.1 pc = .ok (.iload i, 2)) (hv : ls[i]? = some (some (.int x))) (k : SimG Z kx R cl sl M ex (pc + 2) ls (.int x :: st) u) : SimG Z kx R cl sl M ex pc ls (st) u := by
  refine ⟨?_, trivial⟩
  intro p l e s m args below meth c ad dC dI cI cJ cZ A r arr H locs hA hr hl hP hS
  exact lv_iload hA.1 hA.2.1 hd (hl.2.2 i _ hv) (k.1 hA hr hl hP hS)
theorem r_iload_n {n : Fin 4} {x : Int32} (hd : decode M.2.1 pc = .ok (.iload_n n, 1)) (hv : ls[n.val]? = some (some (.int x))) (k : SimG Z kx R cl sl M ex (pc + 1) ls (.int x :: st) u) : SimG Z kx R cl sl M ex pc ls (st) u := by
  refine ⟨?_, trivial⟩
  intro p l e s m args below meth c ad dC dI cI cJ cZ A r arr H locs hA hr hl hP hS
  exact lv_iload_n hA.1 hA.2.1 hd rfl (hl.2.2 n.val _ hv) (k.1 hA hr hl hP hS)
theorem r_lload {i : Nat} {x : Int64} (hd : decode M.2.1 pc = .ok (.lload i, 2)) (hv : ls[i]? = some (some (.long x))) (k : SimG Z kx R cl sl M ex (pc + 2) ls (.long x :: st) u) : SimG Z kx R cl sl M ex pc ls (st) u := by
  refine ⟨?_, trivial⟩
  intro p l e s m args below meth c ad dC dI cI cJ cZ A r arr H locs hA hr hl hP hS
  exact lv_lload hA.1 hA.2.1 hd (hl.2.2 i _ hv) (k.1 hA hr hl hP hS)
theorem r_lload_n {n : Fin 4} {x : Int64} (hd : decode M.2.1 pc = .ok (.lload_n n, 1)) (hv : ls[n.val]? = some (some (.long x))) (k : SimG Z kx R cl sl M ex (pc + 1) ls (.long x :: st) u) : SimG Z kx R cl sl M ex pc ls (st) u := by
  refine ⟨?_, trivial⟩
  intro p l e s m args below meth c ad dC dI cI cJ cZ A r arr H locs hA hr hl hP hS
  exact lv_lload_n hA.1 hA.2.1 hd rfl (hl.2.2 n.val _ hv) (k.1 hA hr hl hP hS)
theorem r_aload {i : Nat} {x : Nat} (hd : decode M.2.1 pc = .ok (.aload i, 2)) (hv : ls[i]? = some (some (.ref x))) (k : SimG Z kx R cl sl M ex (pc + 2) ls (.ref x :: st) u) : SimG Z kx R cl sl M ex pc ls (st) u := by
  refine ⟨?_, trivial⟩
  intro p l e s m args below meth c ad dC dI cI cJ cZ A r arr H locs hA hr hl hP hS
  exact lv_aload hA.1 hA.2.1 hd (hl.2.2 i _ hv) (k.1 hA hr hl hP hS)
theorem r_aload_n {n : Fin 4} {x : Nat} (hd : decode M.2.1 pc = .ok (.aload_n n, 1)) (hv : ls[n.val]? = some (some (.ref x))) (k : SimG Z kx R cl sl M ex (pc + 1) ls (.ref x :: st) u) : SimG Z kx R cl sl M ex pc ls (st) u := by
  refine ⟨?_, trivial⟩
  intro p l e s m args below meth c ad dC dI cI cJ cZ A r arr H locs hA hr hl hP hS
  exact lv_aload_n hA.1 hA.2.1 hd rfl (hl.2.2 n.val _ hv) (k.1 hA hr hl hP hS)
theorem r_istore {i : Nat} {x : Int32} {ls2 : LL} (hd : decode M.2.1 pc = .ok (.istore i, 2)) (hn : i < M.2.2.1) (h2 : st1 ls i (.int x) = ls2) (k : SimG Z kx R cl sl M ex (pc + 2) ls2 st u) : SimG Z kx R cl sl M ex pc ls (.int x :: st) u := by
  refine ⟨?_, trivial⟩
  intro p l e s m args below meth c ad dC dI cI cJ cZ A r arr H locs hA hr hl hP hS
  subst h2
  exact lv_istore hA.1 hA.2.1 hd (Rl_has hl) hn rfl (fun arr2 h9 => k.1 hA hr (Rl_st1 (v := .int x) h9) hP hS)
theorem r_istore_n {n : Fin 4} {x : Int32} {ls2 : LL} (hd : decode M.2.1 pc = .ok (.istore_n n, 1)) (hn : n.val < M.2.2.1) (h2 : st1 ls n.val (.int x) = ls2) (k : SimG Z kx R cl sl M ex (pc + 1) ls2 st u) : SimG Z kx R cl sl M ex pc ls (.int x :: st) u := by
  refine ⟨?_, trivial⟩
  intro p l e s m args below meth c ad dC dI cI cJ cZ A r arr H locs hA hr hl hP hS
  subst h2
  exact lv_istore_n hA.1 hA.2.1 hd rfl (Rl_has hl) hn rfl (fun arr2 h9 => k.1 hA hr (Rl_st1 (v := .int x) h9) hP hS)
theorem r_astore {i : Nat} {x : Nat} {ls2 : LL} (hd : decode M.2.1 pc = .ok (.astore i, 2)) (hn : i < M.2.2.1) (h2 : st1 ls i (.ref x) = ls2) (k : SimG Z kx R cl sl M ex (pc + 2) ls2 st u) : SimG Z kx R cl sl M ex pc ls (.ref x :: st) u := by
  refine ⟨?_, trivial⟩
  intro p l e s m args below meth c ad dC dI cI cJ cZ A r arr H locs hA hr hl hP hS
  subst h2
  exact lv_astore hA.1 hA.2.1 hd (Rl_has hl) hn rfl (fun arr2 h9 => k.1 hA hr (Rl_st1 (v := .ref x) h9) hP hS)
theorem r_astore_n {n : Fin 4} {x : Nat} {ls2 : LL} (hd : decode M.2.1 pc = .ok (.astore_n n, 1)) (hn : n.val < M.2.2.1) (h2 : st1 ls n.val (.ref x) = ls2) (k : SimG Z kx R cl sl M ex (pc + 1) ls2 st u) : SimG Z kx R cl sl M ex pc ls (.ref x :: st) u := by
  refine ⟨?_, trivial⟩
  intro p l e s m args below meth c ad dC dI cI cJ cZ A r arr H locs hA hr hl hP hS
  subst h2
  exact lv_astore_n hA.1 hA.2.1 hd rfl (Rl_has hl) hn rfl (fun arr2 h9 => k.1 hA hr (Rl_st1 (v := .ref x) h9) hP hS)
theorem r_lstore {i : Nat} {x : Int64} {ls2 : LL} (hd : decode M.2.1 pc = .ok (.lstore i, 2)) (hn : i + 1 < M.2.2.1) (h2 : st2 ls i (.long x) = ls2) (k : SimG Z kx R cl sl M ex (pc + 2) ls2 st u) : SimG Z kx R cl sl M ex pc ls (.long x :: st) u := by
  refine ⟨?_, trivial⟩
  intro p l e s m args below meth c ad dC dI cI cJ cZ A r arr H locs hA hr hl hP hS
  subst h2
  exact lv_lstore hA.1 hA.2.1 hd (Rl_has hl) hn rfl (fun arr2 h9 => k.1 hA hr (Rl_st2 (v := .long x) h9) hP hS)
theorem r_lstore_n {n : Fin 4} {x : Int64} {ls2 : LL} (hd : decode M.2.1 pc = .ok (.lstore_n n, 1)) (hn : n.val + 1 < M.2.2.1) (h2 : st2 ls n.val (.long x) = ls2) (k : SimG Z kx R cl sl M ex (pc + 1) ls2 st u) : SimG Z kx R cl sl M ex pc ls (.long x :: st) u := by
  refine ⟨?_, trivial⟩
  intro p l e s m args below meth c ad dC dI cI cJ cZ A r arr H locs hA hr hl hP hS
  subst h2
  exact lv_lstore_n hA.1 hA.2.1 hd rfl (Rl_has hl) hn rfl (fun arr2 h9 => k.1 hA hr (Rl_st2 (v := .long x) h9) hP hS)
theorem r_iinc {i : Nat} {n : Int} {x v : Int32} {ls2 : LL} (hd : decode M.2.1 pc = .ok (.iinc i n, 3)) (hn : i < M.2.2.1) (hx : ls[i]? = some (some (.int x))) (hv : x + Int32.ofInt n = v) (h2 : st1 ls i (.int v) = ls2) (k : SimG Z kx R cl sl M ex (pc + 3) ls2 st u) : SimG Z kx R cl sl M ex pc ls st u := by
  refine ⟨?_, trivial⟩
  intro p l e s m args below meth c ad dC dI cI cJ cZ A r arr H locs hA hr hl hP hS
  subst h2
  obtain ⟨j, hj⟩ := List.mem_iff_getElem?.mp (asc_mem (ad := ad).mpr ⟨_, hx, rfl⟩)
  exact lv_iinc hA.1 hA.2.1 hd (Rl_has hl) (k := j) hj hv hn rfl (fun arr2 h9 => k.1 hA hr (Rl_st1 (v := .int v) h9) hP hS)
theorem r_iadd {x y : Int32} (hd : decode M.2.1 pc = .ok (.iadd, 1)) (k : SimG Z kx R cl sl M ex (pc + 1) ls (.int (x + y) :: st) u) : SimG Z kx R cl sl M ex pc ls (.int y :: .int x :: st) u := by
  refine ⟨?_, trivial⟩
  intro p l e s m args below meth c ad dC dI cI cJ cZ A r arr H locs hA hr hl hP hS
  exact lv_iadd hA.1 hA.2.1 hd (k.1 hA hr hl hP hS)
theorem r_isub {x y : Int32} (hd : decode M.2.1 pc = .ok (.isub, 1)) (k : SimG Z kx R cl sl M ex (pc + 1) ls (.int (x - y) :: st) u) : SimG Z kx R cl sl M ex pc ls (.int y :: .int x :: st) u := by
  refine ⟨?_, trivial⟩
  intro p l e s m args below meth c ad dC dI cI cJ cZ A r arr H locs hA hr hl hP hS
  exact lv_isub hA.1 hA.2.1 hd (k.1 hA hr hl hP hS)
theorem r_imul {x y : Int32} (hd : decode M.2.1 pc = .ok (.imul, 1)) (k : SimG Z kx R cl sl M ex (pc + 1) ls (.int (x * y) :: st) u) : SimG Z kx R cl sl M ex pc ls (.int y :: .int x :: st) u := by
  refine ⟨?_, trivial⟩
  intro p l e s m args below meth c ad dC dI cI cJ cZ A r arr H locs hA hr hl hP hS
  exact lv_imul hA.1 hA.2.1 hd (k.1 hA hr hl hP hS)
theorem r_iand {x y : Int32} (hd : decode M.2.1 pc = .ok (.iand, 1)) (k : SimG Z kx R cl sl M ex (pc + 1) ls (.int (x &&& y) :: st) u) : SimG Z kx R cl sl M ex pc ls (.int y :: .int x :: st) u := by
  refine ⟨?_, trivial⟩
  intro p l e s m args below meth c ad dC dI cI cJ cZ A r arr H locs hA hr hl hP hS
  exact lv_iand hA.1 hA.2.1 hd (k.1 hA hr hl hP hS)
theorem r_ior {x y : Int32} (hd : decode M.2.1 pc = .ok (.ior, 1)) (k : SimG Z kx R cl sl M ex (pc + 1) ls (.int (x ||| y) :: st) u) : SimG Z kx R cl sl M ex pc ls (.int y :: .int x :: st) u := by
  refine ⟨?_, trivial⟩
  intro p l e s m args below meth c ad dC dI cI cJ cZ A r arr H locs hA hr hl hP hS
  exact lv_ior hA.1 hA.2.1 hd (k.1 hA hr hl hP hS)
theorem r_ixor {x y : Int32} (hd : decode M.2.1 pc = .ok (.ixor, 1)) (k : SimG Z kx R cl sl M ex (pc + 1) ls (.int (x ^^^ y) :: st) u) : SimG Z kx R cl sl M ex pc ls (.int y :: .int x :: st) u := by
  refine ⟨?_, trivial⟩
  intro p l e s m args below meth c ad dC dI cI cJ cZ A r arr H locs hA hr hl hP hS
  exact lv_ixor hA.1 hA.2.1 hd (k.1 hA hr hl hP hS)
theorem r_ishl {x y : Int32} (hd : decode M.2.1 pc = .ok (.ishl, 1)) (k : SimG Z kx R cl sl M ex (pc + 1) ls (.int (x <<< (y &&& 31)) :: st) u) : SimG Z kx R cl sl M ex pc ls (.int y :: .int x :: st) u := by
  refine ⟨?_, trivial⟩
  intro p l e s m args below meth c ad dC dI cI cJ cZ A r arr H locs hA hr hl hP hS
  exact lv_ishl hA.1 hA.2.1 hd (k.1 hA hr hl hP hS)
theorem r_ishr {x y : Int32} (hd : decode M.2.1 pc = .ok (.ishr, 1)) (k : SimG Z kx R cl sl M ex (pc + 1) ls (.int (x >>> (y &&& 31)) :: st) u) : SimG Z kx R cl sl M ex pc ls (.int y :: .int x :: st) u := by
  refine ⟨?_, trivial⟩
  intro p l e s m args below meth c ad dC dI cI cJ cZ A r arr H locs hA hr hl hP hS
  exact lv_ishr hA.1 hA.2.1 hd (k.1 hA hr hl hP hS)
theorem r_iushr {x y : Int32} (hd : decode M.2.1 pc = .ok (.iushr, 1)) (k : SimG Z kx R cl sl M ex (pc + 1) ls (.int ((x.toUInt32 >>> (y.toUInt32 &&& Int32.toUInt32 31)).toInt32) :: st) u) : SimG Z kx R cl sl M ex pc ls (.int y :: .int x :: st) u := by
  refine ⟨?_, trivial⟩
  intro p l e s m args below meth c ad dC dI cI cJ cZ A r arr H locs hA hr hl hP hS
  exact lv_iushr hA.1 hA.2.1 hd rfl (k.1 hA hr hl hP hS)
theorem r_ineg {x : Int32} (hd : decode M.2.1 pc = .ok (.ineg, 1)) (k : SimG Z kx R cl sl M ex (pc + 1) ls (.int (-x) :: st) u) : SimG Z kx R cl sl M ex pc ls (.int x :: st) u := by
  refine ⟨?_, trivial⟩
  intro p l e s m args below meth c ad dC dI cI cJ cZ A r arr H locs hA hr hl hP hS
  exact lv_ineg hA.1 hA.2.1 hd (k.1 hA hr hl hP hS)
theorem r_ladd {x y : Int64} (hd : decode M.2.1 pc = .ok (.ladd, 1)) (k : SimG Z kx R cl sl M ex (pc + 1) ls (.long (x + y) :: st) u) : SimG Z kx R cl sl M ex pc ls (.long y :: .long x :: st) u := by
  refine ⟨?_, trivial⟩
  intro p l e s m args below meth c ad dC dI cI cJ cZ A r arr H locs hA hr hl hP hS
  exact lv_ladd hA.1 hA.2.1 hd (k.1 hA hr hl hP hS)
theorem r_lsub {x y : Int64} (hd : decode M.2.1 pc = .ok (.lsub, 1)) (k : SimG Z kx R cl sl M ex (pc + 1) ls (.long (x - y) :: st) u) : SimG Z kx R cl sl M ex pc ls (.long y :: .long x :: st) u := by
  refine ⟨?_, trivial⟩
  intro p l e s m args below meth c ad dC dI cI cJ cZ A r arr H locs hA hr hl hP hS
  exact lv_lsub hA.1 hA.2.1 hd (k.1 hA hr hl hP hS)
theorem r_lmul {x y : Int64} (hd : decode M.2.1 pc = .ok (.lmul, 1)) (k : SimG Z kx R cl sl M ex (pc + 1) ls (.long (x * y) :: st) u) : SimG Z kx R cl sl M ex pc ls (.long y :: .long x :: st) u := by
  refine ⟨?_, trivial⟩
  intro p l e s m args below meth c ad dC dI cI cJ cZ A r arr H locs hA hr hl hP hS
  exact lv_lmul hA.1 hA.2.1 hd (k.1 hA hr hl hP hS)
theorem r_land {x y : Int64} (hd : decode M.2.1 pc = .ok (.land, 1)) (k : SimG Z kx R cl sl M ex (pc + 1) ls (.long (x &&& y) :: st) u) : SimG Z kx R cl sl M ex pc ls (.long y :: .long x :: st) u := by
  refine ⟨?_, trivial⟩
  intro p l e s m args below meth c ad dC dI cI cJ cZ A r arr H locs hA hr hl hP hS
  exact lv_land hA.1 hA.2.1 hd (k.1 hA hr hl hP hS)
theorem r_lor {x y : Int64} (hd : decode M.2.1 pc = .ok (.lor, 1)) (k : SimG Z kx R cl sl M ex (pc + 1) ls (.long (x ||| y) :: st) u) : SimG Z kx R cl sl M ex pc ls (.long y :: .long x :: st) u := by
  refine ⟨?_, trivial⟩
  intro p l e s m args below meth c ad dC dI cI cJ cZ A r arr H locs hA hr hl hP hS
  exact lv_lor hA.1 hA.2.1 hd (k.1 hA hr hl hP hS)
theorem r_lxor {x y : Int64} (hd : decode M.2.1 pc = .ok (.lxor, 1)) (k : SimG Z kx R cl sl M ex (pc + 1) ls (.long (x ^^^ y) :: st) u) : SimG Z kx R cl sl M ex pc ls (.long y :: .long x :: st) u := by
  refine ⟨?_, trivial⟩
  intro p l e s m args below meth c ad dC dI cI cJ cZ A r arr H locs hA hr hl hP hS
  exact lv_lxor hA.1 hA.2.1 hd (k.1 hA hr hl hP hS)
theorem r_lneg {x : Int64} (hd : decode M.2.1 pc = .ok (.lneg, 1)) (k : SimG Z kx R cl sl M ex (pc + 1) ls (.long (-x) :: st) u) : SimG Z kx R cl sl M ex pc ls (.long x :: st) u := by
  refine ⟨?_, trivial⟩
  intro p l e s m args below meth c ad dC dI cI cJ cZ A r arr H locs hA hr hl hP hS
  exact lv_lneg hA.1 hA.2.1 hd (k.1 hA hr hl hP hS)
theorem r_lushr {x : Int64} {y : Int32} (hd : decode M.2.1 pc = .ok (.lushr, 1)) (k : SimG Z kx R cl sl M ex (pc + 1) ls (.long ((x.toUInt64 >>> (y.toInt64.toUInt64 &&& Int64.toUInt64 63)).toInt64) :: st) u) : SimG Z kx R cl sl M ex pc ls (.int y :: .long x :: st) u := by
  refine ⟨?_, trivial⟩
  intro p l e s m args below meth c ad dC dI cI cJ cZ A r arr H locs hA hr hl hP hS
  exact lv_lushr hA.1 hA.2.1 hd rfl (k.1 hA hr hl hP hS)
theorem r_lshl {x : Int64} {y : Int32} (hd : decode M.2.1 pc = .ok (.lshl, 1)) (k : SimG Z kx R cl sl M ex (pc + 1) ls (.long (x <<< (y.toInt64 &&& 63)) :: st) u) : SimG Z kx R cl sl M ex pc ls (.int y :: .long x :: st) u := by
  refine ⟨?_, trivial⟩
  intro p l e s m args below meth c ad dC dI cI cJ cZ A r arr H locs hA hr hl hP hS
  exact lv_lshl hA.1 hA.2.1 hd rfl (k.1 hA hr hl hP hS)
theorem r_i2l {x : Int32} (hd : decode M.2.1 pc = .ok (.i2l, 1)) (k : SimG Z kx R cl sl M ex (pc + 1) ls (.long x.toInt64 :: st) u) : SimG Z kx R cl sl M ex pc ls (.int x :: st) u := by
  refine ⟨?_, trivial⟩
  intro p l e s m args below meth c ad dC dI cI cJ cZ A r arr H locs hA hr hl hP hS
  exact lv_i2l hA.1 hA.2.1 hd rfl (k.1 hA hr hl hP hS)
theorem r_l2i {x : Int64} (hd : decode M.2.1 pc = .ok (.l2i, 1)) (k : SimG Z kx R cl sl M ex (pc + 1) ls (.int x.toInt32 :: st) u) : SimG Z kx R cl sl M ex pc ls (.long x :: st) u := by
  refine ⟨?_, trivial⟩
  intro p l e s m args below meth c ad dC dI cI cJ cZ A r arr H locs hA hr hl hP hS
  exact lv_l2i hA.1 hA.2.1 hd rfl (k.1 hA hr hl hP hS)
theorem r_i2b {x : Int32} (hd : decode M.2.1 pc = .ok (.i2b, 1)) (k : SimG Z kx R cl sl M ex (pc + 1) ls (.int x.toInt8.toInt32 :: st) u) : SimG Z kx R cl sl M ex pc ls (.int x :: st) u := by
  refine ⟨?_, trivial⟩
  intro p l e s m args below meth c ad dC dI cI cJ cZ A r arr H locs hA hr hl hP hS
  exact lv_i2b hA.1 hA.2.1 hd rfl (k.1 hA hr hl hP hS)
theorem r_i2s {x : Int32} (hd : decode M.2.1 pc = .ok (.i2s, 1)) (k : SimG Z kx R cl sl M ex (pc + 1) ls (.int x.toInt16.toInt32 :: st) u) : SimG Z kx R cl sl M ex pc ls (.int x :: st) u := by
  refine ⟨?_, trivial⟩
  intro p l e s m args below meth c ad dC dI cI cJ cZ A r arr H locs hA hr hl hP hS
  exact lv_i2s hA.1 hA.2.1 hd rfl (k.1 hA hr hl hP hS)
theorem r_lcmp {x y : Int64} (hd : decode M.2.1 pc = .ok (.lcmp, 1)) (k : SimG Z kx R cl sl M ex (pc + 1) ls (.int (lg_cmp x y) :: st) u) : SimG Z kx R cl sl M ex pc ls (.long y :: .long x :: st) u := by
  refine ⟨?_, trivial⟩
  intro p l e s m args below meth c ad dC dI cI cJ cZ A r arr H locs hA hr hl hP hS
  exact W.lcmp hA.1 hA.2.1 hd (k.1 hA hr hl hP hS)
theorem r_dup {v : Value} (hd : decode M.2.1 pc = .ok (.dup, 1)) (hv : v.category = 1) (k : SimG Z kx R cl sl M ex (pc + 1) ls (v :: v :: st) u) : SimG Z kx R cl sl M ex pc ls (v :: st) u := by
  refine ⟨?_, trivial⟩
  intro p l e s m args below meth c ad dC dI cI cJ cZ A r arr H locs hA hr hl hP hS
  exact lv_dup hA.1 hA.2.1 hd (by rw [av_cat]; exact hv) (k.1 hA hr hl hP hS)
theorem r_pop {v : Value} (hd : decode M.2.1 pc = .ok (.pop, 1)) (hv : v.category = 1) (k : SimG Z kx R cl sl M ex (pc + 1) ls (st) u) : SimG Z kx R cl sl M ex pc ls (v :: st) u := by
  refine ⟨?_, trivial⟩
  intro p l e s m args below meth c ad dC dI cI cJ cZ A r arr H locs hA hr hl hP hS
  exact lv_pop hA.1 hA.2.1 hd (va := av ad v) (by rw [av_cat]; exact hv) (k.1 hA hr hl hP hS)
theorem r_dup2 {v w : Value} (hd : decode M.2.1 pc = .ok (.dup2, 1)) (hv : v.category = 1) (hw : w.category = 1) (k : SimG Z kx R cl sl M ex (pc + 1) ls (v :: w :: v :: w :: st) u) : SimG Z kx R cl sl M ex pc ls (v :: w :: st) u := by
  refine ⟨?_, trivial⟩
  intro p l e s m args below meth c ad dC dI cI cJ cZ A r arr H locs hA hr hl hP hS
  exact lv_dup2_11 hA.1 hA.2.1 hd (by rw [av_cat]; exact hv) (by rw [av_cat]; exact hw) (k.1 hA hr hl hP hS)
theorem r_idiv {x y : Int32} (hd : decode M.2.1 pc = .ok (.idiv, 1)) (k : SimG Z kx R cl sl M ex (pc + 1) ls (.int (x / y) :: st) u) : SimG Z kx R cl sl M (if y = 0 then none else ex) pc ls (.int y :: .int x :: st) u := by
  refine ⟨?_, trivial⟩
  intro p l e s m args below meth c ad dC dI cI cJ cZ A r arr H locs hA hr hl hP hS
  by_cases h0 : y = 0
  · rw [if_pos h0] at hr; cases hr
  · rw [if_neg h0] at hr
    exact lv_idiv hA.1 hA.2.1 hd h0 (k.1 hA hr hl hP hS)
theorem r_irem {x y : Int32} (hd : decode M.2.1 pc = .ok (.irem, 1)) (k : SimG Z kx R cl sl M ex (pc + 1) ls (.int (x - x / y * y) :: st) u) : SimG Z kx R cl sl M (if y = 0 then none else ex) pc ls (.int y :: .int x :: st) u := by
  refine ⟨?_, trivial⟩
  intro p l e s m args below meth c ad dC dI cI cJ cZ A r arr H locs hA hr hl hP hS
  by_cases h0 : y = 0
  · rw [if_pos h0] at hr; cases hr
  · rw [if_neg h0] at hr
    exact lv_irem hA.1 hA.2.1 hd h0 (k.1 hA hr hl hP hS)
theorem r_ldiv {x y : Int64} (hd : decode M.2.1 pc = .ok (.ldiv, 1)) (k : SimG Z kx R cl sl M ex (pc + 1) ls (.long (x / y) :: st) u) : SimG Z kx R cl sl M (if y = 0 then none else ex) pc ls (.long y :: .long x :: st) u := by
  refine ⟨?_, trivial⟩
  intro p l e s m args below meth c ad dC dI cI cJ cZ A r arr H locs hA hr hl hP hS
  by_cases h0 : y = 0
  · rw [if_pos h0] at hr; cases hr
  · rw [if_neg h0] at hr
    exact lv_ldiv hA.1 hA.2.1 hd h0 (k.1 hA hr hl hP hS)
theorem r_lrem {x y : Int64} (hd : decode M.2.1 pc = .ok (.lrem, 1)) (k : SimG Z kx R cl sl M ex (pc + 1) ls (.long (x - x / y * y) :: st) u) : SimG Z kx R cl sl M (if y = 0 then none else ex) pc ls (.long y :: .long x :: st) u := by
  refine ⟨?_, trivial⟩
  intro p l e s m args below meth c ad dC dI cI cJ cZ A r arr H locs hA hr hl hP hS
  by_cases h0 : y = 0
  · rw [if_pos h0] at hr; cases hr
  · rw [if_neg h0] at hr
    exact lv_lrem hA.1 hA.2.1 hd h0 (k.1 hA hr hl hP hS)
theorem r_if_eq {x : Int32} {off : Int} {tgt : Nat} {e1 e2 : Option ρ} (hd : decode M.2.1 pc = .ok (.ifCond .eq off, 3)) (ht : (pc : Int) + off = (tgt : Int)) (kt : SimG Z kx R cl sl M e1 tgt ls st u) (kf : SimG Z kx R cl sl M e2 (pc + 3) ls st u) : SimG Z kx R cl sl M (if x = 0 then e1 else e2) pc ls (.int x :: st) u := by
  refine ⟨?_, trivial⟩
  intro p l e s m args below meth c ad dC dI cI cJ cZ A r arr H locs hA hr hl hP hS
  refine lv_if_eq hA.1 hA.2.1 hd ht (fun h9 => ?_) (fun h9 => ?_)
  · rw [if_pos h9] at hr; exact kt.1 hA hr hl hP hS
  · rw [if_neg h9] at hr; exact kf.1 hA hr hl hP hS
theorem r_icmp_eq {x y : Int32} {off : Int} {tgt : Nat} {e1 e2 : Option ρ} (hd : decode M.2.1 pc = .ok (.if_icmp .eq off, 3)) (ht : (pc : Int) + off = (tgt : Int)) (kt : SimG Z kx R cl sl M e1 tgt ls st u) (kf : SimG Z kx R cl sl M e2 (pc + 3) ls st u) : SimG Z kx R cl sl M (if x = y then e1 else e2) pc ls (.int y :: .int x :: st) u := by
  refine ⟨?_, trivial⟩
  intro p l e s m args below meth c ad dC dI cI cJ cZ A r arr H locs hA hr hl hP hS
  refine lv_icmp_eq hA.1 hA.2.1 hd ht (fun h9 => ?_) (fun h9 => ?_)
  · rw [if_pos h9] at hr; exact kt.1 hA hr hl hP hS
  · rw [if_neg h9] at hr; exact kf.1 hA hr hl hP hS
theorem r_if_ne {x : Int32} {off : Int} {tgt : Nat} {e1 e2 : Option ρ} (hd : decode M.2.1 pc = .ok (.ifCond .ne off, 3)) (ht : (pc : Int) + off = (tgt : Int)) (kt : SimG Z kx R cl sl M e1 tgt ls st u) (kf : SimG Z kx R cl sl M e2 (pc + 3) ls st u) : SimG Z kx R cl sl M (if x = 0 then e2 else e1) pc ls (.int x :: st) u := by
  refine ⟨?_, trivial⟩
  intro p l e s m args below meth c ad dC dI cI cJ cZ A r arr H locs hA hr hl hP hS
  refine lv_if_ne hA.1 hA.2.1 hd ht (fun h9 => ?_) (fun h9 => ?_)
  · rw [if_neg h9] at hr; exact kt.1 hA hr hl hP hS
  · rw [if_pos h9] at hr; exact kf.1 hA hr hl hP hS
theorem r_icmp_ne {x y : Int32} {off : Int} {tgt : Nat} {e1 e2 : Option ρ} (hd : decode M.2.1 pc = .ok (.if_icmp .ne off, 3)) (ht : (pc : Int) + off = (tgt : Int)) (kt : SimG Z kx R cl sl M e1 tgt ls st u) (kf : SimG Z kx R cl sl M e2 (pc + 3) ls st u) : SimG Z kx R cl sl M (if x = y then e2 else e1) pc ls (.int y :: .int x :: st) u := by
  refine ⟨?_, trivial⟩
  intro p l e s m args below meth c ad dC dI cI cJ cZ A r arr H locs hA hr hl hP hS
  refine lv_icmp_ne hA.1 hA.2.1 hd ht (fun h9 => ?_) (fun h9 => ?_)
  · rw [if_neg h9] at hr; exact kt.1 hA hr hl hP hS
  · rw [if_pos h9] at hr; exact kf.1 hA hr hl hP hS
theorem r_if_lt {x : Int32} {off : Int} {tgt : Nat} {e1 e2 : Option ρ} (hd : decode M.2.1 pc = .ok (.ifCond .lt off, 3)) (ht : (pc : Int) + off = (tgt : Int)) (kt : SimG Z kx R cl sl M e1 tgt ls st u) (kf : SimG Z kx R cl sl M e2 (pc + 3) ls st u) : SimG Z kx R cl sl M (if x < 0 then e1 else e2) pc ls (.int x :: st) u := by
  refine ⟨?_, trivial⟩
  intro p l e s m args below meth c ad dC dI cI cJ cZ A r arr H locs hA hr hl hP hS
  refine lv_if_lt hA.1 hA.2.1 hd ht (fun h9 => ?_) (fun h9 => ?_)
  · rw [if_pos h9] at hr; exact kt.1 hA hr hl hP hS
  · rw [if_neg h9] at hr; exact kf.1 hA hr hl hP hS
theorem r_icmp_lt {x y : Int32} {off : Int} {tgt : Nat} {e1 e2 : Option ρ} (hd : decode M.2.1 pc = .ok (.if_icmp .lt off, 3)) (ht : (pc : Int) + off = (tgt : Int)) (kt : SimG Z kx R cl sl M e1 tgt ls st u) (kf : SimG Z kx R cl sl M e2 (pc + 3) ls st u) : SimG Z kx R cl sl M (if x < y then e1 else e2) pc ls (.int y :: .int x :: st) u := by
  refine ⟨?_, trivial⟩
  intro p l e s m args below meth c ad dC dI cI cJ cZ A r arr H locs hA hr hl hP hS
  refine lv_icmp_lt hA.1 hA.2.1 hd ht (fun h9 => ?_) (fun h9 => ?_)
  · rw [if_pos h9] at hr; exact kt.1 hA hr hl hP hS
  · rw [if_neg h9] at hr; exact kf.1 hA hr hl hP hS
theorem r_if_ge {x : Int32} {off : Int} {tgt : Nat} {e1 e2 : Option ρ} (hd : decode M.2.1 pc = .ok (.ifCond .ge off, 3)) (ht : (pc : Int) + off = (tgt : Int)) (kt : SimG Z kx R cl sl M e1 tgt ls st u) (kf : SimG Z kx R cl sl M e2 (pc + 3) ls st u) : SimG Z kx R cl sl M (if 0 ≤ x then e1 else e2) pc ls (.int x :: st) u := by
  refine ⟨?_, trivial⟩
  intro p l e s m args below meth c ad dC dI cI cJ cZ A r arr H locs hA hr hl hP hS
  refine lv_if_ge hA.1 hA.2.1 hd ht (fun h9 => ?_) (fun h9 => ?_)
  · rw [if_pos h9] at hr; exact kt.1 hA hr hl hP hS
  · rw [if_neg h9] at hr; exact kf.1 hA hr hl hP hS
theorem r_icmp_ge {x y : Int32} {off : Int} {tgt : Nat} {e1 e2 : Option ρ} (hd : decode M.2.1 pc = .ok (.if_icmp .ge off, 3)) (ht : (pc : Int) + off = (tgt : Int)) (kt : SimG Z kx R cl sl M e1 tgt ls st u) (kf : SimG Z kx R cl sl M e2 (pc + 3) ls st u) : SimG Z kx R cl sl M (if y ≤ x then e1 else e2) pc ls (.int y :: .int x :: st) u := by
  refine ⟨?_, trivial⟩
  intro p l e s m args below meth c ad dC dI cI cJ cZ A r arr H locs hA hr hl hP hS
  refine lv_icmp_ge hA.1 hA.2.1 hd ht (fun h9 => ?_) (fun h9 => ?_)
  · rw [if_pos h9] at hr; exact kt.1 hA hr hl hP hS
  · rw [if_neg h9] at hr; exact kf.1 hA hr hl hP hS
theorem r_if_gt {x : Int32} {off : Int} {tgt : Nat} {e1 e2 : Option ρ} (hd : decode M.2.1 pc = .ok (.ifCond .gt off, 3)) (ht : (pc : Int) + off = (tgt : Int)) (kt : SimG Z kx R cl sl M e1 tgt ls st u) (kf : SimG Z kx R cl sl M e2 (pc + 3) ls st u) : SimG Z kx R cl sl M (if 0 < x then e1 else e2) pc ls (.int x :: st) u := by
  refine ⟨?_, trivial⟩
  intro p l e s m args below meth c ad dC dI cI cJ cZ A r arr H locs hA hr hl hP hS
  refine lv_if_gt hA.1 hA.2.1 hd ht (fun h9 => ?_) (fun h9 => ?_)
  · rw [if_pos h9] at hr; exact kt.1 hA hr hl hP hS
  · rw [if_neg h9] at hr; exact kf.1 hA hr hl hP hS
theorem r_icmp_gt {x y : Int32} {off : Int} {tgt : Nat} {e1 e2 : Option ρ} (hd : decode M.2.1 pc = .ok (.if_icmp .gt off, 3)) (ht : (pc : Int) + off = (tgt : Int)) (kt : SimG Z kx R cl sl M e1 tgt ls st u) (kf : SimG Z kx R cl sl M e2 (pc + 3) ls st u) : SimG Z kx R cl sl M (if y < x then e1 else e2) pc ls (.int y :: .int x :: st) u := by
  refine ⟨?_, trivial⟩
  intro p l e s m args below meth c ad dC dI cI cJ cZ A r arr H locs hA hr hl hP hS
  refine lv_icmp_gt hA.1 hA.2.1 hd ht (fun h9 => ?_) (fun h9 => ?_)
  · rw [if_pos h9] at hr; exact kt.1 hA hr hl hP hS
  · rw [if_neg h9] at hr; exact kf.1 hA hr hl hP hS
theorem r_if_le {x : Int32} {off : Int} {tgt : Nat} {e1 e2 : Option ρ} (hd : decode M.2.1 pc = .ok (.ifCond .le off, 3)) (ht : (pc : Int) + off = (tgt : Int)) (kt : SimG Z kx R cl sl M e1 tgt ls st u) (kf : SimG Z kx R cl sl M e2 (pc + 3) ls st u) : SimG Z kx R cl sl M (if x ≤ 0 then e1 else e2) pc ls (.int x :: st) u := by
  refine ⟨?_, trivial⟩
  intro p l e s m args below meth c ad dC dI cI cJ cZ A r arr H locs hA hr hl hP hS
  refine lv_if_le hA.1 hA.2.1 hd ht (fun h9 => ?_) (fun h9 => ?_)
  · rw [if_pos h9] at hr; exact kt.1 hA hr hl hP hS
  · rw [if_neg h9] at hr; exact kf.1 hA hr hl hP hS
theorem r_icmp_le {x y : Int32} {off : Int} {tgt : Nat} {e1 e2 : Option ρ} (hd : decode M.2.1 pc = .ok (.if_icmp .le off, 3)) (ht : (pc : Int) + off = (tgt : Int)) (kt : SimG Z kx R cl sl M e1 tgt ls st u) (kf : SimG Z kx R cl sl M e2 (pc + 3) ls st u) : SimG Z kx R cl sl M (if x ≤ y then e1 else e2) pc ls (.int y :: .int x :: st) u := by
  refine ⟨?_, trivial⟩
  intro p l e s m args below meth c ad dC dI cI cJ cZ A r arr H locs hA hr hl hP hS
  refine lv_icmp_le hA.1 hA.2.1 hd ht (fun h9 => ?_) (fun h9 => ?_)
  · rw [if_pos h9] at hr; exact kt.1 hA hr hl hP hS
  · rw [if_neg h9] at hr; exact kf.1 hA hr hl hP hS
theorem r_goto {off : Int} {tgt : Nat} (hd : decode M.2.1 pc = .ok (.goto off, 3)) (ht : (pc : Int) + off = (tgt : Int)) (k : SimG Z kx R cl sl M ex tgt ls st u) : SimG Z kx R cl sl M ex pc ls st u := by
  refine ⟨?_, trivial⟩
  intro p l e s m args below meth c ad dC dI cI cJ cZ A r arr H locs hA hr hl hP hS
  exact lv_goto hA.1 hA.2.1 hd ht (k.1 hA hr hl hP hS)
theorem r_mk (ms : List Bool) {ls2 : LL} (h2 : mk ms ls = ls2) (k : SimG Z kx R cl sl M ex pc ls2 st u) : SimG Z kx R cl sl M ex pc ls st u := by
  refine ⟨?_, trivial⟩
  intro p l e s m args below meth c ad dC dI cI cJ cZ A r arr H locs hA hr hl hP hS
  subst h2
  exact k.1 hA hr (Rl_mk ms hl) hP hS
theorem r_gd {b : Bool} (k : b = true → SimG Z kx R cl sl M ex pc ls st u) : SimG Z kx R cl sl M (gd b ex) pc ls st u := by
  refine ⟨?_, trivial⟩
  intro p l e s m args below meth c ad dC dI cI cJ cZ A r arr H locs hA hr hl hP hS
  cases b with
  | false => cases hr
  | true => exact (k rfl).1 hA hr hl hP hS
theorem Amb.tb {kx : Nat} {l : Launch} {M : MI} {p : Program} {s : State} {m : MethodId} {args : Array Value} {meth : Method} {c : Code} {ad : Nat → Nat} {dC : Nat → ClassId} {dI : Nat → Nat → Nat} {cI cJ cZ : ClassId} {A : Nat → Prop} (h : Amb kx l M p s m args meth c ad dC dI cI cJ cZ A) {w : Cond} (hw : w ∈ TB) : w.before args s = true := h.2.2.2.2.2.1 w (List.mem_cons_of_mem _ hw)
theorem r_ldc {i : Nat} {v : Int32} (hd : decode M.2.1 pc = .ok (.ldc i, 2)) (hc : Cond.constant M.1.cls i v ∈ TB) (k : SimG Z kx R cl sl M ex (pc + 2) ls (.int v :: st) u) : SimG Z kx R cl sl M ex pc ls st u := by
  refine ⟨?_, trivial⟩
  intro p l e s m args below meth c ad dC dI cI cJ cZ A r arr H locs hA hr hl hP hS
  exact lv_ldc hA.1 hA.2.1 hA.2.2.2.2.1 (hA.tb hc) hd (k.1 hA hr hl hP hS)
theorem r_ldc_w {i : Nat} {v : Int32} (hd : decode M.2.1 pc = .ok (.ldc_w i, 3)) (hc : Cond.constant M.1.cls i v ∈ TB) (k : SimG Z kx R cl sl M ex (pc + 3) ls (.int v :: st) u) : SimG Z kx R cl sl M ex pc ls st u := by
  refine ⟨?_, trivial⟩
  intro p l e s m args below meth c ad dC dI cI cJ cZ A r arr H locs hA hr hl hP hS
  exact lv_ldcw hA.1 hA.2.1 hA.2.2.2.2.1 (hA.tb hc) hd (k.1 hA hr hl hP hS)
theorem r_ldc2 {i : Nat} {v : Int64} (hd : decode M.2.1 pc = .ok (.ldc2_w i, 3)) (hc : Cond.constantLong M.1.cls i v ∈ TB) (k : SimG Z kx R cl sl M ex (pc + 3) ls (.long v :: st) u) : SimG Z kx R cl sl M ex pc ls st u := by
  refine ⟨?_, trivial⟩
  intro p l e s m args below meth c ad dC dI cI cJ cZ A r arr H locs hA hr hl hP hS
  exact lv_ldc2 hA.1 hA.2.1 hA.2.2.2.2.1 (hA.tb hc) hd (k.1 hA hr hl hP hS)
theorem r_ireturn {x : Int32} (hret : M.2.2.2 = some .int) (hd : decode M.2.1 pc = .ok (.ireturn, 1)) : Sim tI M d (some (x, u)) pc ls [.int x] u := by
  refine ⟨?_, trivial⟩
  intro p l e s m args below meth c ad dC dI cI cJ cZ A r arr H locs hA hr hl hP hS
  cases hr
  exact W.iret (v := x) hA.1 hA.2.1 (hA.2.2.2.1.trans hret) (fun t ht hW => ⟨⟨rfl, by rw [ht]; exact hP⟩, hS.F ht⟩) hS.2.2 hd hA.2.2.2.2.2.2.1
theorem r_lreturn {x : Int64} (hret : M.2.2.2 = some .long) (hd : decode M.2.1 pc = .ok (.lreturn, 1)) : Sim tJ M d (some (x, u)) pc ls [.long x] u := by
  refine ⟨?_, trivial⟩
  intro p l e s m args below meth c ad dC dI cI cJ cZ A r arr H locs hA hr hl hP hS
  cases hr
  exact W.lret (v := x) hA.1 hA.2.1 (hA.2.2.2.1.trans hret) (fun t ht hW => ⟨⟨rfl, by rw [ht]; exact hP⟩, hS.F ht⟩) hS.2.2 hd hA.2.2.2.2.2.2.1
def isB (x : Int32) : Bool := x == 0 || x == 1
theorem isB_n {x : Int32} (h : isB x = true) : narrow .boolean (.int x) = .int x := by
  unfold isB at h
  simp only [Bool.or_eq_true, beq_iff_eq] at h
  rcases h with h | h <;> subst h <;> decide
theorem r_zreturn {x : Int32} (hret : M.2.2.2 = some .boolean) (hd : decode M.2.1 pc = .ok (.ireturn, 1)) : Sim tI M d (gd (isB x) (some (x, u))) pc ls [.int x] u := by
  refine r_gd (fun hb => ?_)
  refine ⟨?_, trivial⟩
  intro p l e s m args below meth c ad dC dI cI cJ cZ A r arr H locs hA hr hl hP hS
  cases hr
  exact W.zret (v := x) hA.1 hA.2.1 (hA.2.2.2.1.trans hret) (isB_n hb) (fun t ht hW => ⟨⟨rfl, by rw [ht]; exact hP⟩, hS.F ht⟩) hS.2.2 hd hA.2.2.2.2.2.2.1
theorem r_zreturn0 (hret : M.2.2.2 = some .boolean) (hd : decode M.2.1 pc = .ok (.ireturn, 1)) : Sim tI M d (some (0, u)) pc ls [.int 0] u := by
  refine ⟨?_, trivial⟩
  intro p l e s m args below meth c ad dC dI cI cJ cZ A r arr H locs hA hr hl hP hS
  cases hr
  exact W.zret (v := 0) hA.1 hA.2.1 (hA.2.2.2.1.trans hret) (by decide) (fun t ht hW => ⟨⟨rfl, by rw [ht]; exact hP⟩, hS.F ht⟩) hS.2.2 hd hA.2.2.2.2.2.2.1
theorem r_zreturn1 (hret : M.2.2.2 = some .boolean) (hd : decode M.2.1 pc = .ok (.ireturn, 1)) : Sim tI M d (some (1, u)) pc ls [.int 1] u := by
  refine ⟨?_, trivial⟩
  intro p l e s m args below meth c ad dC dI cI cJ cZ A r arr H locs hA hr hl hP hS
  cases hr
  exact W.zret (v := 1) hA.1 hA.2.1 (hA.2.2.2.1.trans hret) (by decide) (fun t ht hW => ⟨⟨rfl, by rw [ht]; exact hP⟩, hS.F ht⟩) hS.2.2 hd hA.2.2.2.2.2.2.1
theorem r_return (hret : M.2.2.2 = none) (hd : decode M.2.1 pc = .ok (.return_, 1)) : Sim tV M d (some u) pc ls [] u := by
  refine ⟨?_, trivial⟩
  intro p l e s m args below meth c ad dC dI cI cJ cZ A r arr H locs hA hr hl hP hS
  cases hr
  exact W.vret hA.1 hA.2.1 (hA.2.2.2.1.trans hret) (fun t ht hW => ⟨⟨rfl, by rw [ht]; exact hP⟩, hS.F ht⟩) hS.2.2 hd hA.2.2.2.2.2.2.1
end SR
