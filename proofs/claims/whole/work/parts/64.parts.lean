/-! parts and sets of them: watch, glaze -/
variable {D : DD} {m : MM} {e r : Nat} {u v : US}
def PaC (g : Nat → Nat) (k : Nat) (u : US) : Prop := u.1 9 1 = nI k ∧ ∀ j, j < k → u.2.1 34 j = nI (g j)
abbrev Fp (u v : US) : Prop := Fm [(9, 1)] [34, 44, 46, 61, 62] [] u v
theorem Fm.sp {u v : US} (h : Sx u v) : Fp u v := h.mono rfl rfl rfl
theorem Fm.pr {u v : US} (h : Fp u v) : Fr u v := h.mono rfl rfl rfl
theorem PaC.fm {g : Nat → Nat} {k : Nat} {u v : US} {a : List (Nat × Nat)} {b c : List Nat} (h : PaC g k u) (f : Fm a b c u v) (q : a.contains (9, 1) = false) (q2 : b.contains 34 = false) : PaC g k v := by
  unfold PaC; rw [f.i 9 1 q, f.a 34 q2]; exact h
theorem part_add {g : Nat → Nat} {k : Nat} {u : US} (h : PaC g k u) (hk : k < 8) : ∃ v, fX3_add (nI (g k)) u = some v ∧ PaC g (k + 1) v ∧ Fp u v := by
  have e : gI u 9 1 = nI k := h.1
  refine ⟨sI (sA u 34 (nI k) (nI (g k))) 9 1 (nI (k + 1)), ?_, ⟨rfl, ?_⟩, (Fm.rf.sA rfl).sI rfl⟩
  · unfold fX3_add
    rw [e, if_neg (show ¬ (8 : Int32) ≤ nI k from nI_ge (b := 8) hk (by omega)), gdi hk (by omega)]
    show some (sI (sA u 34 (nI k) (nI (g k))) 9 1 (gI u 9 1 + 1)) = _
    rw [e, nI_1]
  · intro j hj
    show upd (u.2.1 34) (nI k).toNatClampNeg (nI (g k)) j = nI (g j)
    rw [nI_clamp (by omega)]
    by_cases ej : j = k
    · subst ej; rw [pk_us]
    · rw [pk_un ej]; exact h.2 j (by omega)
def unN (g : Nat → Nat) (c : Nat) : Nat → Nat
  | 0 => 0
  | k + 1 => unN g c k ||| (if c.testBit k then g k else 0)
theorem unN_256 {g : Nat → Nat} (h : ∀ j, g j < 256) (c : Nat) : ∀ k, unN g c k < 256
  | 0 => (show 0 < 256 by decide)
  | k + 1 => Nat.or_lt_two_pow (n := 8) (unN_256 h c k) (by split <;> first | exact h k | decide)
theorem union_c {g : Nat → Nat} {k c : Nat} {u : US} (h : PaC g k u) (hk : k ≤ 8) (hc : c < 65536) : fX3_union (nI c) u = some (nI (unN g c k), u) := by
  have e : gI u 9 1 = nI k := h.1
  unfold fX3_union
  refine lpS (fun f i => fX3_union_4 (nI c) f (nI (unN g c i)) (nI i) u) k _ (fun n i hi => ?_) (fun n => ?_) FU 0 (FUg (by omega)) (Nat.zero_le _)
  · show fX3_union_4 (nI c) (n + 1) (nI (unN g c i)) (nI i) u = fX3_union_4 (nI c) n (nI (unN g c (i + 1))) (nI (i + 1)) u
    rw [fX3_union_4, e, if_neg (nI_ge hi (by omega)), has_c hc (by omega), oBs, nI_1]
    cases hb : c.testBit i with
    | false => rw [if_pos (show bI false = 0 from rfl), unN, hb, if_neg (by decide), Nat.or_zero]
    | true => rw [if_neg (show ¬ bI true = 0 by decide), gdi (show i < 8 by omega) (by omega), show gA u 34 (nI i) = nI (g i) by (show u.2.1 34 (nI i).toNatClampNeg = _; rw [nI_clamp (by omega)]; exact h.2 i hi), fa_or, unN, hb, if_pos rfl]
  · show fX3_union_4 (nI c) (n + 1) (nI (unN g c k)) (nI k) u = _
    rw [fX3_union_4, e, if_pos (nI_le (Nat.le_refl _) (by omega))]
/-- the first of the smallest sets that are right -/
def bsN (ok : Nat → Bool) : Nat → Option Nat
  | 0 => none
  | k + 1 => match bsN ok k with
    | none => if ok k then some k else none
    | some c => if ok k && decide (pcN k < pcN c) then some k else some c
theorem bs_ny {ok : Nat → Bool} {k : Nat} (h : bsN ok k = none) (h2 : ok k = true) : bsN ok (k + 1) = some k := by simp only [bsN, h, h2, if_true]
theorem bs_nn {ok : Nat → Bool} {k : Nat} (h : bsN ok k = none) (h2 : ok k = false) : bsN ok (k + 1) = none := by simp [bsN, h, h2]
theorem bs_sy {ok : Nat → Bool} {k c : Nat} (h : bsN ok k = some c) (h2 : ok k = true) (h3 : pcN k < pcN c) : bsN ok (k + 1) = some k := by simp [bsN, h, h2, h3]
theorem bs_sn {ok : Nat → Bool} {k c : Nat} (h : bsN ok k = some c) (h2 : ok k = false ∨ ¬ pcN k < pcN c) : bsN ok (k + 1) = some c := by
  rcases h2 with h2 | h2 <;> simp [bsN, h, h2]
theorem bs_n {ok : Nat → Bool} {k : Nat} (h2 : ok k = false) : bsN ok (k + 1) = bsN ok k := by
  cases h : bsN ok k with
  | none => exact bs_nn h h2
  | some c => exact bs_sn h (Or.inl h2)
theorem bs_lt {ok : Nat → Bool} : ∀ {k c : Nat}, bsN ok k = some c → c < k
  | 0, c, h => (by cases h)
  | k + 1, c, h => by
    cases hb : bsN ok k with
    | none =>
      cases ho : ok k with
      | false => rw [bs_nn hb ho] at h; cases h
      | true => rw [bs_ny hb ho] at h; cases h; omega
    | some d =>
      have := bs_lt hb
      by_cases q : ok k = true ∧ pcN k < pcN d
      · rw [bs_sy hb q.1 q.2] at h; cases h; omega
      · rw [bs_sn hb (by by_cases q1 : ok k = true; exact Or.inr (fun q2 => q ⟨q1, q2⟩); exact Or.inl (ts_nt q1))] at h; cases h; omega
theorem bs_cong {p q : Nat → Bool} : ∀ {k : Nat}, (∀ i, i < k → p i = q i) → bsN p k = bsN q k
  | 0, _ => rfl
  | k + 1, h => by rw [bsN, bsN, bs_cong (fun i hi => h i (by omega)), h k (by omega)]
def fwI : Option Nat → Int32
  | none => 9
  | some c => nI (pcN c)
def okN (f : Nat → Nat) (y z c : Nat) : Bool := decide (nI y &&& (nI (f c) ^^^ (-1)) = 0) && decide (nI z &&& nI (f c) = 0)
theorem few_c {g : Nat → Nat} {k y z : Nat} {u : US} (h : PaC g k u) (hk : k ≤ 8) : fX3_fewest (nI y) (nI z) u = some (hV (bsN (okN (fun c => unN g c k) y z) (2 ^ k)), u) := by
  have e : gI u 9 1 = nI k := h.1
  have h8 := two8 hk
  have hpos := Nat.two_pow_pos k
  unfold fX3_fewest
  refine lpS (fun f i => fX3_fewest_9 (nI y) (nI z) f (hV (bsN (okN (fun c => unN g c k) y z) i)) (fwI (bsN (okN (fun c => unN g c k) y z) i)) (nI i) u) (2 ^ k) _ (fun n i hi => ?_) (fun n => ?_) FU 0 (FUg (by omega)) (Nat.zero_le _)
  · show fX3_fewest_9 (nI y) (nI z) (n + 1) _ _ (nI i) u = fX3_fewest_9 (nI y) (nI z) n _ _ (nI (i + 1)) u
    rw [fX3_fewest_9, e, all_c hk, oBs, if_neg (nI_nlt (show i ≤ 2 ^ k - 1 by omega) (by omega)), union_c h hk (show i < 65536 by omega), oBs]
    by_cases q : okN (fun c => unN g c k) y z i = true
    · have q' := q
      unfold okN at q'
      rw [Bool.and_eq_true, decide_eq_true_iff, decide_eq_true_iff] at q'
      rw [if_pos q'.1, if_pos q'.2, fX3_fewest_50, if_neg (by decide), bc_n (by omega), oBs, bc_n (by omega), oBs, nI_1]
      have hp := pcN_le i
      cases hb : bsN (okN (fun c => unN g c k) y z) i with
      | none => rw [bs_ny hb q, if_neg (show ¬ fwI none ≤ nI (pcN i) from nI_ge (b := 9) (by omega) (by omega))]; rfl
      | some c =>
        have hp2 := pcN_le c
        by_cases q3 : pcN i < pcN c
        · rw [bs_sy hb q q3, if_neg (show ¬ fwI (some c) ≤ nI (pcN i) from nI_ge q3 (by omega))]; rfl
        · rw [bs_sn hb (Or.inr q3), if_pos (show fwI (some c) ≤ nI (pcN i) from nI_le (by omega) (by omega))]
    · have q2 := ts_nt q
      rw [bs_n q2]
      unfold okN at q
      rw [Bool.and_eq_true, decide_eq_true_iff, decide_eq_true_iff] at q
      by_cases q1 : nI y &&& (nI (unN g i k) ^^^ (-1)) = 0
      · rw [if_pos q1, if_neg (fun w => q ⟨q1, w⟩), fX3_fewest_49, fX3_fewest_50, if_pos rfl, nI_1]
      · rw [if_neg q1, fX3_fewest_49, fX3_fewest_50, if_pos rfl, nI_1]
  · show fX3_fewest_9 (nI y) (nI z) (n + 1) _ _ (nI (2 ^ k)) u = _
    rw [fX3_fewest_9, e, all_c hk, oBs, if_pos (nI_lt (show 2 ^ k - 1 < 2 ^ k by omega) (by omega))]
theorem hV_big {o : Option Nat} {k : Nat} (h : ∀ c, o = some c → c < k) (hk : k ≤ 256) : ∀ q, o = some q → q < 2 ^ 31 := fun q hq => by have := h q hq; omega
theorem tf_n {g : Nat → Nat} {k y z : Nat} {u : US} (h : PaC g k u) (hk : k ≤ 8) (hb : bsN (okN (fun c => unN g c k) y z) (2 ^ k) = none) : fX11_tellFewest (nI y) (nI z) u = some (-2, u) := by
  unfold fX11_tellFewest
  rw [few_c h hk, oBs, hb, if_pos (show hV none = -1 from rfl)]
theorem tf_s {g : Nat → Nat} {k y z c : Nat} {u : US} (h : PaC g k u) (hk : k ≤ 8) (hb : bsN (okN (fun c => unN g c k) y z) (2 ^ k) = some c) : ∃ v, fX11_tellFewest (nI y) (nI z) u = some (nI (pcN c), v) ∧ TolC [(nI c).toInt64] v ∧ Tc u v := by
  have h8 := two8 hk
  have := bs_lt hb
  obtain ⟨v, e1, t1, f1⟩ := tl1_c (nI c).toInt64 u
  unfold fX11_tellFewest
  rw [few_c h hk, oBs, hb, if_neg (show ¬ hV (some c) = -1 from n31 (by omega)), show hV (some c) = nI c from rfl, e1, oVs, bc_n (by omega), oBs]
  exact ⟨v, rfl, t1, f1⟩
/-! sets of things as numbers -/
theorem nI_z {x : Nat} (h : x < 2 ^ 32) : nI x = 0 ↔ x = 0 := by
  refine ⟨fun q => ?_, fun q => by rw [q]; rfl⟩
  have := congrArg (fun y : Int32 => y.toBitVec.toNat) q
  simp only [pk_tn h] at this
  exact this
theorem are_iff {k : Nat} (hk : k ≤ 8) (v : Int32) : v &&& (nI (2 ^ k - 1) ^^^ (-1)) = 0 ↔ isIx (2 ^ k) v := by
  obtain ⟨a, ha, rfl⟩ := wb_of32 v
  have h8 := two8 hk
  have hl := nm_le a (2 ^ k - 1)
  rw [and_n, nI_z (by omega)]
  constructor
  · intro h
    refine ⟨a, tb_lt (fun i hi => ?_), rfl⟩
    have := congrArg (fun x => x.testBit i) h
    simp only [nm_tb ha, all_tb, Nat.zero_testBit, show ¬ i < k by omega, decide_false, Bool.not_false, Bool.and_true] at this
    exact this
  · rintro ⟨j, hj, e⟩
    have : a = j := by
      have := congrArg (fun y : Int32 => y.toBitVec.toNat) e
      simp only [pk_tn ha, pk_tn (show j < 2 ^ 32 by omega)] at this
      exact this
    subst this
    apply tb_ext; intro i
    rw [nm_tb ha, all_tb, Nat.zero_testBit]
    by_cases hi : i < k
    · simp [hi]
    · rw [tb_hi hj (by omega)]; rfl
theorem are_y (h : Cw D m e u) {y : Nat} (hy : y < 2 ^ dT D) : fX8_areThings (nI y) u = some (1, u) := by
  unfold fX8_areThings
  rw [allT_c h, oBs, if_pos ((are_iff h.b.2.2.2.2.1 _).mpr ⟨y, hy, rfl⟩)]
theorem are_no (h : Cw D m e u) {v : Int32} (hy : ¬ isIx (2 ^ dT D) v) : fX8_areThings v u = some (0, u) := by
  unfold fX8_areThings
  rw [allT_c h, oBs, if_neg (fun q => hy ((are_iff h.b.2.2.2.2.1 _).mp q))]
theorem pw_pred (k : Nat) : nI (2 ^ k - 1) = nI (2 ^ k) - 1 := by
  have := Nat.two_pow_pos k
  obtain ⟨j, hj⟩ : ∃ j, 2 ^ k = j + 1 := ⟨2 ^ k - 1, (by omega)⟩
  rw [hj, nI_pred]; rfl
theorem in_ay {k y : Nat} (hk : k ≤ 8) (h : y < 2 ^ k) (u : US) : fX12_in (nI y).toInt64 0 (nI (2 ^ k - 1)).toInt64 u = some (1, u) := by
  have h8 := two8 hk
  rw [pw_pred]; exact in_y (by omega) h u
theorem in_an {k : Nat} {v : Int32} (hk : k ≤ 8) (h : ¬ isIx (2 ^ k) v) (u : US) : fX12_in v.toInt64 0 (nI (2 ^ k - 1)).toInt64 u = some (0, u) := by
  have h8 := two8 hk
  rw [pw_pred]; exact in_n (by omega) h u
/-! watch -/
theorem w44_m (h : Mw D m 55 u) {y i : Nat} (hi : i < 2 ^ dM D) (bst : Option Nat) (hb : bst = bsN (okN (fun c => unN (seN D m) c (dM D)) y 0) i) (K : Int32 → Int32 → US → Option (Int32 × US)) : ∃ v, Sx u v ∧ fX12_watch_44 (nI y) K FU (hV bst) (nI i) 0 0 u = K (hV (bsN (okN (fun c => unN (seN D m) c (dM D)) y 0) (i + 1))) (nI (i + 1)) v := by
  have b := h.b
  have h8 := two8 (show dM D ≤ 8 by omega)
  refine lpF (fun f (x : Int32 × Int32) w => fX12_watch_44 (nI y) K f (hV bst) (nI i) x.1 x.2 w) (dM D) (fun j => (nI (unN (seN D m) i j), nI j)) (fun w => Sx u w) (fun o => ∃ v, Sx u v ∧ o = K (hV (bsN (okN (fun c => unN (seN D m) c (dM D)) y 0) (i + 1))) (nI (i + 1)) v) ?_ ?_ (by omega) (0, 0) rfl Fm.rf
  · intro f k w hk hf
    have hw := h.sx hf
    obtain ⟨v, e1, f1⟩ := seen_m hw hk
    dsimp only
    rw [fX12_watch_44, hw.xM, if_neg (nI_ge hk (by omega)), has_m (by omega) (by omega), oBs, nI_1]
    cases ht : i.testBit k with
    | false => exact ⟨w, hf, by rw [if_pos (show bI false = 0 from rfl), or_0, unN, ht, if_neg (by decide), Nat.or_zero]⟩
    | true => exact ⟨v, hf.trans f1, by rw [if_neg (show ¬ bI true = 0 by decide), e1, oBs, fa_or, unN, ht, if_pos rfl]⟩
  · intro f w hf
    have hw := h.sx hf
    dsimp only
    refine ⟨w, hf, ?_⟩
    rw [fX12_watch_44, hw.xM, if_pos (nI_le (Nat.le_refl _) (by omega))]
    have z0 : nI 0 &&& nI (unN (seN D m) i (dM D)) = 0 := by rw [fa_and, Nat.zero_and]; rfl
    have okT : nI y &&& (nI (unN (seN D m) i (dM D)) ^^^ (-1)) = 0 → okN (fun c => unN (seN D m) c (dM D)) y 0 i = true := fun q => by
      unfold okN; simp only [q, z0, decide_true, Bool.and_self]
    have okF : ¬ nI y &&& (nI (unN (seN D m) i (dM D)) ^^^ (-1)) = 0 → okN (fun c => unN (seN D m) c (dM D)) y 0 i = false := fun q => by
      unfold okN; simp only [q, decide_false, Bool.false_and]
    subst hb
    cases hb : bsN (okN (fun c => unN (seN D m) c (dM D)) y 0) i with
    | none =>
      rw [if_pos (show hV none < 0 by decide), fX12_watch_102, fX12_watch_107, if_neg (by decide), nI_1]
      by_cases q : nI y &&& (nI (unN (seN D m) i (dM D)) ^^^ (-1)) = 0
      · rw [if_pos q, bs_ny hb (okT q)]; rfl
      · rw [if_neg q, bs_nn hb (okF q)]
    | some c =>
      have hc := bs_lt hb
      have hp1 := pcN_le i
      have hp2 := pcN_le c
      rw [if_neg (show ¬ hV (some c) < 0 from nI_pos (by omega)), bc_n (by omega), oBs, show hV (some c) = nI c from rfl, bc_n (by omega), oBs]
      by_cases q3 : pcN i < pcN c
      · rw [if_neg (nI_ge q3 (by omega)), fX12_watch_102, fX12_watch_107, if_neg (by decide), nI_1]
        by_cases q : nI y &&& (nI (unN (seN D m) i (dM D)) ^^^ (-1)) = 0
        · rw [if_pos q, bs_sy hb (okT q) q3]; rfl
        · rw [if_neg q, bs_sn hb (Or.inl (okF q))]; rfl
      · rw [if_pos (nI_le (by omega) (by omega)), fX12_watch_107, if_pos rfl, nI_1, bs_sn hb (Or.inr q3)]; rfl
def fewE (o : Option Nat) : Int32 := match o with
  | none => -2
  | some c => nI (pcN c)
def fewL (o : Option Nat) (l : List Int64) : List Int64 := match o with
  | none => l
  | some c => [(nI c).toInt64]
theorem w28_m (h : Mw D m 55 u) {y : Nat} : ∃ v, fX12_watch_28 (nI y) FU (-1) 0 u = some (fewE (bsN (okN (fun c => unN (seN D m) c (dM D)) y 0) (2 ^ dM D)), v) ∧ Fq u v ∧ (∀ c, bsN (okN (fun c => unN (seN D m) c (dM D)) y 0) (2 ^ dM D) = some c → TolM [(nI c).toInt64] v) ∧ (bsN (okN (fun c => unN (seN D m) c (dM D)) y 0) (2 ^ dM D) = none → Sx u v) := by
  have b := h.b
  have h8 := two8 (show dM D ≤ 8 by omega)
  refine lpF (fun f (x : Int32 × Int32) w => fX12_watch_28 (nI y) f x.1 x.2 w) (2 ^ dM D) (fun i => (hV (bsN (okN (fun c => unN (seN D m) c (dM D)) y 0) i), nI i)) (fun w => Sx u w) (fun o => ∃ v, o = some (fewE (bsN (okN (fun c => unN (seN D m) c (dM D)) y 0) (2 ^ dM D)), v) ∧ Fq u v ∧ (∀ c, bsN (okN (fun c => unN (seN D m) c (dM D)) y 0) (2 ^ dM D) = some c → TolM [(nI c).toInt64] v) ∧ (bsN (okN (fun c => unN (seN D m) c (dM D)) y 0) (2 ^ dM D) = none → Sx u v)) ?_ ?_ (by omega) (-1, 0) rfl Fm.rf
  · intro f k w hk hf
    have hw := h.sx hf
    obtain ⟨v, f1, e1⟩ := w44_m hw (y := y) hk _ rfl (fX12_watch_28 (nI y) f)
    dsimp only
    rw [fX12_watch_28, hw.xM, sh1 _ (by omega), if_neg (nI_ge hk (by omega)), e1]
    exact ⟨v, hf.trans f1, rfl⟩
  · intro f w hf
    have hw := h.sx hf
    dsimp only
    rw [fX12_watch_28, hw.xM, sh1 _ (by omega), if_pos (nI_le (Nat.le_refl _) (by omega))]
    cases hb : bsN (okN (fun c => unN (seN D m) c (dM D)) y 0) (2 ^ dM D) with
    | none =>
      rw [if_neg (show ¬ 0 ≤ hV none by decide)]
      exact ⟨w, rfl, hf.sq, (fun c hc => by cases hc), fun _ => hf⟩
    | some c =>
      have hc := bs_lt hb
      obtain ⟨v, e1, t1, g1⟩ := en_m (clr_m w) (by decide) (nI c).toInt64
      rw [if_pos (show 0 ≤ hV (some c) from nI_pos' (by omega)), nxs, show hV (some c) = nI c from rfl, e1, oVs, bc_n (by omega), oBs]
      exact ⟨v, rfl, (hf.sq.sI rfl).trans g1.mq, (fun c' hc' => by cases hc'; exact t1), (fun q => by cases q)⟩
theorem wparts (hW : Wd D m u) {x : Int32} : ∃ v, fX11_watch_22 x FU 0 (sI u 9 1 0) = (oB (fX11_tellFewest x 0 v) fun r1 u1 => some (r1, u1)) ∧ PaC (seN D m) (dM D) v ∧ Fp u v := by
  have b := hW.cw.b
  refine lpE (fun f (y : Int32) w => fX11_watch_22 x f y w) (dM D) (fun i => nI i) (fun k w => Fp u w ∧ PaC (seN D m) k w) (fun o => ∃ v, o = (oB (fX11_tellFewest x 0 v) fun r1 u1 => some (r1, u1)) ∧ PaC (seN D m) (dM D) v ∧ Fp u v) ?_ ?_ (by omega) 0 rfl ⟨Fm.rf.sI rfl, rfl, fun j hj => absurd hj (Nat.not_lt_zero j)⟩
  · rintro f k w hk ⟨hf, hp⟩
    have hw := (hW.fr hf.pr).cw
    obtain ⟨v, e1, f1⟩ := seen_c hw hk
    obtain ⟨v2, e2, p2, f2⟩ := part_add (hp.fm f1 rfl rfl) (show k < 8 by omega)
    left
    rw [fX11_watch_22, hw.xM, if_neg (nI_ge hk (by omega)), e1, oBs, e2, oVs, nI_1]
    exact ⟨v2, ⟨(hf.trans f1.sp).trans f2, p2⟩, rfl⟩
  · rintro f w ⟨hf, hp⟩
    have hw := (hW.fr hf.pr).cw
    rw [fX11_watch_22, hw.xM, if_pos (nI_le (Nat.le_refl _) (by omega))]
    exact ⟨w, rfl, hp, hf⟩
theorem st_22 : St_22 Inv := by
  intro n a u hn hI
  obtain ⟨D, m, hW, hR⟩ := Inv_to hI
  have hc := hW.cw
  have b := hc.b
  by_cases h1 : isIx (2 ^ dT D) a
  · obtain ⟨y, hy, rfl⟩ := h1
    obtain ⟨v, e1, p1, f1⟩ := wparts hW (x := nI y)
    cases hb : bsN (okN (fun c => unN (seN D m) c (dM D)) y 0) (2 ^ dM D) with
    | none =>
      have e2 := tf_n p1 (by omega) (z := 0) hb
      have k0 : Fq v (sI v 47 0 0) := Fm.rf.sI rfl
      have hM := (hW.ft (f1.pr.ft.trans k0.qt)).mw
      obtain ⟨v2, e3, f3, t3, g3⟩ := w28_m hM (y := y)
      rw [hb] at e3
      refine ⟨-2, v, v2, ?_, ?_, Inv_Fr hI ((f1.pr.sI rfl).trans (g3 hb).fr)⟩
      · unfold fX11_watch
        rw [are_y hc hy, oBs, if_neg (by decide), show fX3_clear u = some (sI u 9 1 0) from rfl, oVs, e1, show (0 : Int32) = nI 0 from rfl, e2, oBs]
      · rw [fX12_watch, nxs, hM.xT, all_m (by omega), oBs, in_ay (by omega) hy, oBs, if_neg (by decide), e3]; rfl
    | some c =>
      obtain ⟨w, e2, t2, f2⟩ := tf_s p1 (by omega) (z := 0) hb
      have k0 : Fq w (sI w 47 0 0) := Fm.rf.sI rfl
      have k1 : Ft u w := f1.pr.ft.trans f2.tcft
      have hM := (hW.ft (k1.trans k0.qt)).mw
      obtain ⟨v2, e3, f3, t3, g3⟩ := w28_m hM (y := y)
      rw [hb] at e3
      refine ⟨nI (pcN c), w, v2, ?_, ?_, q_told hI k1 t2 (k0.trans f3) (t3 c hb) (by simp)⟩
      · unfold fX11_watch
        rw [are_y hc hy, oBs, if_neg (by decide), show fX3_clear u = some (sI u 9 1 0) from rfl, oVs, e1, show (0 : Int32) = nI 0 from rfl, e2, oBs]
      · rw [fX12_watch, nxs, hM.xT, all_m (by omega), oBs, in_ay (by omega) hy, oBs, if_neg (by decide), e3]; rfl
  · have hM : Mw D m 55 (sI u 47 0 0) := (hW.fr (Fm.rf.sI rfl)).mw
    refine ⟨-1, u, sI u 47 0 0, ?_, ?_, q_no hI⟩
    · unfold fX11_watch
      rw [are_no hc h1, oBs, if_pos rfl]
    · rw [fX12_watch, nxs, hM.xT, all_m (by omega), oBs, in_an (by omega) h1, oBs, if_pos rfl]
