/-! rests, fits -/
variable {D : DD} {m m' : MM} {e r : Nat} {u v : US}
def gn (v x y : Int32) : Int32 := v * x - x * y / 3
theorem gain_c (v x y : Int32) (u : US) : fX11_gain v x y u = some (gn v x y, u) := by
  unfold fX11_gain; rw [if_neg (by decide)]; rfl
def moB (v x y : Int32) (z : Nat) : Bool := decide (¬ gn v (nI z) y ≤ gn v x y)
def ctB (v x y : Int32) : Bool := !anyB (moB v x y) 10
theorem anyB_s {p : Nat → Bool} {k : Nat} (h : anyB p k = false) (h2 : p k = false) : anyB p (k + 1) = false := by rw [anyB, h, h2]; rfl
theorem anyB_up {p : Nat → Bool} {k N : Nat} (h : p k = true) (hk : k < N) : anyB p N = true := anyB_iff.mpr ⟨k, hk, h⟩
theorem cont_c (v x y : Int32) (u : US) : fX11_isContent v x y u = some (bI (ctB v x y), u) := by
  unfold fX11_isContent
  rw [gain_c, oBs]
  refine lpE (fun f (z : Int32) w => fX11_isContent_10 v x y f (gn v x y) z w) 10 (fun i => nI i) (fun i w => anyB (moB v x y) i = false ∧ w = u) (fun o => o = some (bI (ctB v x y), u)) ?_ ?_ (by omega) 0 rfl ⟨rfl, rfl⟩
  · rintro f i w hi ⟨hq, rfl⟩
    rw [fX11_isContent_10, if_neg (show ¬ (10 : Int32) ≤ nI i from nI_ge (b := 10) hi (by omega)), gain_c, oBs, nI_1]
    by_cases q : gn v (nI i) y ≤ gn v x y
    · left
      rw [if_pos q]
      exact ⟨w, ⟨anyB_s hq (by unfold moB; simp [q]), rfl⟩, rfl⟩
    · right
      rw [if_neg q]
      unfold ctB
      rw [anyB_up (p := moB v x y) (k := i) (by unfold moB; simp [q]) hi]; rfl
  · rintro f w ⟨hq, rfl⟩
    rw [fX11_isContent_10, if_pos (show (10 : Int32) ≤ nI 10 by decide)]
    unfold ctB
    rw [hq]; rfl
theorem rest_m (x y v : Int32) (u : US) : fX12_isRest x y v u = some (bI (ctB v x y && ctB v y x), u) := by
  unfold fX12_isRest
  refine lpF (fun f (z : Int32 × Int32) w => fX12_isRest_5 x y v f z.1 z.2 w) 10 (fun i => (bI (!anyB (fun z => moB v x y z || moB v y x z) i), nI i)) (fun w => w = u) (fun o => o = some (bI (ctB v x y && ctB v y x), u)) ?_ ?_ (by omega) (1, 0) rfl rfl
  · intro f i w hi hw
    subst hw
    refine ⟨w, rfl, ?_⟩
    dsimp only
    rw [fX12_isRest_5, if_neg (show ¬ (9 : Int32) < nI i from nI_nlt (a := 9) (by omega) (by omega)), nI_1, anyB]
    cases hA : anyB (fun z => moB v x y z || moB v y x z) i with
    | true => rw [if_pos (show bI (!true) = 0 from rfl), Bool.true_or]; rfl
    | false =>
      rw [if_neg (show ¬ bI (!false) = 0 by decide), if_neg (by decide), if_neg (by decide), Bool.false_or]
      by_cases q1 : (v * x) - ((x * y) / 3) < (v * nI i) - ((nI i * y) / 3)
      · rw [if_pos q1, show moB v x y i = true by unfold moB; exact decide_eq_true (fun q => absurd q1 (n_lt.mpr q))]; rfl
      · rw [if_neg q1, if_neg (by decide), if_neg (by decide), show moB v x y i = false by unfold moB; exact decide_eq_false (fun q => q (n_lt.mp q1)), Bool.false_or, Int32.mul_comm x y]
        by_cases q2 : (v * y) - ((y * x) / 3) < (v * nI i) - ((nI i * x) / 3)
        · rw [if_pos q2, show moB v y x i = true by unfold moB; exact decide_eq_true (fun q => absurd q2 (n_lt.mpr q))]; rfl
        · rw [if_neg q2, show moB v y x i = false by unfold moB; exact decide_eq_false (fun q => q (n_lt.mp q2))]; rfl
  · intro f w hw
    subst hw
    dsimp only
    rw [fX12_isRest_5, if_pos (show (9 : Int32) < nI 10 by decide), gd_t (isB_bI _), anyB_or]
    unfold ctB
    cases anyB (moB v x y) 10 <;> cases anyB (moB v y x) 10 <;> rfl
def rB (v : Int32) (x y : Nat) : Bool := ctB v (nI x) (nI y) && ctB v (nI y) (nI x)
def rsS (v : Int32) (x y : Nat) (s : Nat × List Int64) : Nat × List Int64 := if rB v x y then (s.1 + 1, if s.1 = 0 then [(nI x).toInt64, (nI y).toInt64] else s.2) else s
def rsI (v : Int32) (x : Nat) (s : Nat × List Int64) : Nat → Nat × List Int64
  | 0 => s
  | k + 1 => rsS v x k (rsI v x s k)
def rsO (v : Int32) : Nat → Nat × List Int64
  | 0 => (0, [])
  | k + 1 => rsI v k (rsO v k) 10
def rsK (n : Nat) (s : Nat × List Int64) : Prop := s.1 ≤ n ∧ s.2.length ≤ 2 ∧ (s.1 = 0 → s.2 = [])
theorem rsS_k {v : Int32} {x y n : Nat} {s : Nat × List Int64} (h : rsK n s) : rsK (n + 1) (rsS v x y s) := by
  unfold rsS
  split
  · exact ⟨Nat.succ_le_succ h.1, by dsimp only; split; simp; exact h.2.1, fun q => by dsimp only at q; omega⟩
  · exact ⟨Nat.le_succ_of_le h.1, h.2⟩
theorem rsI_k {v : Int32} {x n : Nat} {s : Nat × List Int64} (h : rsK n s) : ∀ k, rsK (n + k) (rsI v x s k)
  | 0 => h
  | k + 1 => rsS_k (rsI_k h k)
theorem rsO_k (v : Int32) : ∀ k, rsK (10 * k) (rsO v k)
  | 0 => ⟨Nat.le_refl _, by simp [rsO], fun _ => rfl⟩
  | k + 1 => by have := rsI_k (v := v) (x := k) (rsO_k v k) 10; rw [Nat.mul_add]; exact this
theorem r32_c {vv : Int32} {x n : Nat} {s : Nat × List Int64} (hs : rsK n s) (hn : n ≤ 1000) (ht : TolC s.2 u) (K : Int32 → Int32 → US → Option (Int32 × US)) : ∃ w, fX11_rests_32 vv K FU (nI s.1) (nI x) 0 u = K (nI (rsI vv x s 10).1) (nI (x + 1)) w ∧ TolC (rsI vv x s 10).2 w ∧ Tc u w := by
  refine lpE (fun f (z : Int32 × Int32) w => fX11_rests_32 vv K f z.1 (nI x) z.2 w) 10 (fun i => (nI (rsI vv x s i).1, nI i)) (fun i w => TolC (rsI vv x s i).2 w ∧ Tc u w) (fun o => ∃ w, o = K (nI (rsI vv x s 10).1) (nI (x + 1)) w ∧ TolC (rsI vv x s 10).2 w ∧ Tc u w) ?_ ?_ (by omega) (nI s.1, 0) rfl ⟨ht, Fm.rf⟩
  · rintro f i w hi ⟨hw, hf⟩
    have hk := rsI_k (v := vv) (x := x) hs i
    left
    dsimp only
    rw [fX11_rests_32, if_neg (show ¬ (10 : Int32) ≤ nI i from nI_ge (b := 10) hi (by omega)), cont_c, oBs, cont_c, oBs, nI_1, nI_1]
    have eS : rsI vv x s (i + 1) = rsS vv x i (rsI vv x s i) := rfl
    rw [eS]
    unfold rsS
    unfold rB
    cases h1 : ctB vv (nI x) (nI i) with
    | false => exact ⟨w, ⟨by simpa using hw, hf⟩, by simp [bI]⟩
    | true =>
      cases h2 : ctB vv (nI i) (nI x) with
      | false => exact ⟨w, ⟨by simpa using hw, hf⟩, by simp [bI]⟩
      | true =>
        rw [if_neg (show ¬ bI true = 0 by decide), if_neg (show ¬ bI true = 0 by decide), if_pos (show (true && true) = true from rfl)]
        by_cases q : (rsI vv x s i).1 = 0
        · obtain ⟨w2, e2, t2, f2⟩ := tl2_c (nI x).toInt64 (nI i).toInt64 w
          rw [q, if_pos (show nI 0 = 0 from rfl), e2, oVs, if_pos rfl]
          exact ⟨w2, ⟨t2, hf.trans f2⟩, rfl⟩
        · rw [if_neg (nI_ne0 (by omega) (by have := hk.1; omega)), if_neg q]
          exact ⟨w, ⟨hw, hf⟩, rfl⟩
  · rintro f w ⟨hw, hf⟩
    dsimp only
    rw [fX11_rests_32, if_pos (show (10 : Int32) ≤ nI 10 by decide), nI_1]
    exact ⟨w, rfl, hw, hf⟩
theorem rests_c {j : Nat} (hj : j ≤ 9) (u : US) : ∃ w, fX11_rests (nI j) u = some (nI (rsO (nI j) 10).1, w) ∧ TolC (rsO (nI j) 10).2 w ∧ Tc u w := by
  obtain ⟨e0, t0⟩ := clr_c u
  unfold fX11_rests
  rw [if_neg (nI_pos (by omega)), if_pos (show nI j < (10 : Int32) from nI_lt (b := 10) (by omega) (by omega)), e0, oVs]
  refine lpE (fun f (z : Int32 × Int32) w => fX11_rests_23 (nI j) f z.1 z.2 w) 10 (fun i => (nI (rsO (nI j) i).1, nI i)) (fun i w => TolC (rsO (nI j) i).2 w ∧ Tc u w) (fun o => ∃ w, o = some (nI (rsO (nI j) 10).1, w) ∧ TolC (rsO (nI j) 10).2 w ∧ Tc u w) ?_ ?_ (by omega) (0, 0) rfl ⟨t0, Fm.rf.sI rfl⟩
  · rintro f i w hi ⟨hw, hf⟩
    obtain ⟨w2, e2, t2, f2⟩ := r32_c (vv := nI j) (x := i) (rsO_k (nI j) i) (by omega) hw (fX11_rests_23 (nI j) f)
    left
    dsimp only
    rw [fX11_rests_23, if_neg (show ¬ (10 : Int32) ≤ nI i from nI_ge (b := 10) hi (by omega)), e2]
    exact ⟨w2, ⟨t2, hf.trans f2⟩, rfl⟩
  · rintro f w ⟨hw, hf⟩
    dsimp only
    rw [fX11_rests_23, if_pos (show (10 : Int32) ≤ nI 10 by decide)]
    exact ⟨w, rfl, hw, hf⟩
theorem r37_m {vv : Int32} {x n : Nat} {s : Nat × List Int64} (hs : rsK n s) (hn : n ≤ 1000) (ht : TolM s.2 u) (K : Int32 → Int32 → US → Option (Int32 × US)) : ∃ w, fX12_rests_37 vv K FU (nI s.1) (nI x) 0 u = K (nI (rsI vv x s 10).1) (nI (x + 1)) w ∧ TolM (rsI vv x s 10).2 w ∧ Tm u w := by
  refine lpE (fun f (z : Int32 × Int32) w => fX12_rests_37 vv K f z.1 (nI x) z.2 w) 10 (fun i => (nI (rsI vv x s i).1, nI i)) (fun i w => TolM (rsI vv x s i).2 w ∧ Tm u w) (fun o => ∃ w, o = K (nI (rsI vv x s 10).1) (nI (x + 1)) w ∧ TolM (rsI vv x s 10).2 w ∧ Tm u w) ?_ ?_ (by omega) (nI s.1, 0) rfl ⟨ht, Fm.rf⟩
  · rintro f i w hi ⟨hw, hf⟩
    have hk := rsI_k (v := vv) (x := x) hs i
    left
    dsimp only
    rw [fX12_rests_37, if_neg (show ¬ (9 : Int32) < nI i from nI_nlt (a := 9) (by omega) (by omega)), rest_m, oBs, nI_1, nI_1]
    have eS : rsI vv x s (i + 1) = rsS vv x i (rsI vv x s i) := rfl
    rw [eS]
    unfold rsS
    unfold rB
    cases h1 : (ctB vv (nI x) (nI i) && ctB vv (nI i) (nI x)) with
    | false => exact ⟨w, ⟨by simpa using hw, hf⟩, by simp [bI]⟩
    | true =>
      rw [if_neg (show ¬ bI true = 0 by decide), if_pos rfl]
      by_cases q : (rsI vv x s i).1 = 0
      · have hw0 : TolM [] w := by rw [← hk.2.2 q]; exact hw
        obtain ⟨w2, e2, t2, f2⟩ := en_m hw0 (by decide) (nI x).toInt64
        obtain ⟨w3, e3, t3, f3⟩ := en_m t2 (by simp) (nI i).toInt64
        rw [q, if_pos (show nI 0 = 0 from rfl), e2, oVs, e3, oVs, if_pos rfl]
        exact ⟨w3, ⟨t3, (hf.trans f2).trans f3⟩, rfl⟩
      · rw [if_neg (nI_ne0 (by omega) (by have := hk.1; omega)), if_neg q]
        exact ⟨w, ⟨hw, hf⟩, rfl⟩
  · rintro f w ⟨hw, hf⟩
    dsimp only
    rw [fX12_rests_37, if_pos (show (9 : Int32) < nI 10 by decide), nI_1]
    exact ⟨w, rfl, hw, hf⟩
theorem rests_m {j : Nat} (hj : j ≤ 9) (u : US) : ∃ w, fX12_rests (nI j) u = some (nI (rsO (nI j) 10).1, w) ∧ TolM (rsO (nI j) 10).2 w ∧ Fq u w := by
  have k0 : Fq u (sI (sI u 47 0 0) 47 1 0) := (Fm.rf.sI rfl).sI rfl
  rw [fX12_rests, nxs, in_0_9, if_pos ⟨nI_pos' (by omega), (show nI j ≤ (9 : Int32) from nI_le (b := 9) hj (by omega))⟩, oBs, if_neg (by decide), nxs]
  refine lpE (fun f (z : Int32 × Int32) w => fX12_rests_28 (nI j) f z.1 z.2 w) 10 (fun i => (nI (rsO (nI j) i).1, nI i)) (fun i w => TolM (rsO (nI j) i).2 w ∧ Fq u w) (fun o => ∃ w, o = some (nI (rsO (nI j) 10).1, w) ∧ TolM (rsO (nI j) 10).2 w ∧ Fq u w) ?_ ?_ (by omega) (0, 0) rfl ⟨clr_m _, k0⟩
  · rintro f i w hi ⟨hw, hf⟩
    obtain ⟨w2, e2, t2, f2⟩ := r37_m (vv := nI j) (x := i) (rsO_k (nI j) i) (by omega) hw (fX12_rests_28 (nI j) f)
    left
    dsimp only
    rw [fX12_rests_28, if_neg (show ¬ (9 : Int32) < nI i from nI_nlt (a := 9) (by omega) (by omega)), e2]
    exact ⟨w2, ⟨t2, hf.trans f2.mq⟩, rfl⟩
  · rintro f w ⟨hw, hf⟩
    dsimp only
    rw [fX12_rests_28, if_pos (show (9 : Int32) < nI 10 by decide)]
    exact ⟨w, rfl, hw, hf⟩
theorem st_38 : St_38 Inv := by
  intro n a u hn hI
  by_cases h : 0 ≤ a ∧ a ≤ 9
  · obtain ⟨j, hj, rfl⟩ := nI_rng (n := 9) (M := 9) rfl h
    obtain ⟨w1, e1, t1, f1⟩ := rests_c hj u
    obtain ⟨w2, e2, t2, f2⟩ := rests_m hj w1
    exact ⟨_, w1, w2, e1, e2, q_told hI f1.tcft t1 f2 t2 (by have := (rsO_k (nI j) 10).2.1; omega)⟩
  · refine ⟨-1, u, sI u 47 0 0, ?_, ?_, q_no hI⟩
    · unfold fX11_rests
      by_cases q : a < 0
      · rw [if_pos q]
      · rw [if_neg q, if_neg (fun w => h ⟨n_lt.mp q, by
          rw [fa_lt] at w; rw [fa_le]
          have e0 : (10 : Int32).toInt = 10 := rfl
          have e1 : (9 : Int32).toInt = 9 := rfl
          omega⟩)]
    · rw [fX12_rests, nxs, in_0_9, if_neg h, oBs, if_pos rfl]
/-! fits -/
abbrev WW : Type := Nat × (Nat → Nat) × (Nat → Nat) × (Nat → Nat)
def WitO (W : WW) : Prop := W.1 ≤ 12 ∧ (∀ j, j < W.1 → W.2.1 j < 8) ∧ (∀ j, j < W.1 → W.2.2.1 j < 10) ∧ (∀ j, j < W.1 → W.2.2.2 j < 2)
def WitC (W : WW) (u : US) : Prop := u.1 11 3 = nI W.1 ∧ RowN W.1 (u.2.1 36) W.2.1 ∧ RowN W.1 (u.2.1 37) W.2.2.1 ∧ RowN W.1 (u.2.1 38) W.2.2.2
def WitM (W : WW) (u : US) : Prop := u.1 47 43 = nI W.1 ∧ RowN W.1 (u.2.1 74) W.2.1 ∧ RowN W.1 (u.2.1 75) W.2.2.1 ∧ RowN W.1 (u.2.1 76) W.2.2.2
theorem wit_of {n : Nat} {D : DD} {u : US} (h : Rst n D u) : ∃ W, WitO W ∧ WitC W u ∧ WitM W u := by
  obtain ⟨-, -, -, -, k, hk, a, b, r1, r2, r3⟩ := h
  obtain ⟨p1, q1, s1⟩ := row_N r1 (by omega)
  obtain ⟨p2, q2, s2⟩ := row_N r2 (by omega)
  obtain ⟨p3, q3, s3⟩ := row_N r3 (by omega)
  exact ⟨(k, _, _, _), ⟨hk, s1, s2, s3⟩, ⟨a, p1, p2, p3⟩, ⟨b, q1, q2, q3⟩⟩
theorem WitC.fm {W : WW} {u v : US} {a : List (Nat × Nat)} {b c : List Nat} (h : WitC W u) (f : Fm a b c u v) (q : a.contains (11, 3) = false) (q2 : [36, 37, 38].all (fun x => !b.contains x) = true) : WitC W v := by
  simp only [List.all_cons, List.all_nil, Bool.and_true, Bool.and_eq_true, Bool.not_eq_true'] at q2
  unfold WitC; rw [f.i 11 3 q, f.a 36 q2.1, f.a 37 q2.2.1, f.a 38 q2.2.2]; exact h
theorem WitM.fm {W : WW} {u v : US} {a : List (Nat × Nat)} {b c : List Nat} (h : WitM W u) (f : Fm a b c u v) (q : a.contains (47, 43) = false) (q2 : [74, 75, 76].all (fun x => !b.contains x) = true) : WitM W v := by
  simp only [List.all_cons, List.all_nil, Bool.and_true, Bool.and_eq_true, Bool.not_eq_true'] at q2
  unfold WitM; rw [f.i 47 43 q, f.a 74 q2.1, f.a 75 q2.2.1, f.a 76 q2.2.2]; exact h
/-- one of those watched goes against a law -/
def agB (W : WW) (l h i : Nat) : Bool := decide (¬ bI (!h.testBit (W.2.1 i) && decide (W.2.2.1 i ≤ l)) = nI (W.2.2.2 i))
def laB (W : WW) (l h : Nat) : Bool := !anyB (agB W l h) W.1
theorem allows_c {W : WW} (ho : WitO W) (h : WitC W u) {l hd : Nat} (hl : l < 10) (hh : hd < 256) : fX10_allows (nI l) (nI hd) u = some (bI (laB W l hd), u) := by
  obtain ⟨o1, o2, o3, o4⟩ := ho
  unfold fX10_allows
  refine lpE (fun f (z : Int32) w => fX10_allows_2 (nI l) (nI hd) f z w) W.1 (fun i => nI i) (fun i w => anyB (agB W l hd) i = false ∧ w = u) (fun o => o = some (bI (laB W l hd), u)) ?_ ?_ (by omega) 0 rfl ⟨rfl, rfl⟩
  · rintro f i w hi ⟨hq, rfl⟩
    rw [fX10_allows_2, show gI w 11 3 = _ from h.1, if_neg (nI_ge hi (by omega)), gdi (show i < 12 by omega) (by omega), gdi (show i < 12 by omega) (by omega), show gA w 36 (nI i) = _ from rowg h.2.1 hi (by omega), show gA w 37 (nI i) = _ from rowg h.2.2.1 hi (by omega), bears_c hl hh (o2 i hi) (o3 i hi), oBs, gdi (show i < 12 by omega) (by omega), show gA w 38 (nI i) = _ from rowg h.2.2.2 hi (by omega), nI_1]
    by_cases q : bI (!hd.testBit (W.2.1 i) && decide (W.2.2.1 i ≤ l)) = nI (W.2.2.2 i)
    · left
      rw [if_pos q]
      exact ⟨w, ⟨anyB_s hq (by unfold agB; simp [q]), rfl⟩, rfl⟩
    · right
      rw [if_neg q]
      unfold laB
      rw [anyB_up (p := agB W l hd) (k := i) (by unfold agB; simp [q]) hi]; rfl
  · rintro f w ⟨hq, rfl⟩
    rw [fX10_allows_2, show gI w 11 3 = _ from h.1, if_pos (nI_le (Nat.le_refl _) (by omega))]
    unfold laB
    rw [hq]; rfl
theorem shows_m {l h k s : Nat} (hl : l < 10) (hh : h < 256) (hk : k < 8) (hs : s < 10) (u : US) : fX12_shows (nI h) (nI l) (nI k) (nI s) u = some (bI (!h.testBit k && decide (s ≤ l)), u) := by
  unfold fX12_shows
  rw [has_m (by omega) (by omega), oBs]
  cases hb : h.testBit k with
  | true => rfl
  | false =>
    rw [if_pos (show bI false = 0 from rfl)]
    by_cases hq : s ≤ l
    · rw [if_neg (nI_nlt hq (by omega)), decide_eq_true hq]; rfl
    · rw [if_pos (nI_lt (by omega) (by omega)), decide_eq_false hq]; rfl
theorem law_m {W : WW} (ho : WitO W) (h : WitM W u) {l hd : Nat} (hl : l < 10) (hh : hd < 256) : fX12_isLaw (nI hd) (nI l) u = some (bI (laB W l hd), u) := by
  obtain ⟨o1, o2, o3, o4⟩ := ho
  unfold fX12_isLaw
  refine lpF (fun f (z : Int32 × Int32) w => fX12_isLaw_5 (nI hd) (nI l) f z.1 z.2 w) W.1 (fun i => (bI (!anyB (agB W l hd) i), nI i)) (fun w => w = u) (fun o => o = some (bI (laB W l hd), u)) ?_ ?_ (by omega) (1, 0) rfl rfl
  · intro f i w hi hw
    subst hw
    refine ⟨w, rfl, ?_⟩
    dsimp only
    rw [fX12_isLaw_5, show gI w 47 43 = _ from h.1, if_neg (nI_ge hi (by omega)), nI_1, anyB]
    cases hA : anyB (agB W l hd) i with
    | true => rw [if_pos (show bI (!true) = 0 from rfl), Bool.true_or]; rfl
    | false =>
      rw [if_neg (show ¬ bI (!false) = 0 by decide), gdi (show i < 12 by omega) (by omega), gdi (show i < 12 by omega) (by omega), show gA w 74 (nI i) = _ from rowg h.2.1 hi (by omega), show gA w 75 (nI i) = _ from rowg h.2.2.1 hi (by omega), shows_m hl hh (o2 i hi) (o3 i hi), oBs, flag_m, oBs, gdi (show i < 12 by omega) (by omega), show gA w 76 (nI i) = _ from rowg h.2.2.2 hi (by omega), Bool.false_or]
      by_cases q : bI (!hd.testBit (W.2.1 i) && decide (W.2.2.1 i ≤ l)) = nI (W.2.2.2 i)
      · rw [if_pos q, show agB W l hd i = false by unfold agB; simp [q]]; rfl
      · rw [if_neg q, show agB W l hd i = true by unfold agB; simp [q]]; rfl
  · intro f w hw
    subst hw
    dsimp only
    rw [fX12_isLaw_5, show gI w 47 43 = _ from h.1, if_pos (nI_le (Nat.le_refl _) (by omega)), gd_t (isB_bI _)]; rfl
def fiB (D : DD) (W : WW) (p : Nat) : Bool := laB W (dl D p) (dh D p)
theorem st_34 : St_34 Inv := by
  intro n u hn hI
  obtain ⟨D, m, hW, hR⟩ := Inv_to hI
  obtain ⟨W, wo, wc, wm⟩ := wit_of hR
  have hc := hW.cw
  have b := hc.b
  have h8 : bN (fiB D W) (dP D) < 256 := bN_256 (by omega)
  have A : ∃ v, fX11_fits u = some (nI (bN (fiB D W) (dP D)), v) ∧ TolC [(nI (pcN (bN (fiB D W) (dP D)))).toInt64] v ∧ Tc u v := by
    unfold fX11_fits
    refine lpF (fun f (x : Int32 × Int32) w => fX11_fits_4 f x.1 x.2 w) (dP D) (fun i => (nI (bN (fiB D W) i), nI i)) (fun w => w = u) (fun o => ∃ v, o = some (nI (bN (fiB D W) (dP D)), v) ∧ TolC [(nI (pcN (bN (fiB D W) (dP D)))).toInt64] v ∧ Tc u v) ?_ ?_ (by omega) (0, 0) rfl rfl
    · intro f k w hk hw
      subst hw
      refine ⟨w, rfl, ?_⟩
      dsimp only
      rw [fX11_fits_4, hc.xP, if_neg (nI_ge hk (by omega)), gdi (show k < 8 by omega) (by omega), gdi (show k < 8 by omega) (by omega), hc.gl hk, hc.gh hk, allows_c wo wc (hc.2.1.2.2.2.1 k hk) (hc.2.1.2.2.2.2.1 k hk), oBs, nI_1]
      exact bit_c (p := fiB D W) (by omega) rfl (fun a => fX11_fits_4 f a (nI (k + 1)) w)
    · intro f w hw
      subst hw
      dsimp only
      obtain ⟨v, e1, t1, f1⟩ := tl1_c (nI (pcN (bN (fiB D W) (dP D)))).toInt64 w
      rw [fX11_fits_4, hc.xP, if_pos (nI_le (Nat.le_refl _) (by omega)), bc_n h8, oBs, e1, oVs]
      exact ⟨v, rfl, t1, f1⟩
  obtain ⟨u1, e1, t1, f1⟩ := A
  have k0 : Fq u1 (sI u1 47 0 0) := Fm.rf.sI rfl
  have hM := (hW.ft (f1.tcft.trans k0.qt)).mw
  have wm1 : WitM W (sI u1 47 0 0) := (wm.fm f1 rfl rfl).fm k0 rfl rfl
  have B : ∃ v, fX12_fits u1 = some (nI (bN (fiB D W) (dP D)), v) ∧ TolM [(nI (pcN (bN (fiB D W) (dP D)))).toInt64] v ∧ Fq u1 v := by
    rw [fX12_fits, nxs]
    refine lpF (fun f (x : Int32 × Int32) w => fX12_fits_9 f x.1 x.2 w) (dP D) (fun i => (nI (bN (fiB D W) i), nI i)) (fun w => w = sI u1 47 0 0) (fun o => ∃ v, o = some (nI (bN (fiB D W) (dP D)), v) ∧ TolM [(nI (pcN (bN (fiB D W) (dP D)))).toInt64] v ∧ Fq u1 v) ?_ ?_ (by omega) (0, 0) rfl rfl
    · intro f k w hk hw
      subst hw
      refine ⟨_, rfl, ?_⟩
      dsimp only
      rw [fX12_fits_9, hM.xP, if_neg (nI_ge hk (by omega)), gdi (show k < 8 by omega) (by omega), gdi (show k < 8 by omega) (by omega), hM.gl hk, hM.gh hk, law_m wo wm1 (hc.2.1.2.2.2.1 k hk) (hc.2.1.2.2.2.2.1 k hk), oBs, nI_1]
      exact bit_m (p := fiB D W) (by omega) rfl (fun a => fX12_fits_9 f a (nI (k + 1)) (sI u1 47 0 0))
    · intro f w hw
      subst hw
      dsimp only
      obtain ⟨v, e1, t1, f1⟩ := en_m (clr_m (sI u1 47 0 0)) (by decide) (nI (pcN (bN (fiB D W) (dP D)))).toInt64
      rw [fX12_fits_9, hM.xP, if_pos (nI_le (Nat.le_refl _) (by omega)), nxs, bc_n h8, oBs, e1, oVs]
      exact ⟨v, rfl, t1, (k0.sI rfl).trans f1.mq⟩
  obtain ⟨u2, e2, t2, f2⟩ := B
  exact ⟨_, u1, u2, e1, e2, q_told hI f1.tcft t1 f2 t2 (by simp)⟩
