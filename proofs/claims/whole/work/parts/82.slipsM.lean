/-! slips, the model -/
variable {D : DD} {m m' : MM} {e r : Nat} {u v : US}
def RwB (row n : Nat) (p : Nat → Bool) (u : US) : Prop := ∀ j, j < n → u.2.1 row j = bI (p j)
theorem RwB.g {row n : Nat} {p : Nat → Bool} (h : RwB row n p u) {j : Nat} (hj : j < n) (hn : n ≤ 36) : gA u row (nI j) = bI (p j) := by
  show u.2.1 row (nI j).toNatClampNeg = _
  rw [nI_clamp (by omega)]; exact h j hj
theorem RwB.fm {row n : Nat} {p : Nat → Bool} {a : List (Nat × Nat)} {b c : List Nat} (h : RwB row n p u) (f : Fm a b c u v) (q : b.contains row = false) : RwB row n p v := fun j hj => by rw [f.a row q]; exact h j hj
theorem RwB.push {row n : Nat} {p : Nat → Bool} (h : RwB row n p u) (hn : n < 36) : RwB row (n + 1) p (sA u row (nI n) (bI (p n))) := fun j hj => by
  rw [gA_sA, if_pos rfl, nI_clamp (by omega)]
  by_cases q : j = n
  · subst q; rw [pk_us]
  · rw [pk_un q]; exact h j (by omega)
def ngB (D : DD) (w : Nat → Bool) (f i : Nat) : Bool := anyB (fun h => match bes D f h with | none => false | some g => w g) i
theorem ng_eq (hd : DatO D) (w : Nat → Bool) {f : Nat} (hf : f < dR D * dC D) : ngB D w f 4 = anyB (fun g => w g && nbB D g f) (dR D * dC D) := by
  rw [Bool.eq_iff_iff, ngB, anyB_iff, anyB_iff]
  constructor
  · rintro ⟨h, hh, q⟩
    cases hb : bes D f h with
    | none => rw [hb] at q; cases q
    | some g =>
      rw [hb] at q
      exact ⟨g, bes_lt hd hf hb, by rw [show w g = true from q, nb_sym hd hf (nb_iff.mpr ⟨h, hh, hb⟩)]; rfl⟩
  · rintro ⟨g, hg, q⟩
    rw [Bool.and_eq_true] at q
    obtain ⟨h, hh, hb⟩ := nb_iff.mp (nb_sym hd hg q.2)
    exact ⟨h, hh, by rw [hb]; exact q.1⟩
def isN (D : DD) (w dk : Nat → Bool) (n f : Nat) : Bool := (if n = 0 then w f else w f || ngB D w f 4) && dk f
theorem s183 {a1 a2 a3 a4 : Int32} {K : Int32 → US → Option (Int32 × US)} {K2 : Int32 → Int32 → US → Option (Int32 × US)} {n f N : Nat} {b : Bool} {dk : Nat → Bool} (hN : N ≤ 36) (hf : f < N) (hd : RwB 70 N dk u) : fX12_slips_183 a1 a2 a3 a4 K K2 (nI n) (nI f) (bI b) u = K2 (nI n) (nI (f + 1)) (sA u 72 (nI f) (bI (b && dk f))) := by
  have i36 := inb_nI (show f < 36 by omega) (show 36 < 2 ^ 31 by decide)
  unfold fX12_slips_183
  rw [gd_t i36, gd_t i36, gd_t i36, nxs, nxs, hd.g hf hN, nI_1]
  cases b with
  | false => rw [if_pos (show bI false = 0 from rfl)]; rfl
  | true =>
    rw [if_neg (show ¬ bI true = 0 by decide)]
    cases dk f with
    | false => rw [if_pos (show bI false = 0 from rfl)]; rfl
    | true => rw [if_neg (show ¬ bI true = 0 by decide)]; rfl
theorem s129 (h : Mw D m r u) {a1 a2 a3 a4 : Int32} {K : Int32 → US → Option (Int32 × US)} {K2 : Int32 → Int32 → US → Option (Int32 × US)} {n f : Nat} {w : Nat → Bool} (hn : n ≤ 100) (hf : f < dR D * dC D) (hw : RwB 73 (dR D * dC D) w u) : fX12_slips_129 a1 a2 a3 a4 K K2 FU (nI n) (nI f) (bI (w f)) 0 u = fX12_slips_183 a1 a2 a3 a4 K K2 (nI n) (nI f) (bI (if n = 0 then w f else w f || ngB D w f 4)) u := by
  have hRC := h.2.1.RC
  by_cases h0 : n = 0
  · subst h0
    rw [if_pos rfl, FU_s, fX12_slips_129, if_neg (by decide), if_pos (show nI 0 ≤ 0 by decide)]
  · rw [if_neg h0]
    refine lpF (fun g (x : Int32 × Int32) q => fX12_slips_129 a1 a2 a3 a4 K K2 g (nI n) (nI f) x.1 x.2 q) 4 (fun i => (bI (w f || ngB D w f i), nI i)) (fun q => q = u) (fun o => o = fX12_slips_183 a1 a2 a3 a4 K K2 (nI n) (nI f) (bI (w f || ngB D w f 4)) u) ?_ ?_ (by omega) (bI (w f), 0) (by rw [show ngB D w f 0 = false from rfl, Bool.or_false]; rfl) rfl
    · intro g i q hi hq
      subst hq
      refine ⟨q, rfl, ?_⟩
      dsimp only
      rw [fX12_slips_129, if_neg (show ¬ (4 : Int32) ≤ nI i from nI_ge (b := 4) hi (by omega)), if_neg (nI_nle (by omega) (by omega)), bes_m h hf (by omega), oBs, show besM D f i = bes D f i from if_neg (by omega), nI_1, show ngB D w f (i + 1) = (ngB D w f i || (match bes D f i with | none => false | some g => w g)) from rfl]
      cases hA : (w f || ngB D w f i) with
      | true =>
        rw [if_neg (show ¬ bI true = 0 by decide), ← Bool.or_assoc, hA, Bool.true_or]; rfl
      | false =>
        rw [if_pos (show bI false = 0 from rfl), ← Bool.or_assoc, hA, Bool.false_or]
        cases hb : bes D f i with
        | none => rw [if_pos (show hV none < 0 by decide)]; rfl
        | some x =>
          have hx := bes_lt h.2.1 hf hb
          rw [if_neg (show ¬ hV (some x) < 0 from nI_pos (by omega)), show hV (some x) = nI x from rfl, gdi (show x < 36 by omega) (by omega), hw.g hx hRC]
          cases hwx : w x with
          | false =>
            rw [if_pos (show bI false = 0 from rfl)]
            show _ = fX12_slips_129 a1 a2 a3 a4 K K2 g (nI n) (nI f) (bI (w x)) (nI (i + 1)) q
            rw [hwx]; rfl
          | true =>
            rw [if_neg (show ¬ bI true = 0 by decide)]
            show _ = fX12_slips_129 a1 a2 a3 a4 K K2 g (nI n) (nI f) (bI (w x)) (nI (i + 1)) q
            rw [hwx]; rfl
    · intro g q hq
      subst hq
      dsimp only
      rw [fX12_slips_129, if_pos (show (4 : Int32) ≤ nI 4 by decide)]
theorem s231 (h : Mw D m 56 u) {a1 a2 a3 a4 : Int32} {K : Int32 → US → Option (Int32 × US)} {n : Nat} {p : Nat → Bool} (hp : RwB 72 (dR D * dC D) p u) : ∃ v, fX12_slips_231 a1 a2 a3 a4 K FU (nI n) 0 u = K (nI (n + 1)) v ∧ Mw D (mST m (mT m + 1)) 56 v ∧ RwB 73 (dR D * dC D) p v ∧ Fm [] [73, 56] [] u v := by
  have hRC := h.2.1.RC
  refine lpE (fun g (x : Int32) q => fX12_slips_231 a1 a2 a3 a4 K g (nI n) x q) (dR D * dC D) (fun i => nI i) (fun i q => RwB 73 i p q ∧ Fm [] [73] [] u q) (fun o => ∃ v, o = K (nI (n + 1)) v ∧ Mw D (mST m (mT m + 1)) 56 v ∧ RwB 73 (dR D * dC D) p v ∧ Fm [] [73, 56] [] u v) ?_ ?_ (by omega) 0 rfl ⟨fun j hj => absurd hj (Nat.not_lt_zero j), Fm.rf⟩
  · rintro g i q hi ⟨hq, hf⟩
    have hc := h.fm56 hf rfl rfl
    left
    rw [fX12_slips_231, hc.xR, hc.xC, pk_mul, if_neg (nI_ge hi (by omega)), gdi (show i < 36 by omega) (by omega), gdi (show i < 36 by omega) (by omega), nxs, (hp.fm hf rfl).g hi hRC, nar_b, nI_1]
    exact ⟨_, ⟨hq.push (by omega), hf.sA rfl⟩, rfl⟩
  · rintro g q ⟨hq, hf⟩
    have hc := h.fm56 hf rfl rfl
    rw [fX12_slips_231, hc.xR, hc.xC, pk_mul, if_pos (nI_le (Nat.le_refl _) (by omega)), gd_t (show inb 25 26 = true from rfl), gd_t (show inb 25 26 = true from rfl), nxs, hc.gT, nI_1]
    refine ⟨_, rfl, hc.sT, hq.fm (a := []) (b := [56]) (c := []) (Fm.rf.sA rfl) rfl, (hf.mono rfl rfl rfl : Fm [] [73, 56] [] u q).sA rfl⟩
theorem s103 (h : Mw D m 56 u) {a1 a3 a4 : Int32} {K : Int32 → US → Option (Int32 × US)} {n g : Nat} {w dk : Nat → Bool} (hn : n ≤ 100) (hg : g < dR D * dC D) (hd : RwB 70 (dR D * dC D) dk u) (hw : RwB 73 (dR D * dC D) w u) : (isN D w dk n g = true ∧ ∃ v, fX12_slips_103 a1 (nI g) a3 a4 K FU (nI n) 0 u = some (nI n, v) ∧ Fm [] [72, 73, 56] [] u v) ∨ (isN D w dk n g = false ∧ ∃ v, fX12_slips_103 a1 (nI g) a3 a4 K FU (nI n) 0 u = K (nI (n + 1)) v ∧ Mw D (mST m (mT m + 1)) 56 v ∧ RwB 73 (dR D * dC D) (isN D w dk n) v ∧ Fm [] [72, 73, 56] [] u v) := by
  have hRC := h.2.1.RC
  refine lpE (fun f (x : Int32) q => fX12_slips_103 a1 (nI g) a3 a4 K f (nI n) x q) (dR D * dC D) (fun i => nI i) (fun i q => RwB 72 i (isN D w dk n) q ∧ Fm [] [72] [] u q) (fun o => (isN D w dk n g = true ∧ ∃ v, o = some (nI n, v) ∧ Fm [] [72, 73, 56] [] u v) ∨ (isN D w dk n g = false ∧ ∃ v, o = K (nI (n + 1)) v ∧ Mw D (mST m (mT m + 1)) 56 v ∧ RwB 73 (dR D * dC D) (isN D w dk n) v ∧ Fm [] [72, 73, 56] [] u v)) ?_ ?_ (by omega) 0 rfl ⟨fun j hj => absurd hj (Nat.not_lt_zero j), Fm.rf⟩
  · rintro f i q hi ⟨hq, hf⟩
    have hc := h.fm56 hf rfl rfl
    have hw2 := hw.fm hf rfl
    left
    rw [fX12_slips_103, hc.xR, hc.xC, pk_mul, if_neg (nI_ge hi (by omega)), gdi (show i < 36 by omega) (by omega), hw2.g hi hRC, s129 hc hn hi hw2, s183 hRC hi (hd.fm hf rfl)]
    exact ⟨_, ⟨hq.push (by omega), hf.sA rfl⟩, rfl⟩
  · rintro f q ⟨hq, hf⟩
    have hc := h.fm56 hf rfl rfl
    rw [fX12_slips_103, hc.xR, hc.xC, pk_mul, if_pos (nI_le (Nat.le_refl _) (by omega)), gdi (show g < 36 by omega) (by omega), hq.g hg hRC]
    cases hb : isN D w dk n g with
    | true =>
      left
      rw [if_neg (show ¬ bI true = 0 by decide)]
      exact ⟨rfl, q, rfl, hf.mono rfl rfl rfl⟩
    | false =>
      right
      obtain ⟨v, e1, h1, r1, f1⟩ := s231 hc (a1 := a1) (a2 := nI g) (a3 := a3) (a4 := a4) (K := K) (n := n) hq
      rw [if_pos (show bI false = 0 from rfl), e1]
      exact ⟨rfl, v, rfl, h1, r1, (hf.mono rfl rfl rfl).trans (f1.mono rfl rfl rfl)⟩
def wsB (D : DD) (m : MM) (k s o : Nat) : Nat → Nat → Bool
  | 0, f => decide (f = o)
  | n + 1, f => slB D m k s o n f
theorem is_sl (hd : DatO D) (k s o n : Nat) {f : Nat} (hf : f < dR D * dC D) : isN D (wsB D m k s o n) (dkB D m (tI' m n) k s) n f = slB D m k s o n f := by
  cases n with
  | zero => unfold isN; rw [if_pos rfl]; rfl
  | succ n => unfold isN; rw [if_neg (by omega), ng_eq hd _ hf]; rfl
theorem slips_m (h : Mw D m 55 (sI u 47 0 0)) {k s o g : Nat} (hk : k < 8) (hs : s < 10) (ho : o < dR D * dC D) (hg : g < dR D * dC D) : ∃ v, fX12_slips (nI o) (nI g) (nI k) (nI s) u = some ((match fsN (fun n => slB D m k s o n g) 61 with | none => -2 | some n => nI n), v) ∧ Fr u v := by
  have b := h.b
  have hRC := h.2.1.RC
  have hso : isSo (nI k) (nI s) := ⟨⟨nI_pos' (by omega), (show nI k ≤ (7 : Int32) from nI_le (b := 7) (by omega) (by omega))⟩, nI_pos' (by omega), (show nI s ≤ (9 : Int32) from nI_le (b := 9) (by omega) (by omega))⟩
  obtain ⟨u1, e1, h1, f1⟩ := copies56 h
  have k0 : Fr u u1 := (Fm.rf.sI rfl : Fr u (sI u 47 0 0)).trans (f1.mono rfl rfl rfl)
  rw [fX12_slips, nxs, isF_my h ho, oBs, if_neg (by decide), isF_my h hg, oBs, if_neg (by decide), (being_m _ _ _).1 hso, oBs, if_neg (by decide), e1, oVs]
  have main : ∀ w, Mw D m 56 w → RwB 73 (dR D * dC D) (wsB D m k s o 0) w → Fr u w → ∃ v, fX12_slips_81 (nI o) (nI g) (nI k) (nI s) FU 0 w = some ((match fsN (fun n => slB D m k s o n g) 61 with | none => -2 | some n => nI n), v) ∧ Fr u v := by
    intro w0 hw0 hr0 hf0
    refine lpE (fun f (x : Int32) q => fX12_slips_81 (nI o) (nI g) (nI k) (nI s) f x q) 61 (fun n => nI n) (fun n q => fsN (fun n => slB D m k s o n g) n = none ∧ Mw D (mST m (tI' m n)) 56 q ∧ RwB 73 (dR D * dC D) (wsB D m k s o n) q ∧ Fr u q) (fun q => ∃ v, q = some ((match fsN (fun n => slB D m k s o n g) 61 with | none => -2 | some n => nI n), v) ∧ Fr u v) ?_ ?_ (by omega) 0 rfl ⟨rfl, by rw [tI_0]; exact hw0, hr0, hf0⟩
    · rintro f n q hn ⟨hq, hm, hr, hf⟩
      obtain ⟨q2, e2, d2, f2⟩ := lays_m hm hk hs
      have hm2 : Mw D (mST m (tI' m n)) 56 q2 := hm.fm56 f2 rfl rfl
      have d2' : RwB 70 (dR D * dC D) (dkB D m (tI' m n) k s) q2 := d2
      rw [fX12_slips_81, if_neg (show ¬ (60 : Int32) < nI n from nI_nlt (a := 60) (by omega) (by omega)), e2, oBs]
      rcases s103 hm2 (a1 := nI o) (a3 := nI k) (a4 := nI s) (K := fX12_slips_81 (nI o) (nI g) (nI k) (nI s) f) (n := n) (by omega) hg d2' (hr.fm f2 rfl) with ⟨hb, v, e3, f3⟩ | ⟨hb, v, e3, h3, r3, f3⟩
      · right
        rw [is_sl h.2.1 k s o n hg] at hb
        rw [e3, fs_yN (p := fun n => slB D m k s o n g) hq hb hn]
        exact ⟨v, rfl, (hf.trans (f2.mono rfl rfl rfl)).trans (f3.mono rfl rfl rfl)⟩
      · left
        rw [is_sl h.2.1 k s o n hg] at hb
        rw [e3]
        refine ⟨v, ⟨fs_n (p := fun n => slB D m k s o n g) hq hb, ?_, ?_, (hf.trans (f2.mono rfl rfl rfl)).trans (f3.mono rfl rfl rfl)⟩, rfl⟩
        · rw [← tI_s]; exact h3
        · intro j hj
          rw [r3 j hj, is_sl h.2.1 k s o n hj]; rfl
    · rintro f q ⟨hq, hm, hr, hf⟩
      rw [fX12_slips_81, if_pos (show (60 : Int32) < nI 61 by decide), hq]
      exact ⟨q, rfl, hf⟩
  refine lpE (fun f (x : Int32) q => fX12_slips_40 (nI o) (nI g) (nI k) (nI s) f x q) (dR D * dC D) (fun n => nI n) (fun n q => RwB 73 n (wsB D m k s o 0) q ∧ Fm [] [73] [] u1 q) (fun q => ∃ v, q = some ((match fsN (fun n => slB D m k s o n g) 61 with | none => -2 | some n => nI n), v) ∧ Fr u v) ?_ ?_ (by omega) 0 rfl ⟨fun j hj => absurd hj (Nat.not_lt_zero j), Fm.rf⟩
  · rintro f i q hi ⟨hq, hf⟩
    have hc := h1.fm56 hf rfl rfl
    left
    rw [fX12_slips_40, hc.xR, hc.xC, pk_mul, if_neg (nI_ge hi (by omega)), gdi (show i < 36 by omega) (by omega), gdi (show i < 36 by omega) (by omega), nxs, nxs, nI_1]
    have hp := hq.push (show i < 36 by omega)
    by_cases e : i = o
    · rw [if_pos (by rw [e]), show vp_nar .boolean 1 = 1 by decide]
      rw [show wsB D m k s o 0 i = true from decide_eq_true e] at hp
      exact ⟨_, ⟨hp, hf.sA rfl⟩, rfl⟩
    · rw [if_neg (fun q => e ((nI_eq (by omega) (by omega)).mp q)), show vp_nar .boolean 0 = 0 by decide]
      rw [show wsB D m k s o 0 i = false from decide_eq_false e] at hp
      exact ⟨_, ⟨hp, hf.sA rfl⟩, rfl⟩
  · rintro f q ⟨hq, hf⟩
    have hc := h1.fm56 hf rfl rfl
    rw [fX12_slips_40, hc.xR, hc.xC, pk_mul, if_pos (nI_le (Nat.le_refl _) (by omega))]
    exact main q hc hq (k0.trans (hf.mono rfl rfl rfl))
theorem st_28 : St_28 Inv := by
  intro n a1 a2 a3 a4 u hn hI
  obtain ⟨D, m, hW, hR⟩ := Inv_to hI
  have hc := hW.cw
  have hM0 : Mw D m 55 (sI u 47 0 0) := (hW.fr (Fm.rf.sI rfl)).mw
  by_cases h1 : isIx (dR D * dC D) a1
  · obtain ⟨o, ho, rfl⟩ := h1
    by_cases h2 : isIx (dR D * dC D) a2
    · obtain ⟨g, hg, rfl⟩ := h2
      by_cases hso : isSo a3 a4
      · obtain ⟨k, s, hk, hs, rfl, rfl⟩ := isSo_n hso
        obtain ⟨v, e1, f1⟩ := slips_c hc hk hs ho hg
        have hM := (hW.ft (f1.sft.trans (Fm.rf.sI rfl : Ft v (sI v 47 0 0)))).mw
        obtain ⟨w, e2, f2⟩ := slips_m hM hk hs ho hg
        exact ⟨_, v, w, e1, e2, Inv_Fr hI (f1.fr.trans f2)⟩
      · refine ⟨-1, u, sI u 47 0 0, ?_, ?_, q_no hI⟩
        · unfold fX11_slips
          rw [isF_cy hc ho, oBs, if_neg (by decide), isF_cy hc hg, oBs, if_neg (by decide), sort_n hso, oBs, if_pos rfl]
        · rw [fX12_slips, nxs, isF_my hM0 ho, oBs, if_neg (by decide), isF_my hM0 hg, oBs, if_neg (by decide), (being_m _ _ _).2 hso, oBs, if_pos rfl]
    · refine ⟨-1, u, sI u 47 0 0, ?_, ?_, q_no hI⟩
      · unfold fX11_slips
        rw [isF_cy hc ho, oBs, if_neg (by decide), isF_cn hc h2, oBs, if_pos rfl]
      · rw [fX12_slips, nxs, isF_my hM0 ho, oBs, if_neg (by decide), isF_mn hM0 h2, oBs, if_pos rfl]
  · refine ⟨-1, u, sI u 47 0 0, ?_, ?_, q_no hI⟩
    · unfold fX11_slips
      rw [isF_cn hc h1, oBs, if_pos rfl]
    · rw [fX12_slips, nxs, isF_mn hM0 h1, oBs, if_pos rfl]
