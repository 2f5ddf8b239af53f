/-! adds -/
variable {D : DD} {m : MM} {e r : Nat} {u v : US}
theorem anyB_or {p q : Nat → Bool} : ∀ n, anyB (fun i => p i || q i) n = (anyB p n || anyB q n)
  | 0 => rfl
  | n + 1 => by
    rw [anyB, anyB_or n, anyB, anyB]
    cases anyB p n <;> cases anyB q n <;> cases p n <;> cases q n <;> rfl
theorem sb_or (D : DD) (m : MM) (r a c : Nat) : sbN D m r (a ||| c) = sbN D m r a ||| sbN D m r c := by
  apply tb_ext; intro i
  rw [Nat.testBit_or, sbN, sbN, sbN, bN_tb, bN_tb, bN_tb]
  have : anyB (lsB D m (a ||| c) (dk D i) (ds D i)) (dP D) = (anyB (lsB D m a (dk D i) (ds D i)) (dP D) || anyB (lsB D m c (dk D i) (ds D i)) (dP D)) := by
    rw [← anyB_or]
    refine anyB_cong (fun p _ => ?_)
    unfold lsB
    rw [Nat.testBit_or]
    cases a.testBit p <;> cases c.testBit p <;> simp
  unfold sbB
  rw [this]
  cases decide (i < dT D) <;> cases neB D m r i <;> rfl
theorem nm_or {a s : Nat} (ha : a < 256) (hs : s < 256) : nI (nm a s) = 0 ↔ nI s = nI (s ||| a) := by
  have h2 : s ||| a < 2 ^ 8 := Nat.or_lt_two_pow hs ha
  rw [nm_0 (by omega), nI_eq (by omega) (by omega)]
  constructor
  · intro h
    apply tb_ext; intro i
    rw [Nat.testBit_or]
    by_cases q : a.testBit i = true
    · rw [h i q]; rfl
    · rw [ts_nt q, Bool.or_false]
  · intro h i hi
    rw [h, Nat.testBit_or, hi, Bool.or_true]
def adB (D : DD) (m : MM) (r p o c : Nat) : Bool := decide (nI (nm c o) = 0) && decide (¬ nI (nm (sbN D m r (2 ^ p)) (sbN D m r c)) = 0)
theorem adds_c (hW : Wd D m u) {r p o : Nat} (hp : p < dP D) (ho : o < 256) (hP : PaC (thR D m r) (dP D) u) : ∃ v, fX11_adds_73 (nI p) FU (nI (sbN D m r (2 ^ p))) (nI o) 0 0 u = some (nI (fb_ct (adB D m r p o) (o + 1)), v) ∧ TolC [((1 : Int32) <<< (nI (pcN o) &&& 31)).toInt64] v ∧ Tc u v := by
  have hc := hW.cw
  have b := hc.b
  refine lpF (fun f (x : Int32 × Int32 × Int32 × Int32) w => fX11_adds_73 (nI p) f x.1 x.2.1 x.2.2.1 x.2.2.2 w) (o + 1) (fun i => (nI (sbN D m r (2 ^ p)), nI o, nI (fb_ct (adB D m r p o) i), nI i)) (fun w => w = u) (fun q => ∃ v, q = some (nI (fb_ct (adB D m r p o) (o + 1)), v) ∧ TolC [((1 : Int32) <<< (nI (pcN o) &&& 31)).toInt64] v ∧ Tc u v) ?_ ?_ (by omega) (nI (sbN D m r (2 ^ p)), nI o, 0, 0) rfl rfl
  · intro f k w hk hf
    subst hf
    refine ⟨w, rfl, ?_⟩
    dsimp only
    rw [fX11_adds_73, if_neg (nI_nlt (show k ≤ o by omega) (by omega)), and_n, fb_ct_succ]
    by_cases q1 : nI (nm k o) = 0
    · rw [if_pos q1, fX11_adds_95, if_neg (by decide), union_c hP (by omega) (by omega), oBs, un_sb, and_n, nI_1, nI_1]
      by_cases q2 : nI (nm (sbN D m r (2 ^ p)) (sbN D m r k)) = 0
      · rw [if_pos q2, show adB D m r p o k = false by unfold adB; simp [q2]]; rfl
      · rw [if_neg q2, show adB D m r p o k = true by unfold adB; simp [q1, q2]]; rfl
    · rw [if_neg q1, fX11_adds_95, if_pos rfl, show adB D m r p o k = false by unfold adB; simp [q1], nI_1]; rfl
  · intro f w hf
    subst hf
    dsimp only
    obtain ⟨v, e1, t1, f1⟩ := tl1_c ((1 : Int32) <<< (nI (pcN o) &&& 31)).toInt64 w
    rw [fX11_adds_73, if_pos (nI_lt (show o < o + 1 by omega) (by omega)), bc_n ho, oBs, e1, oVs]
    exact ⟨v, rfl, t1, f1⟩
theorem adds_m (h : Mw D m 55 u) {r p o : Nat} (hr : r < dM D) (hp : p < dP D) (ho : o < 256) : ∃ v, fX12_adds_54 (nI p) FU (nI r) (nI o) 0 0 u = some (nI (fb_ct (adB D m r p o) (o + 1)), v) ∧ TolM [((1 : Int32) <<< (nI (pcN o) &&& 31)).toInt64] v ∧ Fq u v := by
  have b := h.b
  have h8 : 2 ^ p < 256 := wb_lt2 (b := 8) (by omega)
  refine lpF (fun f (x : Int32 × Int32 × Int32 × Int32) w => fX12_adds_54 (nI p) f x.1 x.2.1 x.2.2.1 x.2.2.2 w) (o + 1) (fun i => (nI r, nI o, nI (fb_ct (adB D m r p o) i), nI i)) (fun w => Sx u w) (fun q => ∃ v, q = some (nI (fb_ct (adB D m r p o) (o + 1)), v) ∧ TolM [((1 : Int32) <<< (nI (pcN o) &&& 31)).toInt64] v ∧ Fq u v) ?_ ?_ (by omega) (nI r, nI o, 0, 0) rfl Fm.rf
  · intro f k w hk hf
    have hw := h.sx hf
    dsimp only
    rw [fX12_adds_54, if_neg (nI_nlt (show k ≤ o by omega) (by omega)), and_n, fb_ct_succ]
    by_cases q1 : nI (nm k o) = 0
    · have hk2 : k ||| 2 ^ p < 2 ^ 8 := Nat.or_lt_two_pow (by omega) h8
      obtain ⟨v1, e1, f1⟩ := seenBy_m hw hr (a := k) (by omega)
      obtain ⟨v2, e2, f2⟩ := seenBy_m (hw.sx f1) hr (a := k ||| 2 ^ p) hk2
      refine ⟨v2, (hf.trans f1).trans f2, ?_⟩
      rw [if_pos q1, fX12_adds_74, if_neg (by decide), e1, oBs, or_b (by omega), e2, oBs, sb_or]
      by_cases q2 : nI (nm (sbN D m r (2 ^ p)) (sbN D m r k)) = 0
      · rw [if_pos ((nm_or (sbN_256 h.2.1 r _) (sbN_256 h.2.1 r _)).mp q2), fX12_adds_116, fX12_adds_117, show fX12_flag 0 v2 = some (0, v2) from rfl, oBs, show adB D m r p o k = false by unfold adB; simp [q2], nI_1]
        rw [show nI (fb_ct (adB D m r p o) k) + 0 = nI (fb_ct (adB D m r p o) k) from nI_add _ 0]; rfl
      · rw [if_neg (fun q => q2 ((nm_or (sbN_256 h.2.1 r _) (sbN_256 h.2.1 r _)).mpr q)), fX12_adds_117, show fX12_flag 1 v2 = some (1, v2) from rfl, oBs, show adB D m r p o k = true by unfold adB; simp [q1, q2], nI_1, nI_1]; rfl
    · refine ⟨w, hf, ?_⟩
      rw [if_neg q1, fX12_adds_74, if_pos rfl, fX12_adds_116, fX12_adds_117, show fX12_flag 0 w = some (0, w) from rfl, oBs, show adB D m r p o k = false by unfold adB; simp [q1], nI_1]
      rw [show nI (fb_ct (adB D m r p o) k) + 0 = nI (fb_ct (adB D m r p o) k) from nI_add _ 0]; rfl
  · intro f w hf
    dsimp only
    obtain ⟨v, e1, t1, f1⟩ := en_m (clr_m w) (by decide) ((1 : Int32) <<< (nI (pcN o) &&& 31)).toInt64
    rw [fX12_adds_54, if_pos (nI_lt (show o < o + 1 by omega) (by omega)), nxs, bc_n ho, oBs, e1, oVs]
    exact ⟨v, rfl, t1, (hf.sq.sI rfl).trans f1.mq⟩
theorem st_26 : St_26 Inv := by
  intro n a u hn hI
  obtain ⟨D, m, hW, hR⟩ := Inv_to hI
  have hc := hW.cw
  have b := hc.b
  have hM0 : Mw D m 55 (sI u 47 0 0) := (hW.fr (Fm.rf.sI rfl)).mw
  by_cases h0 : isIx (dP D) a
  · obtain ⟨p, hp, rfl⟩ := h0
    have i8 := inb_nI (show p < 8 by omega) (show 8 < 2 ^ 31 by decide)
    have e24 : gA u 24 (nI p) = hV (mO m p) := hc.gO hp
    cases ho : mO m p with
    | none =>
      refine ⟨-2, u, sI u 47 0 0, ?_, ?_, q_no hI⟩
      · unfold fX11_adds
        rw [isP_cy hc hp, oBs, if_neg (by decide), gd_t i8, e24, ho, if_pos (show hV none = -1 from rfl)]
      · rw [fX12_adds, nxs, isP_my hM0 hp, oBs, if_neg (by decide), ad16, gdi (show 16 + p < 26 by omega) (by omega), hM0.gO hp, ho, if_neg (show ¬ 0 ≤ hV none by decide)]
    | some r =>
      have hr : r < dM D := hc.2.2.2.2.1.2.2.1 p hp r ho
      have h8 : 2 ^ p < 256 := wb_lt2 (b := 8) (by omega)
      have hu := nm_256 (b := 2 ^ p) (huN_256 (m := m) (o := some r) (show dP D ≤ 8 by omega))
      obtain ⟨w, e0, p0, f0⟩ := parts_c hW hr
      have hW0 := hW.fr f0.pr
      obtain ⟨w1, e1, t1, f1⟩ := adds_c hW0 hp hu p0
      have k1 : Ft u w1 := f0.pr.ft.trans f1.tcft
      have k2 : Fq w1 (sI w1 47 0 0) := Fm.rf.sI rfl
      have hM2 := (hW.ft (k1.trans k2.qt)).mw
      obtain ⟨v, e2, t2, f2⟩ := adds_m hM2 hr hp hu
      refine ⟨nI (fb_ct (adB D m r p (nm (huN D m (some r)) (2 ^ p))) (nm (huN D m (some r)) (2 ^ p) + 1)), w1, v, ?_, ?_, q_told hI k1 t1 (k2.trans f2) t2 (by simp)⟩
      · unfold fX11_adds
        rw [isP_cy hc hp, oBs, if_neg (by decide), gd_t i8, e24, ho, if_neg (show ¬ hV (some r) = -1 from n31 (by omega)), show hV (some r) = nI r from rfl, e0, oVs, sh1 p (by omega), union_c p0 (by omega) (by omega), oBs, un_sb, pIn_c hW0.cw hr, oBs, and_n, e1]
      · rw [fX12_adds, nxs, isP_my hM2 hp, oBs, if_neg (by decide), ad16, gdi (show 16 + p < 26 by omega) (by omega), hM2.gO hp, ho, if_pos (show 0 ≤ hV (some r) from nI_pos' (by omega)), show hV (some r) = nI r from rfl, pOf_m hM2 hr, oBs, sh1 p (by omega), and_n, e2]
  · refine ⟨-1, u, sI u 47 0 0, ?_, ?_, q_no hI⟩
    · unfold fX11_adds
      rw [isP_cn hc h0, oBs, if_pos rfl]
    · rw [fX12_adds, nxs, isP_mn hM0 h0, oBs, if_pos rfl]
