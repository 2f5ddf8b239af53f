/-! steals, the model -/
variable {D : DD} {m m' : MM} {e r : Nat} {u v : US} {dk : Nat → Bool} {g : Nat}
theorem adc {q q' x x' : Nat} (h : ad q q' + ad x x' = 1) : (q = q' ∧ x' = x + 1) ∨ (q = q' ∧ x = x' + 1) ∨ (x = x' ∧ q' = q + 1) ∨ (x = x' ∧ q = q' + 1) := by
  unfold ad at h; omega
theorem dist_nb (hd : DatO D) {f x : Nat} (hf : f < dR D * dC D) (hx : x < dR D * dC D) : dist (dC D) f x = 1 ↔ nbB D f x = true := by
  have b := hd.1
  have hC : 0 < dC D := b.2.2.1
  have hq : f / dC D < dR D := Nat.div_lt_of_lt_mul (by rw [Nat.mul_comm]; exact hf)
  have hq2 : x / dC D < dR D := Nat.div_lt_of_lt_mul (by rw [Nat.mul_comm]; exact hx)
  have e1 := div_add (f := f) (C := dC D)
  have e2 := Nat.mod_lt f hC
  have e3 := div_add (f := x) (C := dC D)
  have e4 := Nat.mod_lt x hC
  rw [nb_iff]
  constructor
  · intro h
    rcases adc h with ⟨a, b⟩ | ⟨a, b⟩ | ⟨a, b⟩ | ⟨a, b⟩
    · refine ⟨1, (by omega), ?_⟩
      unfold bes
      rw [if_neg (by decide), if_pos rfl, if_pos (by omega)]
      congr 1
      rw [a] at e1
      omega
    · refine ⟨3, (by omega), ?_⟩
      unfold bes
      rw [if_neg (by decide), if_neg (by decide), if_neg (by decide), if_pos rfl, if_pos (by rw [b]; exact Nat.succ_pos _)]
      congr 1
      rw [a] at e1
      omega
    · refine ⟨2, (by omega), ?_⟩
      unfold bes
      rw [if_neg (by decide), if_neg (by decide), if_pos rfl, if_pos (by rw [← b]; exact hq2)]
      congr 1
      rw [b, Nat.mul_add, Nat.mul_one] at e3
      omega
    · refine ⟨0, (by omega), ?_⟩
      unfold bes
      rw [if_pos rfl, if_pos (by rw [b]; exact Nat.succ_pos _)]
      congr 1
      rw [b, Nat.mul_add, Nat.mul_one] at e1
      omega
  · rintro ⟨h, hh, hb⟩
    unfold dist
    rcases (show h = 0 ∨ h = 1 ∨ h = 2 ∨ h = 3 by omega) with rfl | rfl | rfl | rfl
    · unfold bes at hb
      rw [if_pos rfl] at hb
      split at hb
      · rename_i q0
        cases hb
        obtain ⟨q, hq'⟩ : ∃ q, f / dC D = q + 1 := ⟨f / dC D - 1, (by omega)⟩
        rw [hq', Nat.mul_add, Nat.mul_one] at e1
        have eg : f - dC D = dC D * q + f % dC D := by omega
        rw [eg, dm_q e2, dm_r e2, hq']
        unfold ad; omega
      · cases hb
    · unfold bes at hb
      rw [if_neg (by decide), if_pos rfl] at hb
      split at hb
      · rename_i q0
        cases hb
        have eg : f + 1 = dC D * (f / dC D) + (f % dC D + 1) := by omega
        rw [eg, dm_q q0, dm_r q0]
        unfold ad; omega
      · cases hb
    · unfold bes at hb
      rw [if_neg (by decide), if_neg (by decide), if_pos rfl] at hb
      split at hb
      · rename_i q0
        cases hb
        have eg : f + dC D = dC D * (f / dC D + 1) + f % dC D := by rw [Nat.mul_add, Nat.mul_one]; omega
        rw [eg, dm_q e2, dm_r e2]
        unfold ad; omega
      · cases hb
    · unfold bes at hb
      rw [if_neg (by decide), if_neg (by decide), if_neg (by decide), if_pos rfl] at hb
      split at hb
      · rename_i q0
        cases hb
        obtain ⟨y, hy⟩ : ∃ y, f % dC D = y + 1 := ⟨f % dC D - 1, (by omega)⟩
        have eg : f - 1 = dC D * (f / dC D) + y := by omega
        rw [eg, dm_q (by omega), dm_r (by omega), hy]
        unfold ad; omega
      · cases hb
theorem bes_ne (hd : DatO D) {f x h : Nat} (hf : f < dR D * dC D) (hh : h < 4) (hb : bes D f h = some x) : x ≠ f := by
  intro e
  subst e
  have := (dist_nb hd hf hf).mpr (nb_iff.mpr ⟨h, hh, hb⟩)
  unfold dist ad at this
  omega
def StM (n : Nat) (st : Nat → Nat) (u : US) : Prop := ∀ j, j < n → u.2.1 71 j = nI (st j)
theorem StM.gt {n : Nat} {st : Nat → Nat} (h : StM n st u) {j : Nat} (hj : j < n) (hn : n ≤ 36) : gA u 71 (nI j) = nI (st j) := by
  show u.2.1 71 (nI j).toNatClampNeg = _
  rw [nI_clamp (by omega)]; exact h j hj
def Snd (D : DD) (dk : Nat → Bool) (g : Nat) (st : Nat → Nat) : Prop := ∀ f, f < dR D * dC D → st f ≤ 1000000 ∧ (st f < 1000000 → ∃ j, j ≤ st f ∧ rgB D dk g j f = true)
theorem St_set {n f s : Nat} {st : Nat → Nat} (h : StM n st u) (hf : f < n) (hn : n ≤ 36) : StM n (uN' st f s) (sA u 71 (nI f) (nI s)) := fun j hj => by
  show upd (u.2.1 71) (nI f).toNatClampNeg (nI s) j = _
  rw [nI_clamp (by omega)]
  unfold uN'
  by_cases q : j = f
  · subst q; rw [pk_us, if_pos rfl]
  · rw [pk_un q, if_neg q]; exact h j hj
theorem uN_at {α : Type} {st : Nat → α} {f : Nat} {s : α} : uN' st f s f = s := if_pos rfl
theorem uN_ot {α : Type} {st : Nat → α} {f y : Nat} {s : α} (h : y ≠ f) : uN' st f s y = st y := if_neg h
theorem uN_tw {α : Type} {st : Nat → α} {f : Nat} {s t : α} : uN' (uN' st f s) f t = uN' st f t := by
  funext y
  unfold uN'
  by_cases q : y = f
  · rw [if_pos q, if_pos q]
  · rw [if_neg q, if_neg q, if_neg q]
theorem uN_id {α : Type} {st : Nat → α} {f : Nat} : uN' st f (st f) = st := by
  funext y
  unfold uN'
  by_cases q : y = f
  · rw [if_pos q, q]
  · rw [if_neg q]
theorem s135 (h : Mw D m 55 u) {a1 a2 a3 a4 : Int32} {K1 : Int32 → US → Option (Int32 × US)} {K : Int32 → Int32 → US → Option (Int32 × US)} {n f : Nat} {st : Nat → Nat} (hf : f < dR D * dC D) (hd : RwB 70 (dR D * dC D) dk u) (hs : StM (dR D * dC D) st u) (ho : Snd D dk g st) : ∃ st' v, fX12_steals_135 a1 a2 a3 a4 K1 K FU (nI n) (nI f) 0 u = K (nI n) (nI (f + 1)) v ∧ StM (dR D * dC D) st' v ∧ Snd D dk g st' ∧ (∀ y, y ≠ f → st' y = st y) ∧ st' f ≤ st f ∧ (∀ h, h < 4 → ∀ x, bes D f h = some x → dk f = true → st' f ≤ st x + 1) ∧ Fm [] [71] [] u v := by
  have hRC := h.2.1.RC
  refine lpE (fun w (z : Int32) q => fX12_steals_135 a1 a2 a3 a4 K1 K w (nI n) (nI f) z q) 4 (fun i => nI i) (fun i q => ∃ s', StM (dR D * dC D) (uN' st f s') q ∧ s' ≤ st f ∧ Snd D dk g (uN' st f s') ∧ (∀ h, h < i → ∀ x, bes D f h = some x → dk f = true → s' ≤ st x + 1) ∧ Fm [] [71] [] u q) (fun o => ∃ st' v, o = K (nI n) (nI (f + 1)) v ∧ StM (dR D * dC D) st' v ∧ Snd D dk g st' ∧ (∀ y, y ≠ f → st' y = st y) ∧ st' f ≤ st f ∧ (∀ h, h < 4 → ∀ x, bes D f h = some x → dk f = true → st' f ≤ st x + 1) ∧ Fm [] [71] [] u v) ?_ ?_ (by omega) 0 rfl ⟨st f, by rw [uN_id]; exact hs, Nat.le_refl _, by rw [uN_id]; exact ho, fun h hh => absurd hh (Nat.not_lt_zero h), Fm.rf⟩
  · rintro w i q hi ⟨s', hs', hle, hsn, hdn, hfm⟩
    have hc := h.fm55 hfm rfl rfl
    have i36 := inb_nI (show f < 36 by omega) (show 36 < 2 ^ 31 by decide)
    have e71 : gA q 71 (nI f) = nI s' := by rw [hs'.gt hf hRC, uN_at]
    have hb0 := (hsn f hf).1
    rw [uN_at] at hb0
    left
    have same : StM (dR D * dC D) (uN' st f s') (sA q 71 (nI f) (nI s')) := by
      have := St_set (s := s') hs' hf hRC
      rw [uN_tw] at this; exact this
    rw [fX12_steals_135, if_neg (show ¬ (4 : Int32) ≤ nI i from nI_ge (b := 4) hi (by omega)), bes_m hc hf (by omega), oBs, show besM D f i = bes D f i from if_neg (by omega)]
    cases hb : bes D f i with
    | none =>
      rw [if_pos (show hV none < 0 by decide), fX12_steals_194, gd_t i36, gd_t i36, nxs, e71, nI_1]
      refine ⟨_, ⟨s', same, hle, hsn, fun h hh x hx hdk => ?_, hfm.sA rfl⟩, rfl⟩
      by_cases q2 : h = i
      · subst q2; rw [hb] at hx; cases hx
      · exact hdn h (by omega) x hx hdk
    | some x =>
      have hx := bes_lt h.2.1 hf hb
      have hne := bes_ne h.2.1 hf hi hb
      rw [if_neg (show ¬ hV (some x) < 0 from nI_pos (by omega)), gd_t i36, show gA q 70 (nI f) = _ from (hd.fm hfm rfl).g hf hRC, show hV (some x) = nI x from rfl]
      cases hk : dk f with
      | false =>
        rw [if_pos (show bI false = 0 from rfl), fX12_steals_194, gd_t i36, gd_t i36, nxs, e71, nI_1]
        refine ⟨_, ⟨s', same, hle, hsn, fun h hh y hy hdk => ?_, hfm.sA rfl⟩, rfl⟩
        cases hdk
      | true =>
        have ex : gA q 71 (nI x) = nI (st x) := by rw [hs'.gt hx hRC, uN_ot hne]
        have hxb := (ho x hx).1
        rw [if_neg (show ¬ bI true = 0 by decide), gd_t i36, gdi (show x < 36 by omega) (by omega), gd_t i36, nxs, ex, e71, nI_1, nI_1]
        have ev : (if nI (st x + 1) < nI s' then nI (st x + 1) else nI s') = nI (min (st x + 1) s') := by
          by_cases q2 : st x + 1 < s'
          · rw [if_pos (nI_lt q2 (by omega)), Nat.min_eq_left (by omega)]
          · rw [if_neg (nI_nlt (by omega) (by omega)), Nat.min_eq_right (by omega)]
        rw [ev]
        have st2 : StM (dR D * dC D) (uN' st f (min (st x + 1) s')) (sA q 71 (nI f) (nI (min (st x + 1) s'))) := by
          have := St_set (s := min (st x + 1) s') hs' hf hRC
          rw [uN_tw] at this; exact this
        refine ⟨_, ⟨min (st x + 1) s', st2, by omega, fun y hy => ?_, fun h hh y hy hdk => ?_, hfm.sA rfl⟩, rfl⟩
        · by_cases q3 : y = f
          · subst q3
            rw [uN_at]
            refine ⟨by omega, fun hlt => ?_⟩
            by_cases q2 : st x + 1 < s'
            · rw [Nat.min_eq_left (by omega)] at hlt ⊢
              obtain ⟨j, hj, hr⟩ := (ho x hx).2 (by omega)
              obtain ⟨j2, hj2, hr2⟩ := rg_up hk hx hr (nb_sym h.2.1 hy (nb_iff.mpr ⟨i, hi, hb⟩))
              exact ⟨j2, (by omega), hr2⟩
            · rw [Nat.min_eq_right (by omega)] at hlt ⊢
              have := (hsn y hy).2
              rw [uN_at] at this
              exact this hlt
          · have := hsn y hy
            rw [uN_ot q3] at this ⊢
            exact this
        · by_cases q2 : h = i
          · subst q2; rw [hb] at hy; cases hy; exact Nat.min_le_left _ _
          · exact Nat.le_trans (Nat.min_le_right _ _) (hdn h (by omega) y hy hk)
  · rintro w q ⟨s', hs', hle, hsn, hdn, hfm⟩
    rw [fX12_steals_135, if_pos (show (4 : Int32) ≤ nI 4 by decide), nI_1]
    refine ⟨uN' st f s', q, rfl, hs', hsn, fun y hy => uN_ot hy, by rw [uN_at]; exact hle, fun h hh x hx hdk => by rw [uN_at]; exact hdn h hh x hx hdk, hfm⟩
def Cmp (D : DD) (dk : Nat → Bool) (g n : Nat) (st : Nat → Nat) : Prop := ∀ f, f < dR D * dC D → ∀ k, k ≤ n → rgB D dk g k f = true → st f ≤ k
theorem s118 (h : Mw D m 55 u) {a1 a2 a3 a4 : Int32} {K1 : Int32 → US → Option (Int32 × US)} {n : Nat} {st : Nat → Nat} (hd : RwB 70 (dR D * dC D) dk u) (hs : StM (dR D * dC D) st u) (ho : Snd D dk g st) (hcm : Cmp D dk g n st) : ∃ st' v, fX12_steals_118 a1 a2 a3 a4 K1 FU (nI n) 0 u = K1 (nI (n + 1)) v ∧ StM (dR D * dC D) st' v ∧ Snd D dk g st' ∧ Cmp D dk g (n + 1) st' ∧ Fm [] [71] [] u v := by
  have hRC := h.2.1.RC
  refine lpE (fun w (z : Int32) q => fX12_steals_118 a1 a2 a3 a4 K1 w (nI n) z q) (dR D * dC D) (fun i => nI i) (fun i q => ∃ st', StM (dR D * dC D) st' q ∧ Snd D dk g st' ∧ (∀ y, st' y ≤ st y) ∧ (∀ y, y < i → ∀ h, h < 4 → ∀ x, bes D y h = some x → dk y = true → st' y ≤ st x + 1) ∧ Fm [] [71] [] u q) (fun o => ∃ st' v, o = K1 (nI (n + 1)) v ∧ StM (dR D * dC D) st' v ∧ Snd D dk g st' ∧ Cmp D dk g (n + 1) st' ∧ Fm [] [71] [] u v) ?_ ?_ (by omega) 0 rfl ⟨st, hs, ho, fun y => Nat.le_refl _, fun y hy => absurd hy (Nat.not_lt_zero y), Fm.rf⟩
  · rintro w i q hi ⟨s1, hs1, ho1, hle, hdn, hfm⟩
    have hc := h.fm55 hfm rfl rfl
    obtain ⟨s2, v, e2, hs2, ho2, hot, hle2, hdn2, f2⟩ := s135 hc (a1 := a1) (a2 := a2) (a3 := a3) (a4 := a4) (K1 := K1) (K := fX12_steals_118 a1 a2 a3 a4 K1 w) (n := n) hi (hd.fm hfm rfl) hs1 ho1
    left
    rw [fX12_steals_118, hc.xR, hc.xC, pk_mul, if_neg (nI_ge hi (by omega)), e2]
    refine ⟨v, ⟨s2, hs2, ho2, fun y => ?_, fun y hy h hh x hx hdk => ?_, hfm.trans f2⟩, rfl⟩
    · by_cases q2 : y = i
      · subst q2; exact Nat.le_trans hle2 (hle y)
      · rw [hot y q2]; exact hle y
    · by_cases q2 : y = i
      · subst q2
        have := hdn2 h hh x hx hdk
        have := hle x
        omega
      · rw [hot y q2]; exact hdn y (by omega) h hh x hx hdk
  · rintro w q ⟨s1, hs1, ho1, hle, hdn, hfm⟩
    have hc := h.fm55 hfm rfl rfl
    rw [fX12_steals_118, hc.xR, hc.xC, pk_mul, if_pos (nI_le (Nat.le_refl _) (by omega)), nI_1]
    refine ⟨s1, q, rfl, hs1, ho1, fun f hf k hk hr => ?_, hfm⟩
    by_cases q2 : k ≤ n
    · exact Nat.le_trans (hle f) (hcm f hf k q2 hr)
    · have : k = n + 1 := by omega
      subst this
      obtain ⟨x, hx, hr2, hnb⟩ := rg_dn hr
      obtain ⟨h', hh', hb⟩ := nb_iff.mp (nb_sym h.2.1 hx hnb)
      have l1 := hdn f hf h' hh' x hb (rg_dk hr)
      have l2 := hcm x hx n (Nat.le_refl _) hr2
      omega
theorem fin_st {st : Nat → Nat} (ho : Snd D dk g st) (hc : Cmp D dk g (dR D * dC D) st) {f : Nat} (hf : f < dR D * dC D) (k : Nat) (hk : k < 1000000) : st f = k ↔ rgB D dk g k f = true := by
  constructor
  · intro h
    obtain ⟨j, hj, hr⟩ := (ho f hf).2 (by omega)
    have hl := rg_lt hf hr
    have := hc f hf j (by omega) hr
    have e : j = k := by omega
    rw [← e]; exact hr
  · intro hr
    have hl := rg_lt hf hr
    have h1 := hc f hf k (by omega) hr
    obtain ⟨j, hj, hr2⟩ := (ho f hf).2 (by omega)
    have := rg_one hr hr2
    omega
theorem s262 (h : Mw D m 55 u) {a1 a2 a3 a4 : Int32} {K : Int32 → US → Option (Int32 × US)} {f k x : Nat} {st : Nat → Nat} (hf : f < dR D * dC D) (hs : StM (dR D * dC D) st u) (ho : Snd D dk g st) (hcm : Cmp D dk g (dR D * dC D) st) (hr : rgB D dk g (k + 1) f = true) (hx : fsN (fun x => nbB D f x && rgB D dk g k x) (dR D * dC D) = some x) : fX12_steals_262 a1 a2 a3 a4 K FU (nI f) (-1) 0 u = oV (fX12_enters (nI x).toInt64 u) fun u1 => K (nI x) u1 := by
  have hRC := h.2.1.RC
  have hk := rg_lt hf hr
  have esf : st f = k + 1 := (fin_st ho hcm hf (k + 1) (by omega)).mpr hr
  refine lpF (fun w (z : Int32 × Int32) q => fX12_steals_262 a1 a2 a3 a4 K w (nI f) z.1 z.2 q) (dR D * dC D) (fun i => (hV (fsN (fun x => nbB D f x && rgB D dk g k x) i), nI i)) (fun q => q = u) (fun o => o = oV (fX12_enters (nI x).toInt64 u) fun u1 => K (nI x) u1) ?_ ?_ (by omega) (-1, 0) rfl rfl
  · intro w i q hi hq
    subst hq
    refine ⟨q, rfl, ?_⟩
    dsimp only
    rw [fX12_steals_262, h.xR, h.xC, pk_mul, if_neg (nI_ge hi (by omega)), nI_1]
    cases hb : fsN (fun x => nbB D f x && rgB D dk g k x) i with
    | some y =>
      have hy := (fs_lt hb).1
      rw [if_pos (show 0 ≤ hV (some y) from nI_pos' (by omega)), fs_s hb]
    | none =>
      have hdl := dist_lt (C := dC D) (show f < 36 by omega) (show i < 36 by omega)
      rw [if_neg (show ¬ 0 ≤ hV none by decide), far_m h (by omega) (by omega), oBs]
      cases hn : nbB D f i with
      | false =>
        rw [if_neg (fun w1 => by rw [(dist_nb h.2.1 hf hi).mp ((nI_eq (b := 1) (by omega) (by omega)).mp w1)] at hn; cases hn), fs_n (p := fun x => nbB D f x && rgB D dk g k x) hb (by rw [hn]; rfl)]
      | true =>
        rw [if_pos (by rw [(dist_nb h.2.1 hf hi).mpr hn]; rfl), gdi (show i < 36 by omega) (by omega), gdi (show f < 36 by omega) (by omega), hs.gt hi hRC, hs.gt hf hRC, esf, m1n]
        have hsb := (ho i hi).1
        cases hrg : rgB D dk g k i with
        | true =>
          rw [if_pos (by rw [(fin_st ho hcm hi k (by omega)).mpr hrg]), fs_y (p := fun x => nbB D f x && rgB D dk g k x) hb (by rw [hn, hrg]; rfl)]; rfl
        | false =>
          rw [if_neg (fun w1 => by rw [(fin_st ho hcm hi k (by omega)).mp ((nI_eq (by omega) (by omega)).mp w1)] at hrg; cases hrg), fs_n (p := fun x => nbB D f x && rgB D dk g k x) hb (by rw [hrg, Bool.and_false])]
  · intro w q hq
    subst hq
    dsimp only
    rw [fX12_steals_262, h.xR, h.xC, pk_mul, if_pos (nI_le (Nat.le_refl _) (by omega)), hx]; rfl
theorem s250 (h : Mw D m 55 u) {a3 a4 : Int32} {o d : Nat} {st : Nat → Nat} (ho : o < dR D * dC D) (hg : g < dR D * dC D) (hs : StM (dR D * dC D) st u) (hsn : Snd D dk g st) (hcm : Cmp D dk g (dR D * dC D) st) (hr : rgB D dk g d o = true) (ht : ToM 1 (ptN D dk g o d) u) : ∃ v, fX12_steals_250 (nI o) (nI g) a3 a4 FU (nI o) u = some (nI d, v) ∧ ToM (d + 1) (ptN D dk g o d) v ∧ Tm u v := by
  have hRC := h.2.1.RC
  have hd := rg_lt ho hr
  refine lpE (fun w (z : Int32) q => fX12_steals_250 (nI o) (nI g) a3 a4 w z q) d (fun j => nI (ptN D dk g o d j)) (fun j q => ToM (j + 1) (ptN D dk g o d) q ∧ Tm u q) (fun q => ∃ v, q = some (nI d, v) ∧ ToM (d + 1) (ptN D dk g o d) v ∧ Tm u v) ?_ ?_ (by omega) (nI o) rfl ⟨ht, Fm.rf⟩
  · rintro w j q hj ⟨hq, hf⟩
    have hc := h.fm55 hf rfl rfl
    have hs2 : StM (dR D * dC D) st q := fun i hi => by rw [hf.a 71 rfl]; exact hs i hi
    obtain ⟨p1, p2⟩ := pt_ok h.2.1 ho hr j (by omega)
    obtain ⟨q1, q2⟩ := pt_ok h.2.1 ho hr (j + 1) hj
    obtain ⟨s1, s2, s3⟩ := pt_s h.2.1 ho hr hj
    rw [show d - j = (d - (j + 1)) + 1 by omega] at p2
    have hne : ¬ nI (ptN D dk g o d j) = nI g := fun w1 => by
      have e := (nI_eq (by omega) (by omega)).mp w1
      rw [e] at p2
      have : rgB D dk g 0 g = true := by
        show (decide (g = g) && dk g) = true
        rw [decide_eq_true rfl, rg_dk p2]; rfl
      have := rg_one this p2
      omega
    obtain ⟨v, e1, t1, f1⟩ := enF hq (show j + 1 < 36 by omega)
    left
    rw [fX12_steals_250, if_neg hne, s262 hc p1 hs2 hsn hcm p2 s1, nI_l (by omega), e1, oVs]
    exact ⟨v, ⟨t1, hf.trans f1⟩, rfl⟩
  · rintro w q ⟨hq, hf⟩
    obtain ⟨p1, p2⟩ := pt_ok h.2.1 ho hr d (Nat.le_refl _)
    rw [Nat.sub_self] at p2
    have e : ptN D dk g o d d = g := by
      have h' : (decide (ptN D dk g o d d = g) && dk (ptN D dk g o d d)) = true := p2
      rw [Bool.and_eq_true] at h'
      exact of_decide_eq_true h'.1
    have hs2 : StM (dR D * dC D) st q := fun i hi => by rw [hf.a 71 rfl]; exact hs i hi
    rw [fX12_steals_250, if_pos (by rw [e]), gdi (show o < 36 by omega) (by omega), hs2.gt ho hRC, (fin_st hsn hcm ho d (by omega)).mpr hr]
    exact ⟨q, rfl, hq, hf⟩
theorem steals_m (h : Mw D m 55 (sI u 47 0 0)) {k s o g : Nat} (hk : k < 8) (hs : s < 10) (ho : o < dR D * dC D) (hg : g < dR D * dC D) : (dsO D (dkB D m (mT m) k s) g o = none ∧ ∃ v, fX12_steals (nI o) (nI g) (nI k) (nI s) u = some (-2, v) ∧ Fr u v) ∨ (∃ d v, dsO D (dkB D m (mT m) k s) g o = some d ∧ fX12_steals (nI o) (nI g) (nI k) (nI s) u = some (nI d, v) ∧ ToM (d + 1) (ptN D (dkB D m (mT m) k s) g o d) v ∧ Fq u v) := by
  have b := h.b
  have hRC := h.2.1.RC
  have hso : isSo (nI k) (nI s) := ⟨⟨nI_pos' (by omega), (show nI k ≤ (7 : Int32) from nI_le (b := 7) (by omega) (by omega))⟩, nI_pos' (by omega), (show nI s ≤ (9 : Int32) from nI_le (b := 9) (by omega) (by omega))⟩
  obtain ⟨u1, e1, d1, f1⟩ := lays_m h hk hs
  have h1 := h.fm55 f1 rfl rfl
  have d1' : RwB 70 (dR D * dC D) (dkB D m (mT m) k s) u1 := d1
  have k0 : Fr u u1 := (Fm.rf.sI rfl : Fr u (sI u 47 0 0)).trans (f1.mono rfl rfl rfl)
  generalize hdk : dkB D m (mT m) k s = dk at d1'
  rw [fX12_steals, nxs, isF_my h ho, oBs, if_neg (by decide), isF_my h hg, oBs, if_neg (by decide), (being_m _ _ _).1 hso, oBs, if_neg (by decide), e1, oBs]
  have main : ∀ w (st : Nat → Nat), Fm [] [71] [] u1 w → StM (dR D * dC D) st w → Snd D dk g st → Cmp D dk g 0 st → (dsO D dk g o = none ∧ ∃ v, fX12_steals_101 (nI o) (nI g) (nI k) (nI s) FU 0 w = some (-2, v) ∧ Fr u v) ∨ (∃ d v, dsO D dk g o = some d ∧ fX12_steals_101 (nI o) (nI g) (nI k) (nI s) FU 0 w = some (nI d, v) ∧ ToM (d + 1) (ptN D dk g o d) v ∧ Fq u v) := by
    intro w0 st0 f0 hs0 ho0 hc0
    refine lpE (fun f (z : Int32) q => fX12_steals_101 (nI o) (nI g) (nI k) (nI s) f z q) (dR D * dC D) (fun i => nI i) (fun n q => ∃ st, StM (dR D * dC D) st q ∧ Snd D dk g st ∧ Cmp D dk g n st ∧ Fm [] [71] [] u1 q) (fun q => (dsO D dk g o = none ∧ ∃ v, q = some (-2, v) ∧ Fr u v) ∨ (∃ d v, dsO D dk g o = some d ∧ q = some (nI d, v) ∧ ToM (d + 1) (ptN D dk g o d) v ∧ Fq u v)) ?_ ?_ (by omega) 0 rfl ⟨st0, hs0, ho0, hc0, f0⟩
    · rintro f n q hn ⟨st, hs1, ho1, hc1, hf⟩
      have hc := h1.fm55 hf rfl rfl
      obtain ⟨s2, v, e2, hs2, ho2, hc2, f2⟩ := s118 hc (a1 := nI o) (a2 := nI g) (a3 := nI k) (a4 := nI s) (K1 := fX12_steals_101 (nI o) (nI g) (nI k) (nI s) f) (d1'.fm hf rfl) hs1 ho1 hc1
      left
      rw [fX12_steals_101, hc.xR, hc.xC, pk_mul, if_neg (nI_ge hn (by omega)), e2]
      exact ⟨v, ⟨s2, hs2, ho2, hc2, hf.trans f2⟩, rfl⟩
    · rintro f q ⟨st, hs1, ho1, hc1, hf⟩
      have hc := h1.fm55 hf rfl rfl
      have hob := (ho1 o ho).1
      have kq : Fr u q := k0.trans (hf.mono rfl rfl rfl)
      rw [fX12_steals_101, hc.xR, hc.xC, pk_mul, if_pos (nI_le (Nat.le_refl _) (by omega)), gdi (show o < 36 by omega) (by omega), hs1.gt ho hRC]
      cases hq : dsO D dk g o with
      | none =>
        left
        have : ¬ st o < 1000000 := fun hlt => by
          obtain ⟨j, hj, hr⟩ := (ho1 o ho).2 hlt
          have hl := rg_lt ho hr
          have := fs_no hq j (by omega)
          rw [show rgB D dk g j o = true from hr] at this; cases this
        rw [if_neg (show ¬ nI (st o) < (1000000 : Int32) from nI_nlt (b := 1000000) (by omega) (by omega))]
        exact ⟨rfl, q, rfl, kq⟩
      | some d =>
        right
        obtain ⟨a1, a2⟩ := fs_lt hq
        have hl := rg_lt ho a2
        have est := (fin_st ho1 hc1 ho d (by omega)).mpr a2
        have tz : ToM 0 (ptN D dk g o d) (sI q 47 1 0) := ⟨rfl, fun j hj => absurd hj (Nat.not_lt_zero j)⟩
        obtain ⟨q2, e2, t2, f2⟩ := enF tz (by decide)
        have fq2 : Fm [(47, 1)] [] [48] q q2 := (Fm.rf.sI rfl : Fm [(47, 1)] [] [48] q (sI q 47 1 0)).trans f2
        have hc2 := hc.fm55 fq2 rfl rfl
        obtain ⟨v, e3, t3, f3⟩ := s250 hc2 (a3 := nI k) (a4 := nI s) ho hg (fun i hi => by rw [fq2.a 71 rfl]; exact hs1 i hi) ho1 hc1 a2 t2
        rw [est, if_pos (show nI d < (1000000 : Int32) from nI_lt (b := 1000000) (by omega) (by omega)), nxs, nI_l (by omega), show lN o = lN (ptN D dk g o d 0) from rfl, e2, oVs, e3]
        exact ⟨d, v, rfl, rfl, t3, (kq.rq.trans (fq2.mono rfl rfl rfl)).trans f3.mq⟩
  refine lpE (fun f (z : Int32) q => fX12_steals_48 (nI o) (nI g) (nI k) (nI s) f z q) (dR D * dC D) (fun i => nI i) (fun n q => StM n (fun f => if f = g ∧ dk f = true then 0 else 1000000) q ∧ Fm [] [71] [] u1 q) (fun q => (dsO D dk g o = none ∧ ∃ v, q = some (-2, v) ∧ Fr u v) ∨ (∃ d v, dsO D dk g o = some d ∧ q = some (nI d, v) ∧ ToM (d + 1) (ptN D dk g o d) v ∧ Fq u v)) ?_ ?_ (by omega) 0 rfl ⟨fun j hj => absurd hj (Nat.not_lt_zero j), Fm.rf⟩
  · rintro f i q hi ⟨hq, hf⟩
    have hc := h1.fm55 hf rfl rfl
    have i36 := inb_nI (show i < 36 by omega) (show 36 < 2 ^ 31 by decide)
    have nd : ∀ x : Nat, x = (if i = g ∧ dk i = true then 0 else 1000000) → StM (i + 1) (fun f => if f = g ∧ dk f = true then 0 else 1000000) (sA q 71 (nI i) (nI x)) := fun x hx j hj => by
      show upd (q.2.1 71) (nI i).toNatClampNeg (nI x) j = _
      rw [nI_clamp (by omega)]
      by_cases q2 : j = i
      · subst q2; rw [pk_us, hx]
      · rw [pk_un q2]; exact hq j (by omega)
    left
    rw [fX12_steals_48, hc.xR, hc.xC, pk_mul, if_neg (nI_ge hi (by omega)), nI_1]
    by_cases e : i = g
    · rw [if_pos (by rw [e]), gd_t i36, (d1'.fm hf rfl).g hi hRC]
      cases hb : dk i with
      | false =>
        rw [if_pos (show bI false = 0 from rfl), gd_t i36, nxs]
        exact ⟨_, ⟨nd 1000000 (by rw [if_neg (fun w => by rw [hb] at w; cases w.2)]), hf.sA rfl⟩, rfl⟩
      | true =>
        rw [if_neg (show ¬ bI true = 0 by decide), gd_t i36, nxs]
        exact ⟨_, ⟨nd 0 (by rw [if_pos ⟨e, hb⟩]), hf.sA rfl⟩, rfl⟩
    · rw [if_neg (fun w => e ((nI_eq (by omega) (by omega)).mp w)), gd_t i36, nxs]
      exact ⟨_, ⟨nd 1000000 (by rw [if_neg (fun w => e w.1)]), hf.sA rfl⟩, rfl⟩
  · rintro f q ⟨hq, hf⟩
    have hc := h1.fm55 hf rfl rfl
    rw [fX12_steals_48, hc.xR, hc.xC, pk_mul, if_pos (nI_le (Nat.le_refl _) (by omega))]
    refine main q _ hf hq (fun f hf2 => ?_) (fun f hf2 j hj hr => ?_)
    · by_cases w : f = g ∧ dk f = true
      · rw [if_pos w]
        exact ⟨(by omega), fun _ => ⟨0, Nat.le_refl _, by show (decide (f = g) && dk f) = true; rw [decide_eq_true w.1, w.2]; rfl⟩⟩
      · rw [if_neg w]
        exact ⟨Nat.le_refl _, fun hlt => absurd hlt (Nat.lt_irrefl _)⟩
    · have : j = 0 := by omega
      subst this
      have h' : (decide (f = g) && dk f) = true := hr
      rw [Bool.and_eq_true] at h'
      rw [if_pos ⟨of_decide_eq_true h'.1, h'.2⟩]
      exact Nat.le_refl _
theorem st_27 : St_27 Inv := by
  intro n a1 a2 a3 a4 u hn hI
  obtain ⟨D, m, hW, hR⟩ := Inv_to hI
  have hc := hW.cw
  have hRC := hc.2.1.RC
  have hM0 : Mw D m 55 (sI u 47 0 0) := (hW.fr (Fm.rf.sI rfl)).mw
  by_cases h1 : isIx (dR D * dC D) a1
  · obtain ⟨o, ho, rfl⟩ := h1
    by_cases h2 : isIx (dR D * dC D) a2
    · obtain ⟨g, hg, rfl⟩ := h2
      by_cases hso : isSo a3 a4
      · obtain ⟨k, s, hk, hs, rfl, rfl⟩ := isSo_n hso
        rcases steals_c hc hk hs ho hg with ⟨q1, v, e1, f1⟩ | ⟨d, v, q1, e1, t1, f1⟩
        · have hM := (hW.ft (f1.ft.trans (Fm.rf.sI rfl : Ft v (sI v 47 0 0)))).mw
          rcases steals_m hM hk hs ho hg with ⟨q2, w, e2, f2⟩ | ⟨d2, w, q2, e2, t2, f2⟩
          · exact ⟨_, v, w, e1, e2, Inv_Fr hI (f1.trans f2)⟩
          · rw [q1] at q2; cases q2
        · have hM := (hW.ft (f1.trans (Fm.rf.sI rfl : Ft v (sI v 47 0 0)))).mw
          rcases steals_m hM hk hs ho hg with ⟨q2, w, e2, f2⟩ | ⟨d2, w, q2, e2, t2, f2⟩
          · rw [q1] at q2; cases q2
          · rw [q1] at q2; cases q2
            obtain ⟨a1, a2⟩ := fs_lt q1
            have hl := rg_lt ho a2
            refine ⟨_, v, w, e1, e2, Inv_Ft hI (f1.trans f2.qt) ⟨d + 1, (by omega), (f2.i 8 1 rfl).trans t1.1, t2.1, fun j hj => ?_⟩⟩
            rw [f2.j 33 rfl, t1.2 j hj, t2.2 j hj]
      · refine ⟨-1, u, sI u 47 0 0, ?_, ?_, q_no hI⟩
        · unfold fX11_steals
          rw [isF_cy hc ho, oBs, if_neg (by decide), isF_cy hc hg, oBs, if_neg (by decide), sort_n hso, oBs, if_pos rfl]
        · rw [fX12_steals, nxs, isF_my hM0 ho, oBs, if_neg (by decide), isF_my hM0 hg, oBs, if_neg (by decide), (being_m _ _ _).2 hso, oBs, if_pos rfl]
    · refine ⟨-1, u, sI u 47 0 0, ?_, ?_, q_no hI⟩
      · unfold fX11_steals
        rw [isF_cy hc ho, oBs, if_neg (by decide), isF_cn hc h2, oBs, if_pos rfl]
      · rw [fX12_steals, nxs, isF_my hM0 ho, oBs, if_neg (by decide), isF_mn hM0 h2, oBs, if_pos rfl]
  · refine ⟨-1, u, sI u 47 0 0, ?_, ?_, q_no hI⟩
    · unfold fX11_steals
      rw [isF_cn hc h1, oBs, if_pos rfl]
    · rw [fX12_steals, nxs, isF_mn hM0 h1, oBs, if_pos rfl]
