/-! what is near, what is seen: both sides tell the same bits -/
variable {D : DD} {m : MM} {e r : Nat} {u v : US}
theorem bit_c {ρ : Type} {p : Nat → Bool} {k : Nat} {c : Bool} (hk : k < 31) (hc : p k = c) (F : Int32 → Option ρ) : (if bI c = 0 then F (nI (bN p k)) else F (nI (bN p k) ||| (1 <<< (nI k &&& 31)))) = F (nI (bN p (k + 1))) := by
  cases c with
  | false => rw [if_pos (show bI false = 0 from rfl), bN_n hc]
  | true => rw [if_neg (show ¬ bI true = 0 by decide), or_b hk, bN_y hc]
theorem bit_m {ρ : Type} {p : Nat → Bool} {k : Nat} {c : Bool} (hk : k < 31) (hc : p k = c) (F : Int32 → Option ρ) : (if bI c = 0 then F (nI (bN p k) ||| 0) else F (nI (bN p k) ||| (1 <<< (nI k &&& 31)))) = F (nI (bN p (k + 1))) := by
  rw [or_0]; exact bit_c hk hc F
theorem bit_p {ρ : Type} {p : Nat → Bool} {k : Nat} {c : Prop} [Decidable c] (hk : k < 31) (hc : c ↔ p k = true) (F : Int32 → Option ρ) : (if c then F (nI (bN p k) ||| (1 <<< (nI k &&& 31))) else F (nI (bN p k))) = F (nI (bN p (k + 1))) := by
  by_cases h : c
  · rw [if_pos h, or_b hk, bN_y (hc.mp h)]
  · rw [if_neg h, bN_n (ts_nt (fun q => h (hc.mpr q)))]
theorem bit_pm {ρ : Type} {p : Nat → Bool} {k : Nat} {c : Prop} [Decidable c] (hk : k < 31) (hc : c ↔ p k = true) (F : Int32 → Option ρ) : (if c then F (nI (bN p k) ||| (1 <<< (nI k &&& 31))) else F (nI (bN p k) ||| 0)) = F (nI (bN p (k + 1))) := by
  rw [or_0]; exact bit_p hk hc F
/-! distance -/
def ad (a b : Nat) : Nat := (a - b) + (b - a)
theorem abs_n {a b : Nat} (ha : a < 2 ^ 30) (hb : b < 2 ^ 30) : (if 0 ≤ (nI a - nI b) then nI a - nI b else 0 - (nI a - nI b)) = nI (ad a b) := by
  unfold ad
  by_cases h : b ≤ a
  · rw [pk_sub h, if_pos (nI_pos' (by omega)), show b - a = 0 by omega, Nat.add_zero]
  · have hs := pk_sub_toInt ha hb
    rw [if_neg (fun q => absurd (pk_sneg hb (show a < b by omega)) (n_lt.mpr q)), fa_eq, fb_subI (by rw [hs]; have : (0 : Int32).toInt = 0 := rfl; omega) (by rw [hs]; have : (0 : Int32).toInt = 0 := rfl; omega), hs, nI_toInt (by omega)]
    have : (0 : Int32).toInt = 0 := rfl
    omega
def dist (C a b : Nat) : Nat := ad (a / C) (b / C) + ad (a % C) (b % C)
def reB (D : DD) (r f : Nat) : Bool := decide (dist (dC D) (dp D r) f ≤ dg D r)
def neB (D : DD) (m : MM) (r t : Nat) : Bool := reB D r (mF m t)
theorem row_c (h : Cw D m e u) {f : Nat} (hf : f < 2 ^ 31) : fX8_rowOf (nI f) u = some (nI (f / dC D), u) := by
  have b := h.b
  unfold fX8_rowOf
  rw [h.xC, if_neg (nI_nle (by omega) (by omega)), if_neg (nI_ne0 (by omega) (by omega)), pk_div hf (by omega) (by omega)]
theorem col_c (h : Cw D m e u) {f : Nat} (hf : f < 2 ^ 31) : fX8_columnOf (nI f) u = some (nI (f % dC D), u) := by
  have b := h.b
  unfold fX8_columnOf
  rw [h.xC, if_neg (nI_nle (by omega) (by omega)), if_neg (nI_ne0 (by omega) (by omega)), pk_rem hf (by omega) (by omega)]
theorem div_lt {f C : Nat} (hf : f < 36) : f / C < 36 := Nat.lt_of_le_of_lt (Nat.div_le_self f C) hf
theorem mod_lt36 {f C : Nat} (hf : f < 36) : f % C < 36 := Nat.lt_of_le_of_lt (Nat.mod_le f C) hf
theorem ad_lt {a b : Nat} (ha : a < 36) (hb : b < 36) : ad a b < 36 := by unfold ad; omega
theorem reach_c (h : Cw D m e u) {r f : Nat} (hr : r < dM D) (hf : f < 36) : fX8_reaches (nI r) (nI f) u = some (bI (reB D r f), u) := by
  have b := h.b
  have hp := h.2.1.2.2.2.2.2.1 r hr
  have hg := h.2.1.2.2.2.2.2.2 r hr
  have hRC := h.2.1.RC
  have i4 := inb_nI (show r < 4 by omega) (show 4 < 2 ^ 31 by omega)
  have hd : dp D r < 36 := by omega
  unfold fX8_reaches reB dist
  rw [gd_t i4, h.gp hr, row_c h (by omega), oBs, row_c h (by omega), oBs, gd_t i4, h.gp hr, col_c h (by omega), oBs, col_c h (by omega), oBs, gd_t i4, h.gg hr, abs_n (by have := div_lt (C := dC D) hd; omega) (by have := div_lt (C := dC D) hf; omega), abs_n (by have := mod_lt36 (C := dC D) hd; omega) (by have := mod_lt36 (C := dC D) hf; omega), nI_add]
  have l1 := ad_lt (div_lt (C := dC D) hd) (div_lt (C := dC D) hf)
  have l2 := ad_lt (mod_lt36 (C := dC D) hd) (mod_lt36 (C := dC D) hf)
  by_cases q : ad (dp D r / dC D) (f / dC D) + ad (dp D r % dC D) (f % dC D) ≤ dg D r
  · rw [if_neg (nI_nlt q (by omega)), decide_eq_true q]; rfl
  · rw [if_pos (nI_lt (by omega) (by omega)), decide_eq_false q]; rfl
theorem far_m (h : Mw D m r u) {a f : Nat} (ha : a < 36) (hf : f < 36) : fX12_far (nI a) (nI f) u = some (nI (dist (dC D) a f), u) := by
  have b := h.b
  have n0 := nI_ne0 (show 0 < dC D by omega) (show dC D < 2 ^ 31 by omega)
  unfold fX12_far dist
  rw [h.xC, if_neg n0, if_neg n0, if_neg n0, if_neg n0, pk_rem (by omega) (by omega) (by omega), pk_rem (by omega) (by omega) (by omega), pk_div (by omega) (by omega) (by omega), pk_div (by omega) (by omega) (by omega), abs_n (by have := div_lt (C := dC D) ha; omega) (by have := div_lt (C := dC D) hf; omega), abs_n (by have := mod_lt36 (C := dC D) ha; omega) (by have := mod_lt36 (C := dC D) hf; omega), nI_add]
theorem dist_lt {C a f : Nat} (ha : a < 36) (hf : f < 36) : dist C a f < 72 := by
  have l1 := ad_lt (div_lt (C := C) ha) (div_lt (C := C) hf)
  have l2 := ad_lt (mod_lt36 (C := C) ha) (mod_lt36 (C := C) hf)
  unfold dist; omega
theorem isNear_m (h : Mw D m e u) {r f : Nat} (hr : r < dM D) (hf : f < 36) : fX12_isNear (nI r) (nI f) u = some (bI (reB D r f), u) := by
  have b := h.b
  have hp := h.2.1.2.2.2.2.2.1 r hr
  have hg := h.2.1.2.2.2.2.2.2 r hr
  have hRC := h.2.1.RC
  have i4 := inb_nI (show r < 4 by omega) (show 4 < 2 ^ 31 by omega)
  have hd : dp D r < 36 := by omega
  have hl := dist_lt (C := dC D) hd hf
  unfold fX12_isNear reB
  rw [gd_t i4, h.gp hr, far_m h hd hf, oBs, gd_t i4, h.gg hr]
  by_cases q : dist (dC D) (dp D r) f ≤ dg D r
  · rw [if_neg (nI_nlt q (by omega)), decide_eq_true q]; rfl
  · rw [if_pos (nI_lt (by omega) (by omega)), decide_eq_false q]; rfl
theorem MoOK.f36 (h : MoOK D m) (hd : DatO D) {t : Nat} (ht : t < dT D) : mF m t < 36 := Nat.lt_of_lt_of_le (h.1 t ht) hd.RC
def neN (D : DD) (m : MM) (r : Nat) : Nat := bN (neB D m r) (dT D)
theorem near_c (h : Cw D m e u) {r : Nat} (hr : r < dM D) : fX8_near e (nI r) u = some (nI (neN D m r), u) := by
  have b := h.b
  unfold fX8_near
  rw [gd_t h.im]
  refine lpS (fun f k => fX8_near_5 e (nI r) f (nI (bN (neB D m r) k)) (nI k) u) (dT D) _ (fun n k hk => ?_) (fun n => ?_) FU 0 (FUg (by omega)) (Nat.zero_le _)
  · show fX8_near_5 e (nI r) (n + 1) (nI (bN (neB D m r) k)) (nI k) u = fX8_near_5 e (nI r) n (nI (bN (neB D m r) (k + 1))) (nI (k + 1)) u
    rw [fX8_near_5, h.xT, if_neg (nI_ge hk (by omega)), h.l0, gd_t (inb_nI (show k < 8 by omega) (by omega)), h.gF hk, reach_c h hr (h.2.2.2.2.1.f36 h.2.1 hk), oBs, nI_1]
    exact bit_c (p := neB D m r) (by omega) rfl (fun a => fX8_near_5 e (nI r) n a (nI (k + 1)) u)
  · show fX8_near_5 e (nI r) (n + 1) (nI (bN (neB D m r) (dT D))) (nI (dT D)) u = _
    rw [fX8_near_5, h.xT, if_pos (nI_le (Nat.le_refl _) (by omega))]; rfl
theorem near_m (h : Mw D m e u) {r : Nat} (hr : r < dM D) : fX12_near e (nI r) u = some (nI (neN D m r), u) := by
  have b := h.b
  unfold fX12_near
  rw [gd_t h.im]
  refine lpS (fun f k => fX12_near_5 e (nI r) f (nI (bN (neB D m r) k)) (nI k) u) (dT D) _ (fun n k hk => ?_) (fun n => ?_) FU 0 (FUg (by omega)) (Nat.zero_le _)
  · show fX12_near_5 e (nI r) (n + 1) (nI (bN (neB D m r) k)) (nI k) u = fX12_near_5 e (nI r) n (nI (bN (neB D m r) (k + 1))) (nI (k + 1)) u
    rw [fX12_near_5, h.xT, if_neg (nI_ge hk (by omega)), h.l, gd_t (inb_nI (show k < 26 by omega) (by omega)), h.gF hk, isNear_m h hr (h.2.2.2.2.1.f36 h.2.1 hk), oBs, nI_1]
    exact bit_m (p := neB D m r) (by omega) rfl (fun a => fX12_near_5 e (nI r) n a (nI (k + 1)) u)
  · show fX12_near_5 e (nI r) (n + 1) (nI (bN (neB D m r) (dT D))) (nI (dT D)) u = _
    rw [fX12_near_5, h.xT, if_pos (nI_le (Nat.le_refl _) (by omega))]; rfl
/-! panes of a room -/
def huB (m : MM) (o : Option Nat) (p : Nat) : Bool := decide (mO m p = o)
def huN (D : DD) (m : MM) (o : Option Nat) : Nat := bN (huB m o) (dP D)
theorem hV_inj {o o' : Option Nat} (h1 : ∀ q, o = some q → q < 2 ^ 31) (h2 : ∀ q, o' = some q → q < 2 ^ 31) : hV o = hV o' ↔ o = o' := by
  cases o' with
  | none => exact hV_m1 h1
  | some a => exact hV_eq (h2 a rfl) h1
theorem panesIn_c (h : Cw D m e u) {o : Option Nat} (ho : ∀ q, o = some q → q < 2 ^ 31) : fX8_panesIn e (hV o) u = some (nI (huN D m o), u) := by
  have b := h.b
  unfold fX8_panesIn
  rw [gd_t h.im]
  refine lpS (fun f k => fX8_panesIn_5 e (hV o) f (nI (bN (huB m o) k)) (nI k) u) (dP D) _ (fun n k hk => ?_) (fun n => ?_) FU 0 (FUg (by omega)) (Nat.zero_le _)
  · show fX8_panesIn_5 e (hV o) (n + 1) (nI (bN (huB m o) k)) (nI k) u = fX8_panesIn_5 e (hV o) n (nI (bN (huB m o) (k + 1))) (nI (k + 1)) u
    rw [fX8_panesIn_5, h.xP, if_neg (nI_ge hk (by omega)), h.l2, gd_t (inb_nI (show k < 8 by omega) (by omega)), h.gO hk, nI_1]
    exact bit_p (p := huB m o) (by omega) (by rw [hV_inj (h.oo hk) ho]; exact decide_eq_true_iff.symm) (fun a => fX8_panesIn_5 e (hV o) n a (nI (k + 1)) u)
  · show fX8_panesIn_5 e (hV o) (n + 1) (nI (bN (huB m o) (dP D))) (nI (dP D)) u = _
    rw [fX8_panesIn_5, h.xP, if_pos (nI_le (Nat.le_refl _) (by omega))]; rfl
theorem panesOf_m (h : Mw D m e u) {o : Option Nat} (ho : ∀ q, o = some q → q < 2 ^ 31) : fX12_panesOf e (hV o) u = some (nI (huN D m o), u) := by
  have b := h.b
  unfold fX12_panesOf
  rw [gd_t h.im]
  refine lpS (fun f k => fX12_panesOf_5 e (hV o) f (nI (bN (huB m o) k)) (nI k) u) (dP D) _ (fun n k hk => ?_) (fun n => ?_) FU 0 (FUg (by omega)) (Nat.zero_le _)
  · show fX12_panesOf_5 e (hV o) (n + 1) (nI (bN (huB m o) k)) (nI k) u = fX12_panesOf_5 e (hV o) n (nI (bN (huB m o) (k + 1))) (nI (k + 1)) u
    rw [fX12_panesOf_5, h.xP, if_neg (nI_ge hk (by omega)), ad16, h.l, gd_t (inb_nI (show 16 + k < 26 by omega) (by omega)), h.gO hk, nI_1]
    exact bit_pm (p := huB m o) (by omega) (by rw [hV_inj (h.oo hk) ho]; exact decide_eq_true_iff.symm) (fun a => fX12_panesOf_5 e (hV o) n a (nI (k + 1)) u)
  · show fX12_panesOf_5 e (hV o) (n + 1) (nI (bN (huB m o) (dP D))) (nI (dP D)) u = _
    rw [fX12_panesOf_5, h.xP, if_pos (nI_le (Nat.le_refl _) (by omega))]; rfl
theorem rm31 {o : Option Nat} {r : Nat} (hr : r < 256) (e : o = some r) : ∀ q, o = some q → q < 2 ^ 31 := fun q hq => by rw [e] at hq; cases hq; omega
theorem pIn_c (h : Cw D m e u) {r : Nat} (hr : r < dM D) : fX8_panesIn e (nI r) u = some (nI (huN D m (some r)), u) := panesIn_c h (o := some r) (rm31 (by have := h.b; omega) rfl)
theorem pOf_m (h : Mw D m e u) {r : Nat} (hr : r < dM D) : fX12_panesOf e (nI r) u = some (nI (huN D m (some r)), u) := panesOf_m h (o := some r) (rm31 (by have := h.b; omega) rfl)
/-! through panes -/
def leT (D : DD) (m : MM) (p t : Nat) : Bool := letB D m (mT m) p (dk D t) (ds D t)
def thN (D : DD) (m : MM) (p a : Nat) : Nat := bN (fun t => a.testBit t && leT D m p t) (dT D)
theorem through_c (h : Cw D m e u) {p a : Nat} (hp : p < dP D) (ha : a < 256) : ∃ v, fX8_through e (nI p) (nI a) u = some (nI (thN D m p a), v) ∧ Sx u v := by
  have b := h.b
  unfold fX8_through
  rw [gd_t h.im]
  refine lp (fun f (s : Int32 × Int32) w => fX8_through_6 e (nI p) (nI a) f s.1 s.2 w) (dT D) (fun k s w => s = (nI (bN (fun t => a.testBit t && leT D m p t) k), nI k) ∧ Sx u w) (fun o => ∃ v, o = some (nI (thN D m p a), v) ∧ Sx u v) ?_ ?_ FU 0 (0, 0) u (FUg (by omega)) (Nat.zero_le _) ⟨rfl, Fm.rf⟩
  · rintro n k ⟨x, y⟩ w hk ⟨e0, hf⟩
    cases e0
    left
    have hw := h.sx hf
    show ∃ s' v, _ ∧ fX8_through_6 e (nI p) (nI a) (n + 1) (nI (bN (fun t => a.testBit t && leT D m p t) k)) (nI k) w = _
    rw [fX8_through_6, hw.xT, if_neg (nI_ge hk (by omega)), has_c (by omega) (by omega), oBs]
    by_cases ht : a.testBit k = true
    · obtain ⟨v, e1, f1⟩ := lets_c hw hp (hw.2.1.2.1 k hk) (hw.2.1.2.2.1 k hk) (mT m)
      rw [ht, if_neg (show ¬ bI true = 0 by decide), gd_t (inb_nI (show k < 8 by omega) (by omega)), gd_t (inb_nI (show k < 8 by omega) (by omega)), hw.gT, hw.gk hk, hw.gs hk, e1, oBs, nI_1]
      exact ⟨(_, nI (k + 1)), v, ⟨rfl, hf.trans f1⟩, bit_c (p := fun t => a.testBit t && leT D m p t) (by omega) (by rw [ht]; rfl) (fun x => fX8_through_6 e (nI p) (nI a) n x (nI (k + 1)) v)⟩
    · rw [ts_nt ht, if_pos (show bI false = 0 from rfl), nI_1]
      exact ⟨(_, nI (k + 1)), w, ⟨rfl, hf⟩, by rw [bN_n (by rw [ts_nt ht]; rfl)]⟩
  · rintro n ⟨x, y⟩ w ⟨e0, hf⟩
    cases e0
    have hw := h.sx hf
    show ∃ v, fX8_through_6 e (nI p) (nI a) (n + 1) (nI (bN (fun t => a.testBit t && leT D m p t) (dT D))) (nI (dT D)) w = _ ∧ _
    rw [fX8_through_6, hw.xT, if_pos (nI_le (Nat.le_refl _) (by omega))]
    exact ⟨w, rfl, hf⟩
def anyB (q : Nat → Bool) : Nat → Bool
  | 0 => false
  | n + 1 => anyB q n || q n
theorem anyB_cong {p q : Nat → Bool} : ∀ {n : Nat}, (∀ k, k < n → p k = q k) → anyB p n = anyB q n
  | 0, _ => rfl
  | n + 1, h => by rw [anyB, anyB, anyB_cong (fun k hk => h k (by omega)), h n (by omega)]
theorem anyB_iff {q : Nat → Bool} : ∀ {n : Nat}, anyB q n = true ↔ ∃ k, k < n ∧ q k = true
  | 0 => ⟨fun h => (by cases h), fun ⟨k, hk, _⟩ => absurd hk (Nat.not_lt_zero k)⟩
  | n + 1 => by
    rw [anyB, Bool.or_eq_true, anyB_iff]
    constructor
    · rintro (⟨k, hk, h⟩ | h)
      · exact ⟨k, by omega, h⟩
      · exact ⟨n, by omega, h⟩
    · rintro ⟨k, hk, h⟩
      by_cases e : k = n
      · subst e; exact Or.inr h
      · exact Or.inl ⟨k, by omega, h⟩
def gaB (D : DD) (m : MM) (r t k : Nat) : Bool := anyB (fun p => huB m (some r) p && leT D m p t) k
def seB (D : DD) (m : MM) (r t : Nat) : Bool := neB D m r t && gaB D m r t (dP D)
def sofN (D : DD) (m : MM) (r a : Nat) : Nat := bN (fun t => a.testBit t && gaB D m r t (dP D)) (dT D)
theorem bN_256 {p : Nat → Bool} {n : Nat} (hn : n ≤ 8) : bN p n < 256 := Nat.lt_of_lt_of_le (bN_lt p n) (pow8 hn)
theorem seenOf_c (h : Cw D m e u) {r a : Nat} (hr : r < dM D) (ha : a < 256) : ∃ v, fX8_seenOf e (nI r) (nI a) u = some (nI (bN (fun t => a.testBit t && seB D m r t) (dT D)), v) ∧ Sx u v := by
  have b := h.b
  unfold fX8_seenOf
  rw [gd_t h.im, near_c h hr, oBs, fa_and]
  have hc : a &&& neN D m r < 256 := Nat.lt_of_le_of_lt Nat.and_le_left ha
  have fin : bN (fun t => a.testBit t && seB D m r t) (dT D) = sofN D m r (a &&& neN D m r) := by
    refine bN_cong (fun t ht => ?_)
    rw [Nat.testBit_and, neN, bN_tb, decide_eq_true ht, Bool.true_and, Bool.and_assoc]; rfl
  rw [fin]
  generalize a &&& neN D m r = c at hc
  refine lp (fun f (s : Int32 × Int32 × Int32) w => fX8_seenOf_16 e (nI r) (nI a) f s.1 s.2.1 s.2.2 w) (dP D) (fun k s w => s = (nI c, nI (bN (fun t => c.testBit t && gaB D m r t k) (dT D)), nI k) ∧ Sx u w) (fun o => ∃ v, o = some (nI (sofN D m r c), v) ∧ Sx u v) ?_ ?_ FU 0 (nI c, 0, 0) u (FUg (by omega)) (Nat.zero_le _) ⟨?_, Fm.rf⟩
  · rintro n k ⟨x, y, z⟩ w hk ⟨e0, hf⟩
    cases e0
    left
    have hw := h.sx hf
    show ∃ s' v, _ ∧ fX8_seenOf_16 e (nI r) (nI a) (n + 1) (nI c) (nI (bN (fun t => c.testBit t && gaB D m r t k) (dT D))) (nI k) w = _
    have hS := bN_256 (p := fun t => c.testBit t && gaB D m r t k) (show dT D ≤ 8 by omega)
    rw [fX8_seenOf_16, hw.xP, if_neg (nI_ge hk (by omega)), hw.l2, gd_t (inb_nI (show k < 8 by omega) (by omega)), hw.gO hk, and_n, nI_1]
    by_cases hq : mO m k = some r
    · have hl := nm_le c (bN (fun t => c.testBit t && gaB D m r t k) (dT D))
      obtain ⟨v, e1, f1⟩ := through_c hw hk (a := nm c (bN (fun t => c.testBit t && gaB D m r t k) (dT D))) (by omega)
      rw [if_pos ((hV_eq (by omega) (hw.oo hk)).mpr hq), e1, oBs, fa_or]
      refine ⟨(nI c, _, nI (k + 1)), v, ⟨rfl, hf.trans f1⟩, ?_⟩
      have : bN (fun t => c.testBit t && gaB D m r t k) (dT D) ||| thN D m k (nm c (bN (fun t => c.testBit t && gaB D m r t k) (dT D))) = bN (fun t => c.testBit t && gaB D m r t (k + 1)) (dT D) := by
        apply tb_ext; intro i
        rw [Nat.testBit_or, thN, bN_tb, bN_tb, bN_tb, nm_tb (by omega), bN_tb]
        have e3 : gaB D m r i (k + 1) = (gaB D m r i k || leT D m k i) := by
          show (gaB D m r i k || (huB m (some r) k && leT D m k i)) = _
          rw [show huB m (some r) k = true from decide_eq_true hq, Bool.true_and]
        rw [e3]
        cases decide (i < dT D) <;> cases c.testBit i <;> cases gaB D m r i k <;> cases leT D m k i <;> rfl
      rw [this]
    · rw [if_neg (fun q => hq ((hV_eq (by omega) (hw.oo hk)).mp q))]
      refine ⟨(nI c, _, nI (k + 1)), w, ⟨rfl, hf⟩, ?_⟩
      have : bN (fun t => c.testBit t && gaB D m r t k) (dT D) = bN (fun t => c.testBit t && gaB D m r t (k + 1)) (dT D) := by
        refine bN_cong (fun t ht => ?_)
        show _ = (c.testBit t && (gaB D m r t k || (huB m (some r) k && leT D m k t)))
        rw [show huB m (some r) k = false from decide_eq_false hq, Bool.false_and, Bool.or_false]
      rw [this]
  · rintro n ⟨x, y, z⟩ w ⟨e0, hf⟩
    cases e0
    have hw := h.sx hf
    show ∃ v, fX8_seenOf_16 e (nI r) (nI a) (n + 1) (nI c) _ (nI (dP D)) w = _ ∧ _
    rw [fX8_seenOf_16, hw.xP, if_pos (nI_le (Nat.le_refl _) (by omega))]
    exact ⟨w, rfl, hf⟩
  · have : bN (fun t => c.testBit t && gaB D m r t 0) (dT D) = 0 := by
      apply tb_ext; intro i
      rw [bN_tb, Nat.zero_testBit]
      show (decide (i < dT D) && (c.testBit i && false)) = false
      simp
    rw [this]; rfl
def seN (D : DD) (m : MM) (r : Nat) : Nat := bN (seB D m r) (dT D)
theorem allT_c (h : Cw D m e u) : fX8_allThings u = some (nI (2 ^ dT D - 1), u) := by
  unfold fX8_allThings
  rw [h.xT, all_c (by have := h.b; omega), oBs]
theorem two8 {k : Nat} (h : k ≤ 8) : 2 ^ k ≤ 256 := pow8 (n := 8) h
theorem all_tb (n i : Nat) : (2 ^ n - 1).testBit i = decide (i < n) := Nat.testBit_two_pow_sub_one n i
theorem seen_c (h : Cw D m e u) {r : Nat} (hr : r < dM D) : ∃ v, fX8_seenFrom e (nI r) u = some (nI (seN D m r), v) ∧ Sx u v := by
  have b := h.b
  have h8 := two8 (show dT D ≤ 8 by omega)
  obtain ⟨v, e1, f1⟩ := seenOf_c h hr (a := 2 ^ dT D - 1) (by omega)
  unfold fX8_seenFrom
  rw [gd_t h.im, allT_c h, oBs, e1, oBs]
  refine ⟨v, ?_, f1⟩
  rw [show bN (fun t => (2 ^ dT D - 1 : Nat).testBit t && seB D m r t) (dT D) = seN D m r from bN_cong (fun t ht => by rw [all_tb, decide_eq_true ht, Bool.true_and])]
theorem sees_c (h : Cw D m e u) {r t : Nat} (hr : r < dM D) (ht : t < dT D) : ∃ v, fX8_sees e (nI r) (nI t) u = some (bI (seB D m r t), v) ∧ Sx u v := by
  have b := h.b
  have h8 : 2 ^ t < 256 := wb_lt2 (b := 8) (by omega)
  obtain ⟨v, e1, f1⟩ := seenOf_c h hr (a := 2 ^ t) h8
  unfold fX8_sees
  rw [gd_t h.im, sh1 t (by omega), e1, oBs]
  refine ⟨v, ?_, f1⟩
  have hl := bN_256 (p := fun i => (2 ^ t).testBit i && seB D m r i) (show dT D ≤ 8 by omega)
  cases hs : seB D m r t with
  | true =>
    rw [if_neg ?_]; rfl
    intro q
    have := congrArg (fun x => x.testBit t) ((nI_eq (b := 0) (by omega) (by omega)).mp q)
    simp only [bN_tb, Nat.zero_testBit, Nat.testBit_two_pow_self, hs, ht, decide_true, Bool.and_self] at this
    cases this
  | false =>
    rw [if_pos ?_]; rfl
    have : bN (fun i => (2 ^ t).testBit i && seB D m r i) (dT D) = 0 := by
      apply tb_ext; intro i
      rw [bN_tb, Nat.zero_testBit, Nat.testBit_two_pow]
      by_cases e : t = i
      · subst e; rw [hs]; simp
      · simp [e]
    rw [this]; rfl
