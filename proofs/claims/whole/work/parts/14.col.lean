def bk_qr (pp code : Int32) : Nat → Int32
  | 0 => code
  | q + 1 => bk_qr pp code q / pp
def bk_dg (pp code : Int32) (q : Nat) : Int32 := bk_qr pp code q - bk_qr pp code q / pp * pp
def bk_ev (pp a b : Int32) : Int32 := 2 * a - b + pp - (2 * a - b + pp) / pp * pp
def bk_cr (w : Nat → Int32) (pp : Int32) (o : Nat → Int32) : Nat → (Nat → Int32)
  | 0 => o
  | k + 1 => if 0 < w k then upd (upd (bk_cr w pp o k) (bk_z w k - 1) (bk_ev pp (bk_cr w pp o k (bk_z w k - 1)) (bk_cr w pp o k (bk_z w k)))) (bk_z w k) (bk_cr w pp o k (bk_z w k - 1))
    else upd (upd (bk_cr w pp o k) (bk_z w k - 1) (bk_cr w pp o k (bk_z w k))) (bk_z w k) (bk_ev pp (bk_cr w pp o k (bk_z w k)) (bk_cr w pp o k (bk_z w k - 1)))
theorem bk_agc {n x y : Nat} {a o : Nat → Int32} {u v : Int32} (hxy : x ≠ y) (h : bk_ag n a o) : bk_ag n (upd (upd a y v) x u) (upd (upd o x u) y v) := by
  intro e he
  by_cases c : e = x
  · rw [c, pk_us, pk_un hxy, pk_us]
  · rw [pk_un c]
    by_cases c2 : e = y
    · rw [c2, pk_us, pk_us]
    · rw [pk_un c2, pk_un c2, pk_un c]
      exact h e he
def bk_G (n len : Nat) (w : Nat → Int32) (pp code : Int32) : Bool := decide (∀ q, q < n → bk_cr w pp (bk_dg pp code) len q = bk_dg pp code q)
section
variable {n len : Nat} {kn : Int32} {w pa co ow ch cl j mn cf cy cm o dd : Nat → Int32} {pp code : Int32}
theorem xk_ch5 (h4 : n ≤ 4) (hpp : ¬ pp = 0) (post : SX → Prop) (h : ∀ ch' cl', bk_ag n ch' (bk_dg pp code) → bk_ag n cl' (bk_dg pp code) → post (nI n, nI len, w, pa, co, ow, ch', cl')) : ∀ d q ch cl, q + d = n → (∀ e, e < q → ch e = bk_dg pp code e ∧ cl e = bk_dg pp code e) → wX_chooseColours_5 post pp (nI n) (nI len) (d + 1) (bk_qr pp code q) (nI q) w pa co ow ch cl := by
  intro d
  induction d with
  | zero =>
    intro q ch cl hq hi
    exact br_t (nI_le (by omega) (by omega)) (h ch cl (fun e he => (hi e (by omega)).1) (fun e he => (hi e (by omega)).2))
  | succ d ih =>
    intro q ch cl hq hi
    refine br_f (nI_ge (by omega) (by omega)) ⟨hpp, vp_in_nI (by omega) (by omega), ?_⟩
    intro a ea
    refine ⟨hpp, vp_in_nI (by omega) (by omega), ?_⟩
    intro b eb
    rw [nI_clamp (by omega)] at ea eb
    subst ea
    subst eb
    refine ⟨hpp, nm_e (nm_r (nI_1 q) (ih (q + 1) _ _ (by omega) ?_))⟩
    intro e he
    by_cases c : e = q
    · rw [c]
      exact ⟨pk_us, pk_us⟩
    · rw [pk_un c, pk_un c]
      exact hi e (by omega)
theorem xk_choose (h4 : n ≤ 4) (hpp : ¬ pp = 0) (post : SX → Prop) (h : ∀ ch' cl', bk_ag n ch' (bk_dg pp code) → bk_ag n cl' (bk_dg pp code) → post (nI n, nI len, w, pa, co, ow, ch', cl')) : wpX_chooseColours post (nI n, nI len, w, pa, co, ow, ch, cl) code pp :=
  ⟨n + 1, xk_ch5 h4 hpp post h n 0 ch cl (by omega) (fun e he => absurd he (by omega))⟩
theorem xk_ca2 (hW : bk_W n len w) (hpp : ¬ pp = 0) (post : SX → Prop) (h : ∀ cl', bk_ag n cl' (bk_cr w pp o len) → post (nI n, nI len, w, pa, co, ow, ch, cl')) : ∀ d t cl, t + d = len → bk_ag n cl (bk_cr w pp o t) → wX_carryColours_2 post pp (nI n) (nI len) (d + 1) (nI t) w pa co ow ch cl := by
  have h4 := hW.2.1
  have hl := hW.2.2.1
  intro d
  induction d with
  | zero =>
    intro t cl ht hr
    have e : t = len := by omega
    rw [e] at hr
    exact br_t (nI_le (by omega) (by omega)) (h cl hr)
  | succ d ih =>
    intro t cl ht hr
    have hz := bk_Wz hW t (by omega)
    have hv := (bk_zv h4 (hW.2.2.2 t (by omega))).2.2
    have ax := hr (bk_z w t - 1) (by omega)
    have ay := hr (bk_z w t) hz.2
    have es : bk_cr w pp o (t + 1) = if 0 < w t then upd (upd (bk_cr w pp o t) (bk_z w t - 1) (bk_ev pp (bk_cr w pp o t (bk_z w t - 1)) (bk_cr w pp o t (bk_z w t)))) (bk_z w t) (bk_cr w pp o t (bk_z w t - 1)) else upd (upd (bk_cr w pp o t) (bk_z w t - 1) (bk_cr w pp o t (bk_z w t))) (bk_z w t) (bk_ev pp (bk_cr w pp o t (bk_z w t)) (bk_cr w pp o t (bk_z w t - 1))) := rfl
    refine br_f (nI_ge (by omega) (by omega)) (xk_right hW (by omega) _ ?_)
    rw [bk_pd hz.1, nI_clamp (show bk_z w t < 2 ^ 31 by omega), nI_clamp (show bk_z w t - 1 < 2 ^ 31 by omega), ax, ay]
    refine ⟨vp_in_nI (by omega) (by omega), nm_e ⟨vp_in_nI (by omega) (by omega), nm_e ?_⟩⟩
    refine xk_sign hW (by omega) _ ?_
    rcases hv with ⟨a1, a2, a3, a4, a5, a6⟩ | ⟨a1, a2, a3, a4, a5, a6⟩
    · rw [a6]
      refine br_f (by decide) ⟨hpp, vp_in_nI (by omega) (by omega), nm_e ⟨vp_in_nI (by omega) (by omega), nm_e (nm_r (nI_1 t) (ih (t + 1) _ (by omega) ?_))⟩⟩
      rw [es, if_pos a1]
      exact bk_agu (bk_agu hr)
    · rw [a6]
      refine br_t (by decide) ⟨vp_in_nI (by omega) (by omega), nm_e ⟨hpp, vp_in_nI (by omega) (by omega), nm_e (nm_r (nI_1 t) (ih (t + 1) _ (by omega) ?_))⟩⟩
      rw [es, if_neg a1]
      exact bk_agu (bk_agu hr)
theorem xk_carry (hW : bk_W n len w) (hpp : ¬ pp = 0) (hr : bk_ag n cl o) (post : SX → Prop) (h : ∀ cl', bk_ag n cl' (bk_cr w pp o len) → post (nI n, nI len, w, pa, co, ow, ch, cl')) : wpX_carryColours post (nI n, nI len, w, pa, co, ow, ch, cl) pp :=
  ⟨len + 1, xk_ca2 hW hpp post h len 0 cl (by omega) hr⟩
theorem xk_me2 (h4 : n ≤ 4) (hc : bk_ag n cl o) (hd : bk_ag n ch dd) (post : Int32 → Prop) (h1 : (∀ q, q < n → o q = dd q) → post 1) (h0 : ¬ (∀ q, q < n → o q = dd q) → post 0) : ∀ d t, t + d = n → (∀ q, q < t → o q = dd q) → wX_coloursMeet_2 post (nI n) (nI len) w pa co ow ch cl (d + 1) (nI t) := by
  intro d
  induction d with
  | zero =>
    intro t ht hi
    exact br_t (nI_le (by omega) (by omega)) (h1 (fun q hq => hi q (by omega)))
  | succ d ih =>
    intro t ht hi
    refine br_f (nI_ge (by omega) (by omega)) ⟨vp_in_nI (by omega) (by omega), vp_in_nI (by omega) (by omega), ?_⟩
    rw [nI_clamp (show t < 2 ^ 31 by omega), hc t (by omega), hd t (by omega)]
    refine br_c (fun c => nm_r (nI_1 t) (ih (t + 1) (by omega) (fun q hq => ?_))) (fun c => h0 (fun H => c (H t (by omega))))
    by_cases e : q = t
    · rw [e]
      exact c
    · exact hi q (by omega)
theorem xk_meet (h4 : n ≤ 4) (hc : bk_ag n cl o) (hd : bk_ag n ch dd) (post : Int32 → Prop) (h1 : (∀ q, q < n → o q = dd q) → post 1) (h0 : ¬ (∀ q, q < n → o q = dd q) → post 0) : wpX_coloursMeet post (nI n, nI len, w, pa, co, ow, ch, cl) :=
  ⟨n + 1, xk_me2 h4 hc hd post h1 h0 n 0 (by omega) (fun q hq => absurd hq (by omega))⟩
theorem xk_cl52 (hW : bk_W n len w) (hpp : ¬ pp = 0) {N : Nat} (hN : N ≤ 2401) (post : Int32 → SX → Prop) (h : ∀ ch' cl', post (nI (bk_ct (fun c => bk_G n len w pp (nI c)) N)) (nI n, nI len, w, pa, co, ow, ch', cl')) : ∀ d c ch cl, c + d = N → wX_colourings_52 post pp (nI N) (d + 1) (nI (bk_ct (fun c => bk_G n len w pp (nI c)) c)) (nI c) (nI n) (nI len) w pa co ow ch cl := by
  have h4 := hW.2.1
  intro d
  induction d with
  | zero =>
    intro c ch cl hc
    have e : c = N := by omega
    rw [e]
    exact br_t (nI_le (by omega) (by omega)) (h ch cl)
  | succ d ih =>
    intro c ch cl hc
    have ec : bk_ct (fun c => bk_G n len w pp (nI c)) (c + 1) = bk_ct (fun c => bk_G n len w pp (nI c)) c + if bk_G n len w pp (nI c) then 1 else 0 := rfl
    refine br_f (nI_ge (by omega) (by omega)) (xk_choose h4 hpp _ (fun ch' cl' hch hcl => ?_))
    refine xk_carry hW hpp hcl _ (fun cl'' hcl'' => ?_)
    have ih' := ih (c + 1) ch' cl'' (by omega)
    refine xk_meet h4 hcl'' hch _ (fun H => ?_) (fun H => ?_)
    · rw [ec, show bk_G n len w pp (nI c) = true from decide_eq_true H, if_pos rfl] at ih'
      exact br_f (by decide) (nm_r (nI_1 _) (nm_r (nI_1 c) ih'))
    · rw [ec, show bk_G n len w pp (nI c) = false from decide_eq_false H, if_neg (by decide)] at ih'
      exact br_t rfl (nm_r (nI_1 c) ih')
theorem xk_cl29 (hW : bk_W n len w) {P : Nat} (hP : 1 ≤ P) (hP7 : P ≤ 7) (post : Int32 → SX → Prop) (h : ∀ ch' cl', post (nI (bk_ct (fun c => bk_G n len w (nI P) (nI c)) (P ^ n))) (nI n, nI len, w, pa, co, ow, ch', cl')) : ∀ d t, t + d = n → wX_colourings_29 post (nI P) (nI n) (nI len) w pa co ow ch cl (d + 1) (nI (P ^ t)) (nI t) := by
  have h4 := hW.2.1
  intro d
  induction d with
  | zero =>
    intro t ht
    have e : t = n := by omega
    rw [e]
    have hb : P ^ n ≤ 2401 := Nat.le_trans (Nat.pow_le_pow_left hP7 n) (Nat.pow_le_pow_right (n := 7) (by decide) h4)
    exact br_t (nI_le (by omega) (by omega)) ⟨P ^ n + 1, xk_cl52 hW (nI_ne0 hP (by omega)) hb post h (P ^ n) 0 ch cl (by omega)⟩
  | succ d ih =>
    intro t ht
    exact br_f (nI_ge (by omega) (by omega)) (nm_r (pk_mul (P ^ t) P) (nm_r (nI_1 t) (ih (t + 1) (by omega))))
theorem yk_f158 (h4 : n ≤ 4) (hpp : ¬ pp = 0) (hc : bk_ag n cy o) (post : Int32 → SY → Prop) (h1 : (∀ q, q < n → o q = bk_dg pp code q) → post 1 (nI n, nI len, kn, w, j, mn, cf, cy, cm)) (h0 : ¬ (∀ q, q < n → o q = bk_dg pp code q) → post 0 (nI n, nI len, kn, w, j, mn, cf, cy, cm)) : ∀ d t, t + d = n → (∀ q, q < t → o q = bk_dg pp code q) → wY_fits_158 post pp (nI n) (nI len) kn w j mn cf cy cm (d + 1) (bk_qr pp code t) (nI t) := by
  intro d
  induction d with
  | zero =>
    intro t ht hi
    exact br_t (nI_le (by omega) (by omega)) (h1 (fun q hq => hi q (by omega)))
  | succ d ih =>
    intro t ht hi
    refine br_f (nI_ge (by omega) (by omega)) ⟨vp_in_nI (by omega) (by omega), hpp, ?_⟩
    rw [nI_clamp (show t < 2 ^ 31 by omega), hc t (by omega)]
    refine br_c (fun c => ⟨hpp, nm_e (nm_r (nI_1 t) (ih (t + 1) (by omega) (fun q hq => ?_)))⟩) (fun c => h0 (fun H => c (H t (by omega))))
    by_cases e : q = t
    · rw [e]
      exact c
    · exact hi q (by omega)
theorem yk_f37 (hW : bk_W n len w) (hpp : ¬ pp = 0) (post : Int32 → SY → Prop) (h : ∀ cy', bk_ag n cy' (bk_cr w pp o len) → ∃ n158, wY_fits_158 post pp (nI n) (nI len) kn w j mn cf cy' cm n158 code (nI 0)) : ∀ d t cy, t + d = len → bk_ag n cy (bk_cr w pp o t) → wY_fits_37 post code pp (nI n) (nI len) kn (d + 1) (nI t) w j mn cf cy cm := by
  have h4 := hW.2.1
  have hl := hW.2.2.1
  intro d
  induction d with
  | zero =>
    intro t cy ht hr
    have e : t = len := by omega
    rw [e] at hr
    exact br_t (nI_le (by omega) (by omega)) (h cy hr)
  | succ d ih =>
    intro t cy ht hr
    have hz := bk_Wz hW t (by omega)
    have hv := (bk_zv h4 (hW.2.2.2 t (by omega))).2.2
    have ax := hr (bk_z w t - 1) (by omega)
    have ay := hr (bk_z w t) hz.2
    have es : bk_cr w pp o (t + 1) = if 0 < w t then upd (upd (bk_cr w pp o t) (bk_z w t - 1) (bk_ev pp (bk_cr w pp o t (bk_z w t - 1)) (bk_cr w pp o t (bk_z w t)))) (bk_z w t) (bk_cr w pp o t (bk_z w t - 1)) else upd (upd (bk_cr w pp o t) (bk_z w t - 1) (bk_cr w pp o t (bk_z w t))) (bk_z w t) (bk_ev pp (bk_cr w pp o t (bk_z w t)) (bk_cr w pp o t (bk_z w t - 1))) := rfl
    refine br_f (nI_ge (by omega) (by omega)) ?_
    rw [nI_clamp (show t < 2 ^ 31 by omega)]
    refine ⟨vp_in_nI (by omega) (by omega), yk_size hW (by omega) _ ?_⟩
    rw [bk_pd hz.1, nI_clamp (show bk_z w t < 2 ^ 31 by omega), nI_clamp (show bk_z w t - 1 < 2 ^ 31 by omega), ax, ay]
    refine ⟨vp_in_nI (by omega) (by omega), nm_e ⟨vp_in_nI (by omega) (by omega), nm_e ⟨vp_in_nI (by omega) (by omega), ?_⟩⟩⟩
    rcases hv with ⟨a1, a2, a3, a4, a5, a6⟩ | ⟨a1, a2, a3, a4, a5, a6⟩
    · refine br_f a3 ?_
      unfold wY_fits_111
      rw [bk_pd hz.1, nI_clamp (show t < 2 ^ 31 by omega), nI_clamp (show bk_z w t < 2 ^ 31 by omega), nI_clamp (show bk_z w t - 1 < 2 ^ 31 by omega)]
      refine ⟨vp_in_nI (by omega) (by omega), nm_e ⟨vp_in_nI (by omega) (by omega), br_f a3 ⟨hpp, vp_in_nI (by omega) (by omega), nm_e (nm_r (nI_1 t) (ih (t + 1) _ (by omega) ?_))⟩⟩⟩
      rw [es, if_pos a1]
      exact bk_agc (by omega) hr
    · refine br_t a3 ⟨hpp, ?_⟩
      unfold wY_fits_111
      rw [bk_pd hz.1, nI_clamp (show t < 2 ^ 31 by omega), nI_clamp (show bk_z w t < 2 ^ 31 by omega), nI_clamp (show bk_z w t - 1 < 2 ^ 31 by omega)]
      refine ⟨vp_in_nI (by omega) (by omega), nm_e ⟨vp_in_nI (by omega) (by omega), br_t a3 ⟨vp_in_nI (by omega) (by omega), nm_e (nm_r (nI_1 t) (ih (t + 1) _ (by omega) ?_))⟩⟩⟩
      rw [es, if_neg a1]
      exact bk_agc (by omega) hr
theorem yk_f5 (hW : bk_W n len w) (hpp : ¬ pp = 0) (post : Int32 → SY → Prop) (h : ∀ cy', bk_ag n cy' (bk_dg pp code) → ∃ n37, wY_fits_37 post code pp (nI n) (nI len) kn n37 (nI 0) w j mn cf cy' cm) : ∀ d q cy, q + d = n → (∀ e, e < q → cy e = bk_dg pp code e) → wY_fits_5 post code pp (nI n) (nI len) kn (d + 1) (bk_qr pp code q) (nI q) w j mn cf cy cm := by
  have h4 := hW.2.1
  intro d
  induction d with
  | zero =>
    intro q cy hq hi
    exact br_t (nI_le (by omega) (by omega)) (h cy (fun e he => hi e (by omega)))
  | succ d ih =>
    intro q cy hq hi
    refine br_f (nI_ge (by omega) (by omega)) ⟨hpp, vp_in_nI (by omega) (by omega), ?_⟩
    intro a ea
    rw [nI_clamp (by omega)] at ea
    subst ea
    refine ⟨hpp, nm_e (nm_r (nI_1 q) (ih (q + 1) _ (by omega) ?_))⟩
    intro e he
    by_cases c : e = q
    · rw [c]
      exact pk_us
    · rw [pk_un c]
      exact hi e (by omega)
theorem yk_fits (hW : bk_W n len w) (hpp : ¬ pp = 0) (post : Int32 → SY → Prop) (h1 : ∀ cy', bk_G n len w pp code = true → post 1 (nI n, nI len, kn, w, j, mn, cf, cy', cm)) (h0 : ∀ cy', bk_G n len w pp code = false → post 0 (nI n, nI len, kn, w, j, mn, cf, cy', cm)) : wpY_fits post (nI n, nI len, kn, w, j, mn, cf, cy, cm) code pp :=
  ⟨n + 1, yk_f5 hW hpp post (fun cy1 hc1 => ⟨len + 1, yk_f37 hW hpp post (fun cy2 hc2 => ⟨n + 1, yk_f158 hW.2.1 hpp hc2 post (fun H => h1 cy2 (decide_eq_true H)) (fun H => h0 cy2 (decide_eq_false H)) n 0 (by omega) (fun q hq => absurd hq (by omega))⟩) len 0 cy1 (by omega) hc1⟩) n 0 cy (by omega) (fun e he => absurd he (by omega))⟩
theorem yk_cl52 (hW : bk_W n len w) (hpp : ¬ pp = 0) {N : Nat} (hN : N ≤ 2401) (post : Int32 → SY → Prop) (h : ∀ cy', post (nI (bk_ct (fun c => bk_G n len w pp (nI c)) N)) (nI n, nI len, kn, w, j, mn, cf, cy', cm)) : ∀ d c cy, c + d = N → wY_colourings_52 post pp (nI N) (d + 1) (nI (bk_ct (fun c => bk_G n len w pp (nI c)) c)) (nI c) (nI n) (nI len) kn w j mn cf cy cm := by
  intro d
  induction d with
  | zero =>
    intro c cy hc
    have e : c = N := by omega
    rw [e]
    exact br_t (nI_le (by omega) (by omega)) (h cy)
  | succ d ih =>
    intro c cy hc
    have ec : bk_ct (fun c => bk_G n len w pp (nI c)) (c + 1) = bk_ct (fun c => bk_G n len w pp (nI c)) c + if bk_G n len w pp (nI c) then 1 else 0 := rfl
    refine br_f (nI_ge (by omega) (by omega)) (yk_fits hW hpp _ (fun cy' H => ?_) (fun cy' H => ?_))
    · have ih' := ih (c + 1) cy' (by omega)
      rw [ec, H, if_pos rfl] at ih'
      exact br_f (by decide) (nm_r (nI_1 _) (nm_r (nI_1 c) ih'))
    · have ih' := ih (c + 1) cy' (by omega)
      rw [ec, H, if_neg (by decide)] at ih'
      exact br_t rfl (nm_r (nI_1 c) ih')
theorem yk_cl29 (hW : bk_W n len w) {P : Nat} (hP : 1 ≤ P) (hP7 : P ≤ 7) (post : Int32 → SY → Prop) (h : ∀ cy', post (nI (bk_ct (fun c => bk_G n len w (nI P) (nI c)) (P ^ n))) (nI n, nI len, kn, w, j, mn, cf, cy', cm)) : ∀ d t, t + d = n → wY_colourings_29 post (nI P) (nI n) (nI len) kn w j mn cf cy cm (d + 1) (nI (P ^ t)) (nI t) := by
  have h4 := hW.2.1
  intro d
  induction d with
  | zero =>
    intro t ht
    have e : t = n := by omega
    rw [e]
    have hb : P ^ n ≤ 2401 := Nat.le_trans (Nat.pow_le_pow_left hP7 n) (Nat.pow_le_pow_right (n := 7) (by decide) h4)
    exact br_t (nI_le (by omega) (by omega)) ⟨P ^ n + 1, yk_cl52 hW (nI_ne0 hP (by omega)) hb post h (P ^ n) 0 cy (by omega)⟩
  | succ d ih =>
    intro t ht
    exact br_f (nI_ge (by omega) (by omega)) (nm_r (pk_mul (P ^ t) P) (nm_r (nI_1 t) (ih (t + 1) (by omega))))
end
theorem bk_colX {k n len P : Nat} {kn : Int32} {w pa co ow ch cl j mn cf cy cm : Nat → Int32} (hW : bk_W n len w) (hkn : bk_kn n len kn w mn cf) (hP : 1 ≤ P) (hP7 : P ≤ 7) (hY : ∀ (post : Int32 → SY → Prop), (∃ n29, wY_colourings_29 post (nI P) (nI n) (nI len) kn w j mn cf cy cm n29 1 0) → wpY_colourings post (nI n, nI len, kn, w, j, mn, cf, cy, cm) (nI P)) : ∃ n29, wX_colourings_29 (fun r u' => wpY_colourings (fun r' v' => r' = r ∧ i_Rel (k + 3) u' v') (nI n, nI len, kn, w, j, mn, cf, cy, cm) (nI P)) (nI P) (nI n) (nI len) w pa co ow ch cl n29 1 0 :=
  ⟨n + 1, xk_cl29 hW hP hP7 _ (fun ch' cl' => hY _ ⟨n + 1, yk_cl29 hW hP hP7 _ (fun cy' => ⟨rfl, bk_rel hW hkn⟩) n 0 (by omega)⟩) n 0 (by omega)⟩
theorem i_vc_colourings {k : Nat} {u : SX} {v : SY} (I : i_Rel k u v) (hk : k + 3 ≤ 1537) (v1 : Int32) : wpX_colourings (fun r u' => wpY_colourings (fun r' v' => r' = r ∧ i_Rel (k + 3) u' v') v v1) u v1 := by
  obtain ⟨n, len, kn, w, pa, co, ow, ch, cl, j, mn, cf, cy, cm, hW, hkn, rfl, rfl⟩ := I
  by_cases h2 : v1 = 2
  · subst h2
    exact br_t rfl (bk_colX (P := 2) hW hkn (by decide) (by decide) (fun post h => br_t rfl h))
  by_cases h3 : v1 = 3
  · subst h3
    exact br_f h2 (br_t rfl (bk_colX (P := 3) hW hkn (by decide) (by decide) (fun post h => br_f h2 (br_t rfl h))))
  by_cases h5 : v1 = 5
  · subst h5
    exact br_f h2 (br_f h3 (br_t rfl (bk_colX (P := 5) hW hkn (by decide) (by decide) (fun post h => br_f h2 (br_f h3 (br_t rfl h))))))
  by_cases h7 : v1 = 7
  · subst h7
    exact br_f h2 (br_f h3 (br_f h5 (br_t rfl (bk_colX (P := 7) hW hkn (by decide) (by decide) (fun post h => br_f h2 (br_f h3 (br_f h5 (br_t rfl h))))))))
  · exact br_f h2 (br_f h3 (br_f h5 (br_f h7 (br_f h2 (br_f h3 (br_f h5 (br_f h7 ⟨rfl, bk_rel hW hkn⟩)))))))
