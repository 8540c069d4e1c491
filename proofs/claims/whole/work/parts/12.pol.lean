def bk_mv (n : Nat) (w : Nat → Int32) (len : Nat) (v : Int32) : Nat → Nat
  | 0 => 0
  | s + 1 => bk_mv n w len v s + if nI (bk_Fs n w len (nI s)) = v then 1 else 0
theorem bk_mvl {n len l : Nat} {w : Nat → Int32} (hW : bk_W n len w) (hl : l < 16) : ∀ s, bk_mv n w len (nI l) s = bk_mn n w len l s := by
  intro s
  induction s with
  | zero => rfl
  | succ s ih =>
    have hF := bk_FsR hW (nI s)
    show bk_mv n w len (nI l) s + (if nI (bk_Fs n w len (nI s)) = nI l then 1 else 0) = bk_mn n w len l s + (if bk_Fs n w len (nI s) = l then 1 else 0)
    rw [ih]
    by_cases c : bk_Fs n w len (nI s) = l
    · rw [if_pos c, if_pos (by rw [c])]
    · rw [if_neg c, if_neg (fun q => c ((nI_eq (by omega) (by omega)).mp q))]
theorem bk_mv0 {n len : Nat} {w : Nat → Int32} {v : Int32} (hW : bk_W n len w) (hv : ∀ l, l < 16 → nI l ≠ v) : ∀ s, bk_mv n w len v s = 0 := by
  intro s
  induction s with
  | zero => rfl
  | succ s ih =>
    have hF := bk_FsR hW (nI s)
    show bk_mv n w len v s + (if nI (bk_Fs n w len (nI s)) = v then 1 else 0) = 0
    rw [ih, if_neg (hv _ (by omega))]
def bk_cv (n : Nat) (w : Nat → Int32) (len : Nat) (e : Int32) : Int32 := if -60 ≤ e.toInt ∧ e.toInt ≤ 60 then bk_cf n w len (e.toInt + 60).toNat else 0
theorem bk_sh {c : Nat} {e : Int32} (hc : c < 1000) (h1 : -(c : Int) ≤ e.toInt) (h2 : e.toInt ≤ 1000) : nI c + e = nI (e.toInt + c).toNat := by
  apply Int32.toInt_inj.mp
  rw [Int32.toInt_add, nI_toInt (by omega), nI_toInt (by omega), Int.bmod_eq_of_le (by omega) (by omega)]
  omega
theorem bk_im36 : (-36 : Int32).toInt = -36 := by decide
theorem bk_ip36 : (36 : Int32).toInt = 36 := by decide
theorem bk_im60 : (-60 : Int32).toInt = -60 := by decide
theorem bk_ip60 : (60 : Int32).toInt = 60 := by decide
section
variable {n len : Nat} {kn : Int32} {w pa co ow ch cl j mn cf cy cm : Nat → Int32}
theorem xk_cof (hW : bk_W n len w) (hr : bk_rc co (bk_bi n w len (2 ^ len))) (e : Int32) (post : Int32 → Prop) (h : post (bk_cv n w len e)) : wpX_coefficientOf post (nI n, nI len, w, pa, co, ow, ch, cl) e := by
  unfold bk_cv at h
  refine br_c (fun h1 => ?_) (fun h1 => br_c (fun h2 => ?_) (fun h2 => ?_))
  · rw [Int32.lt_iff_toInt_lt, bk_im36] at h1
    by_cases c : -60 ≤ e.toInt ∧ e.toInt ≤ 60
    · rw [if_pos c, bk_cfz hW (by omega)] at h
      exact h
    · rw [if_neg c] at h
      exact h
  · rw [Int32.lt_iff_toInt_lt, bk_im36] at h1
    rw [Int32.le_iff_toInt_le, bk_ip36] at h2
    have es : (36 : Int32) + e = nI (e.toInt + 36).toNat := bk_sh (c := 36) (by omega) (by omega) (by omega)
    rw [es, nI_clamp (by omega)]
    refine ⟨vp_in_nI (by omega) (by omega), ?_⟩
    rw [if_pos (by omega)] at h
    rw [hr _ (by omega), show (e.toInt + 36).toNat + 24 = (e.toInt + 60).toNat by omega]
    exact h
  · rw [Int32.le_iff_toInt_le, bk_ip36] at h2
    by_cases c : -60 ≤ e.toInt ∧ e.toInt ≤ 60
    · rw [if_pos c, bk_cfz hW (by omega)] at h
      exact h
    · rw [if_neg c] at h
      exact h
theorem yk_cof (hr : bk_rd cf (bk_bi n w len (2 ^ len))) (e : Int32) (post : Int32 → Prop) (h : post (bk_cv n w len e)) : wpY_coefficient post (nI n, nI len, kn, w, j, mn, cf, cy, cm) e := by
  unfold bk_cv at h
  refine br_c (fun h1 => ?_) (fun h1 => br_c (fun h2 => ?_) (fun h2 => ?_))
  · rw [Int32.lt_iff_toInt_lt, bk_im60] at h1
    rw [if_neg (by omega)] at h
    exact h
  · rw [Int32.lt_iff_toInt_lt, bk_im60] at h1
    rw [Int32.le_iff_toInt_le, bk_ip60] at h2
    have es : (60 : Int32) + e = nI (e.toInt + 60).toNat := bk_sh (c := 60) (by omega) (by omega) (by omega)
    rw [es, nI_clamp (by omega)]
    refine ⟨vp_in_nI (by omega) (by omega), ?_⟩
    rw [if_pos (by omega)] at h
    rw [hr _ (by omega)]
    exact h
  · rw [Int32.le_iff_toInt_le, bk_ip60] at h2
    rw [if_neg (by omega)] at h
    exact h
theorem xk_s4 (hW : bk_W n len w) (v : Int32) (post : Int32 → SX → Prop) (h : ∀ pa', post (nI (bk_mv n w len v (2 ^ len))) (nI n, nI len, w, pa', co, ow, ch, cl)) : ∀ d s pa, s + d = 2 ^ len → wX_states_4 post v (d + 1) (nI (bk_mv n w len v s)) (nI s) (nI n) (nI len) w pa co ow ch cl := by
  have hl := hW.2.2.1
  have hp := bk_p10 len (by omega)
  have hs := bk_pw len (by omega)
  intro d
  induction d with
  | zero =>
    intro s pa hd
    have e : s = 2 ^ len := by omega
    refine br_t ?_ ?_
    · rw [hs]
      exact nI_le (by omega) (by omega)
    · rw [e]
      exact h pa
  | succ d ih =>
    intro s pa hd
    have ec : bk_mv n w len v (s + 1) = bk_mv n w len v s + if nI (bk_Fs n w len (nI s)) = v then 1 else 0 := rfl
    refine br_f (by rw [hs]; exact nI_ge (by omega) (by omega)) (xk_loops hW (nI s) _ (fun pa' => ?_))
    have ih' := ih (s + 1) pa' (by omega)
    refine br_c (fun c => ?_) (fun c => ?_)
    · rw [ec, if_pos c] at ih'
      exact nm_r (nI_1 _) (nm_r (nI_1 s) ih')
    · rw [ec, if_neg c] at ih'
      exact nm_r (nI_1 s) ih'
end
theorem i_vc_states {k : Nat} {u : SX} {v : SY} (I : i_Rel k u v) (hk : k + 3 ≤ 1537) (v1 : Int32) : wpX_states (fun r u' => wpY_states (fun r' v' => r' = r ∧ i_Rel (k + 3) u' v') v v1) u v1 := by
  obtain ⟨n, len, kn, w, pa, co, ow, ch, cl, j, mn, cf, cy, cm, hW, hkn, rfl, rfl⟩ := I
  have hl := hW.2.2.1
  refine ⟨2 ^ len + 1, xk_s4 hW v1 _ (fun pa' => ?_) (2 ^ len) 0 pa (by omega)⟩
  unfold wpY_states
  dsimp only
  refine yk_work hW hkn _ (fun j' mn' cf' hm hr => ?_)
  have R : i_Rel (k + 3) (nI n, nI len, w, pa', co, ow, ch, cl) (nI n, nI len, 1, w, j', mn', cf', cy, cm) := bk_rel hW (Or.inr ⟨rfl, hm, hr⟩)
  rcases pk_ix v1 (n := 16) (by decide) with h | h | ⟨l, hl16, rfl⟩
  · refine br_t h ⟨?_, R⟩
    rw [bk_mv0 hW (fun l hl' q => by rw [← q] at h; exact nI_pos (by omega) h)]
    rfl
  · have h' : (16 : Int) ≤ v1.toInt := by
      rw [Int32.le_iff_toInt_le, nI_toInt (by decide)] at h
      exact h
    have h0 : ¬ v1 < 0 := by
      rw [Int32.lt_iff_toInt_lt, bk_i0]
      omega
    have h15 : ¬ v1 ≤ 15 := by
      rw [Int32.le_iff_toInt_le, show (15 : Int32).toInt = 15 by decide]
      omega
    refine br_f h0 (br_f h15 ⟨?_, R⟩)
    rw [bk_mv0 hW (fun l hl' q => by rw [← q, nI_toInt (by omega)] at h'; omega)]
    rfl
  · refine br_f (nI_pos (by omega)) (br_t (nI_le (b := 15) (by omega) (by decide)) ⟨vp_in_nI hl16 (by decide), ?_, R⟩)
    dsimp only
    rw [nI_clamp (by omega), hm l hl16, bk_mvl hW hl16]
theorem i_vc_bracket {k : Nat} {u : SX} {v : SY} (I : i_Rel k u v) (hk : k + 3 ≤ 1537) (v1 : Int32) : wpX_bracket (fun r u' => wpY_bracket (fun r' v' => r' = r ∧ i_Rel (k + 3) u' v') v v1) u v1 := by
  obtain ⟨n, len, kn, w, pa, co, ow, ch, cl, j, mn, cf, cy, cm, hW, hkn, rfl, rfl⟩ := I
  unfold wpX_bracket wpY_bracket
  dsimp only
  refine xk_make hW _ (fun pa' co' hr => ?_)
  refine xk_cof hW hr v1 _ ?_
  refine yk_work hW hkn _ (fun j' mn' cf' hm hr' => ?_)
  refine yk_cof hr' v1 _ ?_
  exact ⟨rfl, bk_rel hW (Or.inr ⟨rfl, hm, hr'⟩)⟩
theorem i_vc_invariant {k : Nat} {u : SX} {v : SY} (I : i_Rel k u v) (hk : k + 3 ≤ 1537) (v1 : Int32) : wpX_invariant (fun r u' => wpY_invariant (fun r' v' => r' = r ∧ i_Rel (k + 3) u' v') v v1) u v1 := by
  obtain ⟨n, len, kn, w, pa, co, ow, ch, cl, j, mn, cf, cy, cm, hW, hkn, rfl, rfl⟩ := I
  unfold wpX_invariant wpY_invariant
  dsimp only
  refine xk_make hW _ (fun pa' co' hr => ?_)
  refine xk_wr hW _ ?_
  refine xk_cof hW hr _ _ ?_
  refine ⟨by decide, br_c (fun c => ?_) (fun c => ?_)⟩
  · refine yk_work hW hkn _ (fun j' mn' cf' hm hr' => ?_)
    refine yk_wr hW _ ?_
    refine yk_cof hr' _ _ ?_
    exact ⟨by decide, br_t c ⟨rfl, bk_rel hW (Or.inr ⟨rfl, hm, hr'⟩)⟩⟩
  · refine yk_work hW hkn _ (fun j' mn' cf' hm hr' => ?_)
    refine yk_wr hW _ ?_
    refine yk_cof hr' _ _ ?_
    exact ⟨by decide, br_f c ⟨rfl, bk_rel hW (Or.inr ⟨rfl, hm, hr'⟩)⟩⟩
theorem bk_ek {x : Nat} (h : x ≤ 300) : (nI x - 60).toInt = (x : Int) - 60 := pk_sub_toInt (a := x) (b := 60) (by omega) (by decide)
theorem bk_ekc {n len x : Nat} {w : Nat → Int32} (h : x ≤ 120) : bk_cv n w len (nI x - 60) = bk_cf n w len x := by
  unfold bk_cv
  rw [bk_ek (by omega), if_pos (by omega), show ((x : Int) - 60 + 60).toNat = x by omega]
theorem bk_eku (x : Nat) : nI x - 60 + 1 = nI (x + 1) - 60 := by
  rw [← nI_1]
  grind
theorem bk_ekd (x : Nat) : nI (x + 1) - 60 + (-1) = nI x - 60 := by
  rw [← nI_1]
  grind
theorem bk_ek4 (x : Nat) : nI x - 60 + 4 = nI (x + 4) - 60 := by
  rw [← nI_add x 4]
  show nI x - 60 + 4 = nI x + 4 - 60
  grind
def bk_lh (n : Nat) (w : Nat → Int32) (len lo hi : Nat) : Prop := 24 ≤ lo ∧ lo ≤ hi ∧ hi ≤ 96 ∧ bk_cf n w len lo ≠ 0 ∧ bk_cf n w len hi ≠ 0 ∧ (∀ x, x < lo → bk_cf n w len x = 0) ∧ (∀ x, hi < x → bk_cf n w len x = 0)
section
variable {n len lo hi : Nat} {kn : Int32} {w pa co ow ch cl j mn cf cy cm : Nat → Int32}
theorem xk_lp2 (hr : bk_rc co (bk_bi n w len (2 ^ len))) (H : bk_lh n w len lo hi) (post : Int32 → Prop) (h : post (nI (lo - 24))) : ∀ d y, y + d = lo - 24 → wX_leastPower_2 post (nI n) (nI len) w pa co ow ch cl (d + 1) (nI y) := by
  obtain ⟨l1, l2, l3, l4, l5, l6, l7⟩ := H
  intro d
  induction d with
  | zero =>
    intro y hy
    have e : y = lo - 24 := by omega
    refine br_f (nI_ge (b := 73) (by omega) (by decide)) ⟨vp_in_nI (by omega) (by decide), ?_⟩
    rw [nI_clamp (show y < 2 ^ 31 by omega), hr y (by omega), show y + 24 = lo by omega]
    refine br_f l4 ?_
    rw [e]
    exact h
  | succ d ih =>
    intro y hy
    refine br_f (nI_ge (b := 73) (by omega) (by decide)) ⟨vp_in_nI (by omega) (by decide), ?_⟩
    rw [nI_clamp (show y < 2 ^ 31 by omega), hr y (by omega)]
    exact br_t (l6 (y + 24) (by omega)) (nm_r (nI_1 y) (ih (y + 1) (by omega)))
theorem xk_lp (hr : bk_rc co (bk_bi n w len (2 ^ len))) (H : bk_lh n w len lo hi) (post : Int32 → Prop) (h : post (nI (lo - 24))) : wpX_leastPower post (nI n, nI len, w, pa, co, ow, ch, cl) :=
  ⟨lo - 24 + 1, xk_lp2 hr H post h (lo - 24) 0 (by omega)⟩
theorem xk_s13 (hr : bk_rc co (bk_bi n w len (2 ^ len))) (H : bk_lh n w len lo hi) (x1 : Int32) (post : Int32 → SX → Prop) (h : post (nI (hi - 24) - x1) (nI n, nI len, w, pa, co, ow, ch, cl)) : ∀ d y g, y + d = 73 → (hi - 24 < y → g = nI (hi - 24)) → wX_spread_13 post x1 (nI n) (nI len) w pa co ow ch cl (d + 1) g (nI y) := by
  obtain ⟨l1, l2, l3, l4, l5, l6, l7⟩ := H
  intro d
  induction d with
  | zero =>
    intro y g hy hg
    refine br_t (nI_le (a := 73) (by omega) (by omega)) ?_
    rw [hg (by omega)]
    exact h
  | succ d ih =>
    intro y g hy hg
    refine br_f (nI_ge (b := 73) (by omega) (by decide)) ⟨vp_in_nI (by omega) (by decide), ?_⟩
    rw [nI_clamp (show y < 2 ^ 31 by omega), hr y (by omega)]
    refine br_c (fun c => nm_r (nI_1 y) (ih (y + 1) g (by omega) (fun q => hg ?_))) (fun c => nm_r (nI_1 y) (ih (y + 1) (nI y) (by omega) (fun q => ?_)))
    · by_cases e : y = hi - 24
      · rw [show y + 24 = hi by omega] at c
        exact absurd c l5
      · omega
    · by_cases e : y = hi - 24
      · rw [e]
      · exact absurd (l7 (y + 24) (by omega)) c
theorem yk_lo3 (hr : bk_rd cf (bk_bi n w len (2 ^ len))) (H : bk_lh n w len lo hi) (post : Int32 → Prop) (h : post (nI lo - 60)) : ∀ d x, x + d = lo → wY_lowest_3 post (nI n) (nI len) kn w j mn cf cy cm (d + 1) (nI x - 60) := by
  obtain ⟨l1, l2, l3, l4, l5, l6, l7⟩ := H
  intro d
  induction d with
  | zero =>
    intro x hx
    have e : x = lo := by omega
    subst e
    refine br_f (by rw [Int32.le_iff_toInt_le, bk_ek (by omega), bk_ip60]; omega) (yk_cof hr _ _ ?_)
    rw [bk_ekc (by omega)]
    exact br_f l4 h
  | succ d ih =>
    intro x hx
    refine br_f (by rw [Int32.le_iff_toInt_le, bk_ek (by omega), bk_ip60]; omega) (yk_cof hr _ _ ?_)
    rw [bk_ekc (by omega)]
    exact br_t (l6 x (by omega)) (nm_r (bk_eku x) (ih (x + 1) (by omega)))
theorem yk_lo (hr : bk_rd cf (bk_bi n w len (2 ^ len))) (H : bk_lh n w len lo hi) (post : Int32 → Prop) (h : post (nI lo - 60)) : wpY_lowest post (nI n, nI len, kn, w, j, mn, cf, cy, cm) := by
  have m := yk_lo3 (kn := kn) (j := j) (mn := mn) (cy := cy) (cm := cm) hr H post h lo 0 (by omega)
  rw [show nI 0 - 60 = -60 by decide] at m
  exact ⟨lo + 1, m⟩
theorem yk_s7 (hr : bk_rd cf (bk_bi n w len (2 ^ len))) (H : bk_lh n w len lo hi) (post : Int32 → SY → Prop) (h : wY_spread_27 post (nI hi - 60) (nI n) (nI len) kn w j mn cf cy cm) : ∀ d x, hi + d = x → x ≤ 120 → wY_spread_7 post (nI n) (nI len) kn w j mn cf cy cm (d + 1) (nI x - 60) := by
  obtain ⟨l1, l2, l3, l4, l5, l6, l7⟩ := H
  intro d
  induction d with
  | zero =>
    intro x hx hx2
    have e : x = hi := by omega
    subst e
    refine br_f (by rw [Int32.le_iff_toInt_le, bk_ek (by omega), bk_im60]; omega) (yk_cof hr _ _ ?_)
    rw [bk_ekc (by omega)]
    exact br_f l5 h
  | succ d ih =>
    intro x hx hx2
    obtain ⟨y, rfl⟩ : ∃ y, x = y + 1 := ⟨x - 1, by omega⟩
    refine br_f (by rw [Int32.le_iff_toInt_le, bk_ek (by omega), bk_im60]; omega) (yk_cof hr _ _ ?_)
    rw [bk_ekc (by omega)]
    exact br_t (l7 (y + 1) (by omega)) (nm_r (bk_ekd y) (ih y (by omega) (by omega)))
end
theorem i_vc_spread {k : Nat} {u : SX} {v : SY} (I : i_Rel k u v) (hk : k + 3 ≤ 1537) : wpX_spread (fun r u' => wpY_spread (fun r' v' => r' = r ∧ i_Rel (k + 3) u' v') v) u := by
  obtain ⟨n, len, kn, w, pa, co, ow, ch, cl, j, mn, cf, cy, cm, hW, hkn, rfl, rfl⟩ := I
  obtain ⟨lo, hi, H⟩ := bk_cflh hW
  have H' : bk_lh n w len lo hi := H
  obtain ⟨l1, l2, l3, -⟩ := H
  unfold wpX_spread wpY_spread
  dsimp only
  refine xk_make hW _ (fun pa' co' hr => ?_)
  refine xk_lp hr H' _ ?_
  refine ⟨73 - (lo - 24) + 1, xk_s13 hr H' _ _ ?_ (73 - (lo - 24)) (lo - 24) _ (by omega) (fun q => absurd q (by omega))⟩
  refine yk_work hW hkn _ (fun j' mn' cf' hm hr' => ?_)
  have m := yk_s7 (kn := 1) (j := j') (mn := mn') (cy := cy) (cm := cm) hr' H' (fun r' v' => r' = nI (hi - 24) - nI (lo - 24) ∧ i_Rel (k + 3) (nI n, nI len, w, pa', co', ow, ch, cl) v') (by
    unfold wY_spread_27
    refine yk_lo hr' H' _ ?_
    refine ⟨?_, bk_rel hW (Or.inr ⟨rfl, hm, hr'⟩)⟩
    rw [pk_sub (by omega), show hi - 24 - (lo - 24) = hi - lo by omega, ← pk_sub (a := hi) (b := lo) l2]
    grind) (120 - hi) 120 (by omega) (by omega)
  rw [show nI 120 - 60 = 60 by decide] at m
  exact ⟨120 - hi + 1, m⟩
def bk_sg : Nat → Int32
  | 0 => 1
  | t + 1 => -bk_sg t
def bk_dt (c : Nat → Int32) (lo : Nat) : Nat → Int32
  | 0 => 0
  | t + 1 => bk_dt c lo t + bk_sg t * c (lo + 4 * t)
theorem bk_dts {c : Nat → Int32} {lo : Nat} (hz : ∀ x, 96 < x → c x = 0) {t : Nat} (ht : 97 ≤ lo + 4 * t) : ∀ d, bk_dt c lo (t + d) = bk_dt c lo t := by
  intro d
  induction d with
  | zero => rfl
  | succ d ih =>
    show bk_dt c lo (t + d) + bk_sg (t + d) * c (lo + 4 * (t + d)) = _
    rw [ih, hz _ (by omega), Int32.mul_zero, Int32.add_zero]
theorem bk_dtD {c : Nat → Int32} {lo : Nat} (hz : ∀ x, 96 < x → c x = 0) {t : Nat} (ht : 97 ≤ lo + 4 * t) (h30 : t ≤ 30) : bk_dt c lo t = bk_dt c lo 30 := by
  have h := bk_dts hz ht (30 - t)
  rw [show t + (30 - t) = 30 by omega] at h
  exact h.symm
section
variable {n len lo hi : Nat} {kn : Int32} {w pa co ow ch cl j mn cf cy cm : Nat → Int32}
theorem xk_d13 (hr : bk_rc co (bk_bi n w len (2 ^ len))) (H : bk_lh n w len lo hi) (post : Int32 → SX → Prop) (h : (0 ≤ bk_dt (bk_cf n w len) lo 30 → post (bk_dt (bk_cf n w len) lo 30) (nI n, nI len, w, pa, co, ow, ch, cl)) ∧ (¬ 0 ≤ bk_dt (bk_cf n w len) lo 30 → post (-(bk_dt (bk_cf n w len) lo 30)) (nI n, nI len, w, pa, co, ow, ch, cl))) : ∀ d t, t + d = 30 → wX_determinant_13 post (nI n) (nI len) w pa co ow ch cl (d + 1) (bk_dt (bk_cf n w len) lo t) (bk_sg t) (nI (lo - 24 + 4 * t)) := by
  obtain ⟨l1, l2, l3, l4, l5, l6, l7⟩ := H
  have hz : ∀ x, 96 < x → bk_cf n w len x = 0 := fun x hx => l7 x (by omega)
  intro d
  induction d with
  | zero =>
    intro t ht
    refine br_t (nI_le (a := 73) (by omega) (by omega)) ?_
    rw [show t = 30 by omega]
    exact h
  | succ d ih =>
    intro t ht
    by_cases c : 97 ≤ lo + 4 * t
    · refine br_t (nI_le (a := 73) (by omega) (by omega)) ?_
      rw [bk_dtD hz c (by omega)]
      exact h
    · refine br_f (nI_ge (b := 73) (by omega) (by decide)) ⟨vp_in_nI (by omega) (by decide), ?_⟩
      rw [nI_clamp (show lo - 24 + 4 * t < 2 ^ 31 by omega), hr _ (by omega), show lo - 24 + 4 * t + 24 = lo + 4 * t by omega]
      refine nm_e (nm_e (nm_r (nI_add (lo - 24 + 4 * t) 4) ?_))
      rw [show lo - 24 + 4 * t + 4 = lo - 24 + 4 * (t + 1) by omega]
      exact ih (t + 1) (by omega)
theorem yk_d13 (hr : bk_rd cf (bk_bi n w len (2 ^ len))) (H : bk_lh n w len lo hi) (post : Int32 → SY → Prop) (h : (0 ≤ bk_dt (bk_cf n w len) lo 30 → post (bk_dt (bk_cf n w len) lo 30) (nI n, nI len, kn, w, j, mn, cf, cy, cm)) ∧ (¬ 0 ≤ bk_dt (bk_cf n w len) lo 30 → post (-(bk_dt (bk_cf n w len) lo 30)) (nI n, nI len, kn, w, j, mn, cf, cy, cm))) : ∀ d t, t + d = 30 → wY_determinant_13 post (nI n) (nI len) kn w j mn cf cy cm (d + 1) (bk_dt (bk_cf n w len) lo t) (bk_sg t) (nI (lo + 4 * t) - 60) := by
  obtain ⟨l1, l2, l3, l4, l5, l6, l7⟩ := H
  have hz : ∀ x, 96 < x → bk_cf n w len x = 0 := fun x hx => l7 x (by omega)
  intro d
  induction d with
  | zero =>
    intro t ht
    refine br_t ?_ ?_
    · rw [Int32.lt_iff_toInt_lt, bk_ek (by omega), bk_ip60]
      omega
    · rw [show t = 30 by omega]
      exact h
  | succ d ih =>
    intro t ht
    by_cases c : 121 ≤ lo + 4 * t
    · refine br_t ?_ ?_
      · rw [Int32.lt_iff_toInt_lt, bk_ek (by omega), bk_ip60]
        omega
      · rw [bk_dtD hz (by omega) (by omega)]
        exact h
    · refine br_f (by rw [Int32.lt_iff_toInt_lt, bk_ek (by omega), bk_ip60]; omega) (yk_cof hr _ _ ?_)
      rw [bk_ekc (by omega)]
      refine nm_e (nm_e (nm_r (bk_ek4 (lo + 4 * t)) ?_))
      rw [show lo + 4 * t + 4 = lo + 4 * (t + 1) by omega]
      exact ih (t + 1) (by omega)
end
theorem i_vc_determinant {k : Nat} {u : SX} {v : SY} (I : i_Rel k u v) (hk : k + 3 ≤ 1537) : wpX_determinant (fun r u' => wpY_determinant (fun r' v' => r' = r ∧ i_Rel (k + 3) u' v') v) u := by
  obtain ⟨n, len, kn, w, pa, co, ow, ch, cl, j, mn, cf, cy, cm, hW, hkn, rfl, rfl⟩ := I
  obtain ⟨lo, hi, H⟩ := bk_cflh hW
  have H' : bk_lh n w len lo hi := H
  unfold wpX_determinant wpY_determinant
  dsimp only
  refine xk_make hW _ (fun pa' co' hr => ?_)
  refine xk_lp hr H' _ ?_
  refine ⟨31, xk_d13 hr H' _ (br_c (fun c => ?_) (fun c => ?_)) 30 0 (by omega)⟩
  · refine yk_work hW hkn _ (fun j' mn' cf' hm hr' => ?_)
    refine yk_lo hr' H' _ ?_
    exact ⟨31, yk_d13 hr' H' _ (br_t c ⟨rfl, bk_rel hW (Or.inr ⟨rfl, hm, hr'⟩)⟩) 30 0 (by omega)⟩
  · refine yk_work hW hkn _ (fun j' mn' cf' hm hr' => ?_)
    refine yk_lo hr' H' _ ?_
    exact ⟨31, yk_d13 hr' H' _ (br_f c ⟨rfl, bk_rel hW (Or.inr ⟨rfl, hm, hr'⟩)⟩) 30 0 (by omega)⟩
