theorem bk_ix {a u l m j c : Nat} (h : a + l + 4 * j = c + 2 * u + 2 * m) : nI c + (nI (2 * u) - nI l) + nI 2 * nI m - nI 4 * nI j = nI a := by
  have e : nI a + nI l + nI 4 * nI j = nI c + nI (2 * u) + nI 2 * nI m := by
    rw [pk_mul 4 j, pk_mul 2 m, nI_add, nI_add, nI_add, nI_add, h]
  grind
theorem bk_i36 {a u l m j : Nat} (h : a + l + 4 * j = 36 + 2 * u + 2 * m) : (36 : Int32) + (nI (2 * u) - nI l) + 2 * nI m - 4 * nI j = nI a := bk_ix (c := 36) h
theorem bk_i60 {a u l m j : Nat} (h : a + l + 4 * j = 60 + 2 * u + 2 * m) : (60 : Int32) + (nI (2 * u) - nI l) + 2 * nI m - 4 * nI j = nI a := bk_ix (c := 60) h
theorem bk_exT {w : Nat → Int32} {v : Int32} {k : Nat} (hb : bk_bt v k = true) : nI (2 * bk_eu w v k) - nI k - bk_s w k = nI (2 * bk_eu w v (k + 1)) - nI (k + 1) := by
  have e : bk_eu w v (k + 1) = bk_eu w v k + if bk_up w v k then 1 else 0 := rfl
  by_cases c : 0 < w k
  · have hu : bk_up w v k = false := by
      unfold bk_up
      rw [hb, if_pos rfl]
      exact decide_eq_false (fun q => q c)
    rw [hu, if_neg (by decide), Nat.add_zero] at e
    rw [e, show bk_s w k = 1 from if_pos c]
    exact bk_e4 _ _
  · have hu : bk_up w v k = true := by
      unfold bk_up
      rw [hb, if_pos rfl]
      exact decide_eq_true c
    rw [hu, if_pos rfl] at e
    rw [e, show bk_s w k = -1 from if_neg c]
    exact bk_e3 _ _
theorem bk_exF {w : Nat → Int32} {v : Int32} {k : Nat} (hb : bk_bt v k = false) : nI (2 * bk_eu w v k) - nI k + bk_s w k = nI (2 * bk_eu w v (k + 1)) - nI (k + 1) := by
  have e : bk_eu w v (k + 1) = bk_eu w v k + if bk_up w v k then 1 else 0 := rfl
  by_cases c : 0 < w k
  · have hu : bk_up w v k = true := by
      unfold bk_up
      rw [hb, if_neg (by decide)]
      exact decide_eq_true c
    rw [hu, if_pos rfl] at e
    rw [e, show bk_s w k = 1 from if_pos c]
    exact bk_e1 _ _
  · have hu : bk_up w v k = false := by
      unfold bk_up
      rw [hb, if_neg (by decide)]
      exact decide_eq_false c
    rw [hu, if_neg (by decide), Nat.add_zero] at e
    rw [e, show bk_s w k = -1 from if_neg c]
    exact bk_e2 _ _
def bk_rc (co : Nat → Int32) (f : Nat → Int) : Prop := ∀ y, y < 73 → co y = Int32.ofInt (f (y + 24))
def bk_rd (cf : Nat → Int32) (f : Nat → Int) : Prop := ∀ x, x < 121 → cf x = Int32.ofInt (f x)
theorem bk_rcs {co : Nat → Int32} {f : Nat → Int} {K m j : Nat} (h : bk_rc co (bk_at f K m j)) (hK : 24 + 4 * j ≤ K) (hK2 : K ≤ 96) : bk_rc (upd co (K - 24 - 4 * j) (co (K - 24 - 4 * j) + Int32.ofInt (bk_tm m j))) (bk_at f K m (j + 1)) := by
  intro y hy
  have e : bk_at f K m (j + 1) (y + 24) = if y + 24 = K - 4 * j then bk_at f K m j (y + 24) + bk_tm m j else bk_at f K m j (y + 24) := rfl
  rw [e]
  by_cases c : y = K - 24 - 4 * j
  · rw [if_pos (by omega), Int32.ofInt_add, ← h y hy, ← c]
    exact pk_us
  · rw [if_neg (by omega), pk_un c]
    exact h y hy
theorem bk_rds {cf : Nat → Int32} {f : Nat → Int} {K m j : Nat} (h : bk_rd cf (bk_at f K m j)) (hK2 : K ≤ 96) : bk_rd (upd cf (K - 4 * j) (cf (K - 4 * j) + Int32.ofInt (bk_tm m j))) (bk_at f K m (j + 1)) := by
  intro y hy
  have e : bk_at f K m (j + 1) y = if y = K - 4 * j then bk_at f K m j y + bk_tm m j else bk_at f K m j y := rfl
  rw [e]
  by_cases c : y = K - 4 * j
  · rw [if_pos c, Int32.ofInt_add, ← h y hy, ← c]
    exact pk_us
  · rw [if_neg c, pk_un c]
    exact h y hy
section
variable {n len : Nat} {w pa co ow ch cl : Nat → Int32}
theorem xk_e4 (hW : bk_W n len w) (v : Int32) (post : Int32 → Prop) (h : post (nI (2 * bk_eu w v len) - nI len)) : ∀ d k, k + d = len → wX_exponentOf_4 post v (nI n) (nI len) w pa co ow ch cl (d + 1) (nI (2 * bk_eu w v k) - nI k) (nI k) := by
  have hl := hW.2.2.1
  intro d
  induction d with
  | zero =>
    intro k hk
    have e : k = len := by omega
    rw [e]
    exact br_t (nI_le (by omega) (by omega)) h
  | succ d ih =>
    intro k hk
    have ih' := ih (k + 1) (by omega)
    refine br_f (nI_ge (by omega) (by omega)) (xk_isShut _ (fun hb => ?_) (fun hb => ?_))
    · exact br_f (by decide) (xk_sign hW (by omega) _ (nm_r (bk_exT hb) (nm_r (nI_1 k) ih')))
    · exact br_t rfl (xk_sign hW (by omega) _ (nm_r (bk_exF hb) (nm_r (nI_1 k) ih')))
theorem xk_exp (hW : bk_W n len w) (v : Int32) (post : Int32 → Prop) (h : post (nI (2 * bk_eu w v len) - nI len)) : wpX_exponentOf post (nI n, nI len, w, pa, co, ow, ch, cl) v := by
  have m := xk_e4 (pa := pa) (co := co) (ow := ow) (ch := ch) (cl := cl) hW v post h len 0 (by omega)
  have e : bk_eu w v 0 = 0 := rfl
  have e2 : nI (2 * 0) - nI 0 = 0 := by decide
  rw [e, e2] at m
  exact ⟨len + 1, m⟩
theorem xk_a15 {f : Nat → Int} {u m : Nat} (hm : m < 14) (hK : 24 + 4 * m ≤ 60 + 2 * u + 2 * m - len) (hK2 : 60 + 2 * u + 2 * m - len ≤ 96) (hl : len ≤ 10) (post : SX → Prop) (h : ∀ co', bk_rc co' (bk_at f (60 + 2 * u + 2 * m - len) m (m + 1)) → post (nI n, nI len, w, pa, co', ow, ch, cl)) : ∀ d j co, j + d = m + 1 → bk_rc co (bk_at f (60 + 2 * u + 2 * m - len) m j) → wX_addTerm_15 post (nI (2 * u) - nI len) (nI m) (nI n) (nI len) (d + 1) (Int32.ofInt (bk_tm m j)) (nI j) w pa co ow ch cl := by
  intro d
  induction d with
  | zero =>
    intro j co hj hr
    have e : j = m + 1 := by omega
    rw [e] at hr
    exact br_t (nI_lt (by omega) (by omega)) (h co hr)
  | succ d ih =>
    intro j co hj hr
    refine br_f (nI_nlt (by omega) (by omega)) ?_
    rw [bk_i36 (a := 60 + 2 * u + 2 * m - len - 24 - 4 * j) (by omega), nI_clamp (show 60 + 2 * u + 2 * m - len - 24 - 4 * j < 2 ^ 31 by omega)]
    refine ⟨vp_in_nI (by omega) (by omega), vp_in_nI (by omega) (by omega), ?_⟩
    intro a6 e6
    subst e6
    rw [nI_1 j]
    exact ⟨nI_ne0 (by omega) (by omega), nm_r (bk_tms m hm j (by omega)) (nm_e (ih (j + 1) _ (by omega) (bk_rcs hr (by omega) hK2)))⟩
theorem xk_add {f : Nat → Int} {u m : Nat} (hm : m < 14) (hK : 24 + 4 * m ≤ 60 + 2 * u + 2 * m - len) (hK2 : 60 + 2 * u + 2 * m - len ≤ 96) (hl : len ≤ 10) (hr : bk_rc co f) (post : SX → Prop) (h : ∀ co', bk_rc co' (bk_at f (60 + 2 * u + 2 * m - len) m (m + 1)) → post (nI n, nI len, w, pa, co', ow, ch, cl)) : wpX_addTerm post (nI n, nI len, w, pa, co, ow, ch, cl) (nI (2 * u) - nI len) (nI m) := by
  have er : nI m - nI m / 2 * 2 = nI (m % 2) := pk_rem (a := m) (d := 2) (by omega) (by decide) (by decide)
  have main := xk_a15 (n := n) (w := w) (pa := pa) (ow := ow) (ch := ch) (cl := cl) hm hK hK2 hl post h (m + 1) 0 co (by omega) hr
  have t := bk_tm0 m hm
  refine ⟨by decide, pk_eq (m % 2) 0 (fun c => ⟨m + 2, ?_⟩) (fun c => ⟨m + 2, ?_⟩) er rfl (by omega) (by omega)⟩
  · rw [if_pos c] at t
    rw [t] at main
    exact main
  · rw [if_neg c] at t
    rw [t] at main
    exact main
theorem xk_m23 (hW : bk_W n len w) (post : SX → Prop) (h : ∀ pa' co', bk_rc co' (bk_bi n w len (2 ^ len)) → post (nI n, nI len, w, pa', co', ow, ch, cl)) : ∀ d s pa co, s + d = 2 ^ len → bk_rc co (bk_bi n w len s) → wX_makeBracket_23 post (d + 1) (nI s) (nI n) (nI len) w pa co ow ch cl := by
  have hl := hW.2.2.1
  have hp := bk_p10 len (by omega)
  have hs := bk_pw len (by omega)
  intro d
  induction d with
  | zero =>
    intro s pa co hd hr
    have e : s = 2 ^ len := by omega
    rw [e] at hr
    refine br_t ?_ (h pa co hr)
    rw [hs]
    exact nI_le (by omega) (by omega)
  | succ d ih =>
    intro s pa co hd hr
    have hm := bk_mmR hW s
    have hK := bk_KKR hW s
    have hF := bk_FsR hW (nI s)
    refine br_f (by rw [hs]; exact nI_ge (by omega) (by omega)) (xk_exp hW (nI s) _ (xk_loops hW (nI s) _ (fun pa' => ?_)))
    refine nm_r (bk_pd hF.1) (xk_add hm hK.1 hK.2 hl hr _ (fun co' hr' => ?_))
    exact nm_r (nI_1 s) (ih (s + 1) pa' co' (by omega) hr')
theorem xk_m2 (hW : bk_W n len w) (post : SX → Prop) (h : ∀ pa' co', bk_rc co' (bk_bi n w len (2 ^ len)) → post (nI n, nI len, w, pa', co', ow, ch, cl)) : ∀ d p co, p + d = 73 → (∀ y, y < p → co y = 0) → wX_makeBracket_2 post (nI n) (nI len) (d + 1) (nI p) w pa co ow ch cl := by
  intro d
  induction d with
  | zero =>
    intro p co hp hc
    refine br_t (nI_le (a := 73) (by omega) (by omega)) ⟨2 ^ len + 1, xk_m23 hW post h (2 ^ len) 0 pa co (by omega) (fun y hy => ?_)⟩
    rw [hc y (by omega)]
    rfl
  | succ d ih =>
    intro p co hp hc
    refine br_f (nI_ge (b := 73) (by omega) (by decide)) ⟨vp_in_nI (by omega) (by omega), ?_⟩
    intro a ea
    rw [nI_clamp (by omega)] at ea
    subst ea
    refine nm_r (nI_1 p) (ih (p + 1) _ (by omega) ?_)
    intro y hy
    by_cases e : y = p
    · rw [e]
      exact pk_us
    · rw [pk_un e]
      exact hc y (by omega)
theorem xk_make (hW : bk_W n len w) (post : SX → Prop) (h : ∀ pa' co', bk_rc co' (bk_bi n w len (2 ^ len)) → post (nI n, nI len, w, pa', co', ow, ch, cl)) : wpX_makeBracket post (nI n, nI len, w, pa, co, ow, ch, cl) :=
  ⟨74, xk_m2 hW post h 73 0 co (by omega) (fun y hy => absurd hy (by omega))⟩
end
section
variable {n len : Nat} {kn : Int32} {w j mn cf cy cm : Nat → Int32}
theorem yk_e4 (hW : bk_W n len w) (v : Int32) (post : Int32 → Prop) (h : post (nI (2 * bk_eu w v len) - nI len)) : ∀ d k, k + d = len → wY_exponent_4 post v (nI n) (nI len) kn w j mn cf cy cm (d + 1) (nI (2 * bk_eu w v k) - nI k) (nI k) := by
  have hl := hW.2.2.1
  intro d
  induction d with
  | zero =>
    intro k hk
    have e : k = len := by omega
    rw [e]
    exact br_t (nI_le (by omega) (by omega)) h
  | succ d ih =>
    intro k hk
    have ih' := ih (k + 1) (by omega)
    refine br_f (nI_ge (by omega) (by omega)) (br_c (fun hb => ?_) (fun hb => ?_))
    · have e : bk_bt v k = true := decide_eq_true hb
      rw [nI_clamp (show k < 2 ^ 31 by omega)]
      refine ⟨vp_in_nI (by omega) (by omega), yk_sign hW (by omega) _ (nm_r ?_ (nm_r (nI_1 k) ih'))⟩
      rw [← Int32.sub_eq_add_neg]
      exact bk_exT e
    · have e : bk_bt v k = false := decide_eq_false hb
      rw [nI_clamp (show k < 2 ^ 31 by omega)]
      exact ⟨vp_in_nI (by omega) (by omega), yk_sign hW (by omega) _ (nm_r (bk_exF e) (nm_r (nI_1 k) ih'))⟩
theorem yk_exp (hW : bk_W n len w) (v : Int32) (post : Int32 → Prop) (h : post (nI (2 * bk_eu w v len) - nI len)) : wpY_exponent post (nI n, nI len, kn, w, j, mn, cf, cy, cm) v := by
  have m := yk_e4 (kn := kn) (j := j) (mn := mn) (cf := cf) (cy := cy) (cm := cm) hW v post h len 0 (by omega)
  have e : bk_eu w v 0 = 0 := rfl
  have e2 : nI (2 * 0) - nI 0 = 0 := by decide
  rw [e, e2] at m
  exact ⟨len + 1, m⟩
theorem yk_a15 {f : Nat → Int} {u m : Nat} (hm : m < 14) (hK : 24 + 4 * m ≤ 60 + 2 * u + 2 * m - len) (hK2 : 60 + 2 * u + 2 * m - len ≤ 96) (hl : len ≤ 10) (post : SY → Prop) (h : ∀ cf', bk_rd cf' (bk_at f (60 + 2 * u + 2 * m - len) m (m + 1)) → post (nI n, nI len, kn, w, j, mn, cf', cy, cm)) : ∀ d t cf, t + d = m + 1 → bk_rd cf (bk_at f (60 + 2 * u + 2 * m - len) m t) → wY_addPower_15 post (nI (2 * u) - nI len) (nI m) (nI n) (nI len) kn (d + 1) (Int32.ofInt (bk_tm m t)) (nI t) w j mn cf cy cm := by
  intro d
  induction d with
  | zero =>
    intro t cf hj hr
    have e : t = m + 1 := by omega
    rw [e] at hr
    exact br_t (nI_lt (by omega) (by omega)) (h cf hr)
  | succ d ih =>
    intro t cf hj hr
    refine br_f (nI_nlt (by omega) (by omega)) ?_
    rw [bk_i60 (a := 60 + 2 * u + 2 * m - len - 4 * t) (by omega), nI_clamp (show 60 + 2 * u + 2 * m - len - 4 * t < 2 ^ 31 by omega)]
    refine ⟨vp_in_nI (by omega) (by omega), vp_in_nI (by omega) (by omega), ?_⟩
    intro a6 e6
    subst e6
    rw [nI_1 t]
    exact ⟨nI_ne0 (by omega) (by omega), nm_r (bk_tms m hm t (by omega)) (nm_e (ih (t + 1) _ (by omega) (bk_rds hr hK2)))⟩
theorem yk_add {f : Nat → Int} {u m : Nat} (hm : m < 14) (hK : 24 + 4 * m ≤ 60 + 2 * u + 2 * m - len) (hK2 : 60 + 2 * u + 2 * m - len ≤ 96) (hl : len ≤ 10) (hr : bk_rd cf f) (post : SY → Prop) (h : ∀ cf', bk_rd cf' (bk_at f (60 + 2 * u + 2 * m - len) m (m + 1)) → post (nI n, nI len, kn, w, j, mn, cf', cy, cm)) : wpY_addPower post (nI n, nI len, kn, w, j, mn, cf, cy, cm) (nI (2 * u) - nI len) (nI m) := by
  have er : nI m - nI m / 2 * 2 = nI (m % 2) := pk_rem (a := m) (d := 2) (by omega) (by decide) (by decide)
  have main := yk_a15 (n := n) (kn := kn) (w := w) (j := j) (mn := mn) (cy := cy) (cm := cm) hm hK hK2 hl post h (m + 1) 0 cf (by omega) hr
  have t := bk_tm0 m hm
  refine ⟨by decide, pk_eq (m % 2) 0 (fun c => ⟨m + 2, ?_⟩) (fun c => ⟨m + 2, ?_⟩) er rfl (by omega) (by omega)⟩
  · rw [if_pos c] at t
    rw [t] at main
    exact main
  · rw [if_neg c] at t
    rw [t] at main
    exact main
def bk_rm (n len : Nat) (w mn : Nat → Int32) (s : Nat) : Prop := ∀ l, l < 16 → mn l = nI (bk_mn n w len l s)
theorem bk_rms {s : Nat} (h : bk_rm n len w mn s) : bk_rm n len w (upd mn (bk_Fs n w len (nI s)) (mn (bk_Fs n w len (nI s)) + 1)) (s + 1) := by
  intro l hl
  have e : bk_mn n w len l (s + 1) = bk_mn n w len l s + if bk_Fs n w len (nI s) = l then 1 else 0 := rfl
  rw [e]
  by_cases c : l = bk_Fs n w len (nI s)
  · rw [if_pos c.symm, ← c, pk_us, h l hl, nI_1]
  · rw [if_neg (fun q => c q.symm), pk_un c, h l hl]
    rfl
theorem yk_w57 (hW : bk_W n len w) (post : SY → Prop) (h : ∀ j' mn' cf', bk_rm n len w mn' (2 ^ len) → bk_rd cf' (bk_bi n w len (2 ^ len)) → post (nI n, nI len, kn, w, j', mn', cf', cy, cm)) : ∀ d s j mn cf, s + d = 2 ^ len → bk_rm n len w mn s → bk_rd cf (bk_bi n w len s) → wY_work_57 post (d + 1) (nI s) (nI n) (nI len) kn w j mn cf cy cm := by
  have hl := hW.2.2.1
  have hp := bk_p10 len (by omega)
  have hs := bk_pw len (by omega)
  intro d
  induction d with
  | zero =>
    intro s j mn cf hd hm hr
    have e : s = 2 ^ len := by omega
    rw [e] at hr hm
    refine br_t ?_ (h j mn cf hm hr)
    rw [hs]
    exact nI_le (by omega) (by omega)
  | succ d ih =>
    intro s j mn cf hd hm hr
    have hmm := bk_mmR hW s
    have hK := bk_KKR hW s
    have hF := bk_FsR hW (nI s)
    refine br_f (by rw [hs]; exact nI_ge (by omega) (by omega)) (yk_count hW (nI s) _ (fun j' => yk_exp hW (nI s) _ ?_))
    refine ⟨vp_in_nI (by omega) (by omega), vp_in_nI (by omega) (by omega), ?_⟩
    intro a ea
    rw [nI_clamp (show bk_Fs n w len (nI s) < 2 ^ 31 by omega)] at ea
    subst ea
    rw [bk_pd hF.1]
    refine yk_add hmm hK.1 hK.2 hl hr _ (fun cf' hr' => ?_)
    exact nm_r (nI_1 s) (ih (s + 1) j' _ cf' (by omega) (bk_rms hm) hr')
theorem yk_w36 (hW : bk_W n len w) (post : SY → Prop) (h : ∀ j' mn' cf', bk_rm n len w mn' (2 ^ len) → bk_rd cf' (bk_bi n w len (2 ^ len)) → post (nI n, nI len, kn, w, j', mn', cf', cy, cm)) (hm : bk_rm n len w mn 0) : ∀ d p cf, p + d = 121 → (∀ y, y < p → cf y = 0) → wY_work_36 post (nI n) (nI len) kn (d + 1) (nI p) w j mn cf cy cm := by
  intro d
  induction d with
  | zero =>
    intro p cf hp hc
    refine br_t (nI_le (a := 121) (by omega) (by omega)) ⟨2 ^ len + 1, yk_w57 hW post h (2 ^ len) 0 j mn cf (by omega) hm (fun y hy => ?_)⟩
    rw [hc y (by omega)]
    rfl
  | succ d ih =>
    intro p cf hp hc
    refine br_f (nI_ge (b := 121) (by omega) (by decide)) ⟨vp_in_nI (by omega) (by omega), ?_⟩
    intro a ea
    rw [nI_clamp (by omega)] at ea
    subst ea
    refine nm_r (nI_1 p) (ih (p + 1) _ (by omega) ?_)
    intro y hy
    by_cases e : y = p
    · rw [e]
      exact pk_us
    · rw [pk_un e]
      exact hc y (by omega)
theorem yk_w15 (hW : bk_W n len w) (post : SY → Prop) (h : ∀ j' mn' cf', bk_rm n len w mn' (2 ^ len) → bk_rd cf' (bk_bi n w len (2 ^ len)) → post (nI n, nI len, kn, w, j', mn', cf', cy, cm)) : ∀ d p mn, p + d = 16 → (∀ y, y < p → mn y = 0) → wY_work_15 post (nI n) (nI len) kn (d + 1) (nI p) w j mn cf cy cm := by
  intro d
  induction d with
  | zero =>
    intro p mn hp hc
    exact br_t (nI_le (a := 16) (by omega) (by omega)) ⟨122, yk_w36 hW post h (fun l hl => hc l (by omega)) 121 0 cf (by omega) (fun y hy => absurd hy (by omega))⟩
  | succ d ih =>
    intro p mn hp hc
    refine br_f (nI_ge (b := 16) (by omega) (by decide)) ⟨vp_in_nI (by omega) (by omega), ?_⟩
    intro a ea
    rw [nI_clamp (by omega)] at ea
    subst ea
    refine nm_r (nI_1 p) (ih (p + 1) _ (by omega) ?_)
    intro y hy
    by_cases e : y = p
    · rw [e]
      exact pk_us
    · rw [pk_un e]
      exact hc y (by omega)
def bk_kn (n len : Nat) (kn : Int32) (w mn cf : Nat → Int32) : Prop := kn = 0 ∨ (kn = 1 ∧ bk_rm n len w mn (2 ^ len) ∧ bk_rd cf (bk_bi n w len (2 ^ len)))
theorem yk_work (hW : bk_W n len w) (hk : bk_kn n len kn w mn cf) (post : SY → Prop) (h : ∀ j' mn' cf', bk_rm n len w mn' (2 ^ len) → bk_rd cf' (bk_bi n w len (2 ^ len)) → post (nI n, nI len, 1, w, j', mn', cf', cy, cm)) : wpY_work post (nI n, nI len, kn, w, j, mn, cf, cy, cm) := by
  rcases hk with e | ⟨e, hm, hr⟩
  · subst e
    exact br_t rfl ⟨17, yk_w15 hW post h 16 0 mn (by omega) (fun y hy => absurd hy (by omega))⟩
  · subst e
    exact br_f (by decide) (h j mn cf hm hr)
end
