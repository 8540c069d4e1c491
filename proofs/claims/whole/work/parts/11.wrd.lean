def i_Rel (k : Nat) (u : SX) (v : SY) : Prop := ∃ (n len : Nat) (kn : Int32) (w pa co ow ch cl j mn cf cy cm : Nat → Int32), bk_W n len w ∧ bk_kn n len kn w mn cf ∧ u = (nI n, nI len, w, pa, co, ow, ch, cl) ∧ v = (nI n, nI len, kn, w, j, mn, cf, cy, cm)
theorem i_up {k : Nat} {u : SX} {v : SY} (h : i_Rel k u v) : i_Rel (k + 3) u v := h
theorem bk_rel {k n len : Nat} {kn : Int32} {w pa co ow ch cl j mn cf cy cm : Nat → Int32} (hW : bk_W n len w) (hk : bk_kn n len kn w mn cf) : i_Rel k (nI n, nI len, w, pa, co, ow, ch, cl) (nI n, nI len, kn, w, j, mn, cf, cy, cm) :=
  ⟨n, len, kn, w, pa, co, ow, ch, cl, j, mn, cf, cy, cm, hW, hk, rfl, rfl⟩
theorem bk_W0 {n : Nat} {w : Nat → Int32} (h2 : 2 ≤ n) (h4 : n ≤ 4) : bk_W n 0 w := ⟨h2, h4, by omega, fun k hk => absurd hk (by omega)⟩
theorem bk_i2 : (2 : Int32).toInt = 2 := by decide
theorem i_vc0 (k0 : Int32) : wpX_init (fun u => wpY_init (fun v => i_Rel 1 u v) k0) k0 := by
  refine br_c (fun h2 => br_c (fun h4 => br_t h2 (br_t h4 ?_)) (fun h4 => br_t h2 (br_f h4 ?_))) (fun h2 => br_f h2 ?_)
  · have h0 : ¬ k0 < 0 := by
      rw [Int32.lt_iff_toInt_lt, bk_i0]
      rw [Int32.le_iff_toInt_le, bk_i2] at h2
      omega
    obtain ⟨m, hm, rfl⟩ := nI_of2 (M := 4) (n := 4) (by decide) h0 h4
    have hm2 : 2 ≤ m := (nI_leI (a := 2) (b := m) (by decide) (by omega)).mp h2
    exact bk_rel (n := m) (len := 0) (bk_W0 hm2 hm) (Or.inl rfl)
  · exact bk_rel (n := 4) (len := 0) (bk_W0 (by decide) (by decide)) (Or.inl rfl)
  · exact bk_rel (n := 2) (len := 0) (bk_W0 (by decide) (by decide)) (Or.inl rfl)
theorem bk_Wadd {n len : Nat} {w : Nat → Int32} {x : Int32} (hW : bk_W n len w) (hl : len < 10) (hx : bk_L n x) : bk_W n (len + 1) (upd w len x) := by
  refine ⟨hW.1, hW.2.1, by omega, fun k hk => ?_⟩
  by_cases e : k = len
  · rw [e, pk_us]
    exact hx
  · rw [pk_un e]
    exact hW.2.2.2 k (by omega)
section
variable {n len : Nat} {kn : Int32} {w pa co ow ch cl j mn cf cy cm : Nat → Int32}
theorem xk_add1 {x : Int32} (hW : bk_W n len w) (hl : len < 10) (hx : bk_L n x) (post : Int32 → SX → Prop) (h : post (nI (len + 1)) (nI n, nI (len + 1), upd w len x, pa, co, ow, ch, cl)) : wpX_add post (nI n, nI len, w, pa, co, ow, ch, cl) x := by
  obtain ⟨a1, a2, a3, a4, a5, a6⟩ := bk_Lin hW.2.1 hx
  refine br_f a1 (br_f a3 (br_t a4 (br_t (nI_lt (b := 10) hl (by decide)) ⟨vp_in_nI hl (by decide), ?_⟩)))
  intro a ea
  rw [nI_clamp (by omega)] at ea
  subst ea
  exact nm_r (nI_1 len) h
theorem yk_add1 {x : Int32} (hW : bk_W n len w) (hl : len < 10) (hx : bk_L n x) (post : Int32 → SY → Prop) (h : post (nI (len + 1)) (nI n, nI (len + 1), 0, upd w len x, j, mn, cf, cy, cm)) : wpY_add post (nI n, nI len, kn, w, j, mn, cf, cy, cm) x := by
  obtain ⟨a1, a2, a3, a4, a5, a6⟩ := bk_Lin hW.2.1 hx
  refine br_f a1 (br_f a5 (br_t a2 (br_f (fun q => ?_) ⟨vp_in_nI hl (by decide), ?_⟩)))
  · have q' := (nI_eq (a := len) (b := 10) (by omega) (by decide)).mp q
    omega
  · intro a ea
    rw [nI_clamp (by omega)] at ea
    subst ea
    exact nm_r (nI_1 len) h
end
theorem i_vc_add {k : Nat} {u : SX} {v : SY} (I : i_Rel k u v) (hk : k + 3 ≤ 1537) (v1 : Int32) : wpX_add (fun r u' => wpY_add (fun r' v' => r' = r ∧ i_Rel (k + 3) u' v') v v1) u v1 := by
  obtain ⟨n, len, kn, w, pa, co, ow, ch, cl, j, mn, cf, cy, cm, hW, hkn, rfl, rfl⟩ := I
  have h2n := hW.1
  have h4 := hW.2.1
  have hl := hW.2.2.1
  by_cases h0 : v1 = 0
  · exact br_t h0 (br_t h0 ⟨rfl, bk_rel hW hkn⟩)
  by_cases h1 : nI n ≤ v1
  · have h3 : ¬ v1 ≤ -nI n := by
      rw [Int32.le_iff_toInt_le, sb_negT (by omega)]
      rw [Int32.le_iff_toInt_le, nI_toInt (by omega)] at h1
      omega
    exact br_f h0 (br_t h1 (br_f h0 (br_f h3 (br_f (Int32.not_lt.mpr h1) ⟨rfl, bk_rel hW hkn⟩))))
  by_cases h2 : -nI n < v1
  · have hx : bk_L n v1 := bk_Lof h4 h0 (Int32.not_le.mp h1) h2
    by_cases h10 : len < 10
    · exact xk_add1 hW h10 hx _ (yk_add1 hW h10 hx _ ⟨rfl, bk_rel (bk_Wadd hW h10 hx) (Or.inl rfl)⟩)
    · have e : len = 10 := by omega
      subst e
      exact br_f h0 (br_f h1 (br_t h2 (br_f (by decide) (br_f h0 (br_f (Int32.not_le.mpr h2) (br_t (Int32.not_le.mp h1) (br_t rfl ⟨rfl, bk_rel hW hkn⟩)))))))
  · exact br_f h0 (br_f h1 (br_f h2 (br_f h0 (br_t (Int32.not_lt.mp h2) ⟨rfl, bk_rel hW hkn⟩))))
def bk_dr (w : Nat → Int32) (k : Nat) : Nat → (Nat → Int32)
  | 0 => w
  | t + 1 => upd (bk_dr w k t) (k + t) (bk_dr w k t (k + t + 1))
theorem bk_drL {n len k : Nat} {w : Nat → Int32} (h : ∀ x, x < len → bk_L n (w x)) : ∀ t, k + t < len → ∀ x, x < len → bk_L n (bk_dr w k t x) := by
  intro t
  induction t with
  | zero => exact fun _ => h
  | succ t ih =>
    intro ht x hx
    show bk_L n (upd (bk_dr w k t) (k + t) (bk_dr w k t (k + t + 1)) x)
    by_cases e : x = k + t
    · rw [e, pk_us]
      exact ih (by omega) _ (by omega)
    · rw [pk_un e]
      exact ih (by omega) x hx
theorem bk_Wdr {n len k : Nat} {w : Nat → Int32} (hW : bk_W n len w) (hk : k < len) : bk_W n (len - 1) (bk_dr w k (len - 1 - k)) :=
  ⟨hW.1, hW.2.1, by have := hW.2.2.1; omega, fun x hx => bk_drL hW.2.2.2 (len - 1 - k) (by omega) x (by omega)⟩
section
variable {n len : Nat} {kn : Int32} {w pa co ow ch cl j mn cf cy cm : Nat → Int32}
theorem xk_d27 {k : Nat} (hl : len ≤ 10) (post : Int32 → SX → Prop) (r : Int32) (h : post r (nI n, nI (len - 1), bk_dr w k (len - 1 - k), pa, co, ow, ch, cl)) : ∀ d t, k + 1 + t + d = len → wX_drop_27 post r (nI n) (nI len) (d + 1) (nI (k + 1 + t)) (bk_dr w k t) pa co ow ch cl := by
  intro d
  induction d with
  | zero =>
    intro t ht
    have e : t = len - 1 - k := by omega
    rw [← e] at h
    exact br_t (nI_le (by omega) (by omega)) (nm_r (bk_pd (by omega)) h)
  | succ d ih =>
    intro t ht
    have e : nI (k + 1 + t) - 1 = nI (k + t) := by
      rw [bk_pd (by omega)]
      congr 1
      omega
    refine br_f (nI_ge (by omega) (by omega)) ?_
    rw [e, nI_clamp (show k + 1 + t < 2 ^ 31 by omega), nI_clamp (show k + t < 2 ^ 31 by omega)]
    refine ⟨vp_in_nI (by omega) (by omega), vp_in_nI (by omega) (by omega), ?_⟩
    intro a ea
    rw [show k + 1 + t = k + t + 1 by omega] at ea
    subst ea
    exact nm_r (nI_1 _) (ih (t + 1) (by omega))
theorem xk_drop {k : Nat} (hl : len ≤ 10) (hk : k < len) (post : Int32 → SX → Prop) (h : post (w k) (nI n, nI (len - 1), bk_dr w k (len - 1 - k), pa, co, ow, ch, cl)) : wpX_drop post (nI n, nI len, w, pa, co, ow, ch, cl) (nI k) := by
  refine br_f (nI_pos (by omega)) (br_t (nI_lt hk (by omega)) ⟨vp_in_nI (by omega) (by omega), ?_⟩)
  rw [nI_clamp (by omega)]
  exact nm_e (nm_r (nI_1 k) ⟨len - 1 - k + 1, xk_d27 hl post _ h (len - 1 - k) 0 (by omega)⟩)
theorem yk_d21 {k : Nat} (hl : len ≤ 10) (post : Int32 → SY → Prop) (r : Int32) (h : post r (nI n, nI (len - 1), 0, bk_dr w k (len - 1 - k), j, mn, cf, cy, cm)) : ∀ d t, k + 1 + t + d = len → wY_drop_21 post r (nI n) (nI len) kn (d + 1) (nI (k + t)) (bk_dr w k t) j mn cf cy cm := by
  intro d
  induction d with
  | zero =>
    intro t ht
    have e : t = len - 1 - k := by omega
    rw [← e] at h
    refine br_t ?_ (nm_r (bk_pd (by omega)) h)
    rw [bk_pd (by omega)]
    exact nI_le (by omega) (by omega)
  | succ d ih =>
    intro t ht
    refine br_f (by rw [bk_pd (by omega)]; exact nI_ge (by omega) (by omega)) ?_
    rw [nI_1, nI_clamp (show k + t < 2 ^ 31 by omega), nI_clamp (show k + t + 1 < 2 ^ 31 by omega)]
    refine ⟨vp_in_nI (by omega) (by omega), vp_in_nI (by omega) (by omega), ?_⟩
    intro a ea
    subst ea
    exact nm_e (ih (t + 1) (by omega))
theorem yk_is1 {k : Nat} (hl : len ≤ 10) (hk : k < len) (post : Int32 → Prop) (h : post 1) : wpY_is post (nI n, nI len, kn, w, j, mn, cf, cy, cm) (nI k) :=
  br_f (nI_pos (by omega)) (br_f (nI_ge hk (by omega)) h)
theorem yk_drop {k : Nat} (hl : len ≤ 10) (hk : k < len) (post : Int32 → SY → Prop) (h : post (w k) (nI n, nI (len - 1), 0, bk_dr w k (len - 1 - k), j, mn, cf, cy, cm)) : wpY_drop post (nI n, nI len, kn, w, j, mn, cf, cy, cm) (nI k) := by
  unfold wpY_drop
  dsimp only
  refine yk_is1 hl hk _ ?_
  refine br_f (by decide) ⟨vp_in_nI (by omega) (by omega), ?_⟩
  rw [nI_clamp (by omega)]
  exact nm_e ⟨len - 1 - k + 1, yk_d21 hl post _ h (len - 1 - k) 0 (by omega)⟩
end
theorem i_vc_drop {k : Nat} {u : SX} {v : SY} (I : i_Rel k u v) (hk : k + 3 ≤ 1537) (v1 : Int32) : wpX_drop (fun r u' => wpY_drop (fun r' v' => r' = r ∧ i_Rel (k + 3) u' v') v v1) u v1 := by
  obtain ⟨n, len, kn, w, pa, co, ow, ch, cl, j, mn, cf, cy, cm, hW, hkn, rfl, rfl⟩ := I
  have hl := hW.2.2.1
  rcases pk_ix v1 (n := len) (by omega) with h | h | ⟨i, hi, rfl⟩
  · exact br_t h (br_t h (br_t rfl ⟨rfl, bk_rel hW hkn⟩))
  · have h0 : ¬ v1 < 0 := by
      rw [Int32.le_iff_toInt_le, nI_toInt (by omega)] at h
      rw [Int32.lt_iff_toInt_lt, bk_i0]
      omega
    exact br_f h0 (br_f (Int32.not_lt.mpr h) (br_f h0 (br_t h (br_t rfl ⟨rfl, bk_rel hW hkn⟩))))
  · exact xk_drop hl hi _ (yk_drop hl hi _ ⟨rfl, bk_rel (bk_Wdr hW hi) (Or.inl rfl)⟩)
theorem i_vc_turn {k : Nat} {u : SX} {v : SY} (I : i_Rel k u v) (hk : k + 3 ≤ 1537) : wpX_turn (fun r u' => wpY_turn (fun r' v' => r' = r ∧ i_Rel (k + 3) u' v') v) u := by
  obtain ⟨n, len, kn, w, pa, co, ow, ch, cl, j, mn, cf, cy, cm, hW, hkn, rfl, rfl⟩ := I
  have hl := hW.2.2.1
  by_cases h0 : len = 0
  · subst h0
    exact br_f (by decide) (br_f (by decide) (br_t rfl (br_t rfl ⟨rfl, bk_rel hW hkn⟩)))
  · have hL := hW.2.2.2 0 (by omega)
    have hW2 := bk_Wdr hW (k := 0) (by omega)
    have hm := (bk_Lin hW.2.1 hL).2.2.2.2.2
    unfold wpX_turn wpY_turn
    dsimp only
    refine xk_drop (k := 0) hl (by omega) _ ?_
    refine br_f hm ?_
    refine xk_add1 hW2 (by omega) hL _ ?_
    refine br_f (nI_ne0 (by omega) (by omega)) ?_
    refine yk_drop (k := 0) hl (by omega) _ ?_
    refine yk_add1 hW2 (by omega) hL _ ?_
    exact ⟨rfl, bk_rel (bk_Wadd hW2 (by omega) hL) (Or.inl rfl)⟩
def bk_mi (w : Nat → Int32) : Nat → (Nat → Int32)
  | 0 => w
  | t + 1 => upd (bk_mi w t) t (-(bk_mi w t t))
theorem bk_miL {n len : Nat} {w : Nat → Int32} (h : ∀ x, x < len → bk_L n (w x)) : ∀ t, t ≤ len → ∀ x, x < len → bk_L n (bk_mi w t x) := by
  intro t
  induction t with
  | zero => exact fun _ => h
  | succ t ih =>
    intro ht x hx
    show bk_L n (upd (bk_mi w t) t (-(bk_mi w t t)) x)
    by_cases e : x = t
    · rw [e, pk_us]
      exact bk_Lneg (ih (by omega) _ (by omega))
    · rw [pk_un e]
      exact ih (by omega) x hx
section
variable {n len : Nat} {kn : Int32} {w pa co ow ch cl j mn cf cy cm : Nat → Int32}
theorem xk_mi (hl : len ≤ 10) (post : Int32 → SX → Prop) (h : post (nI len) (nI n, nI len, bk_mi w len, pa, co, ow, ch, cl)) : ∀ d t, t + d = len → wX_mirror_2 post (nI n) (nI len) (d + 1) (nI t) (bk_mi w t) pa co ow ch cl := by
  intro d
  induction d with
  | zero =>
    intro t ht
    have e : t = len := by omega
    rw [e]
    exact br_t (nI_le (by omega) (by omega)) h
  | succ d ih =>
    intro t ht
    refine br_f (nI_ge (by omega) (by omega)) ?_
    rw [nI_clamp (show t < 2 ^ 31 by omega)]
    refine ⟨vp_in_nI (by omega) (by omega), vp_in_nI (by omega) (by omega), ?_⟩
    intro a ea
    subst ea
    exact nm_r (nI_1 t) (ih (t + 1) (by omega))
theorem yk_mi (hl : len ≤ 10) (post : Int32 → SY → Prop) (h : post (nI len) (nI n, nI len, 0, bk_mi w len, j, mn, cf, cy, cm)) : ∀ d t, t + d = len → wY_mirror_2 post (nI n) (nI len) kn (d + 1) (nI t) (bk_mi w t) j mn cf cy cm := by
  intro d
  induction d with
  | zero =>
    intro t ht
    have e : t = len := by omega
    rw [e]
    exact br_t (nI_le (by omega) (by omega)) h
  | succ d ih =>
    intro t ht
    refine br_f (nI_ge (by omega) (by omega)) ?_
    rw [nI_clamp (show t < 2 ^ 31 by omega)]
    refine ⟨vp_in_nI (by omega) (by omega), vp_in_nI (by omega) (by omega), ?_⟩
    intro a ea
    subst ea
    exact nm_r (nI_1 t) (ih (t + 1) (by omega))
end
theorem i_vc_mirror {k : Nat} {u : SX} {v : SY} (I : i_Rel k u v) (hk : k + 3 ≤ 1537) : wpX_mirror (fun r u' => wpY_mirror (fun r' v' => r' = r ∧ i_Rel (k + 3) u' v') v) u := by
  obtain ⟨n, len, kn, w, pa, co, ow, ch, cl, j, mn, cf, cy, cm, hW, hkn, rfl, rfl⟩ := I
  have hl := hW.2.2.1
  refine ⟨len + 1, xk_mi hl _ ⟨len + 1, yk_mi hl _ ⟨rfl, ?_⟩ len 0 (by omega)⟩ len 0 (by omega)⟩
  exact bk_rel ⟨hW.1, hW.2.1, hl, bk_miL hW.2.2.2 len (Nat.le_refl _)⟩ (Or.inl rfl)
def bk_re (w : Nat → Int32) (len : Nat) : Nat → (Nat → Int32)
  | 0 => w
  | t + 1 => upd (upd (bk_re w len t) t (bk_re w len t (len - 1 - t))) (len - 1 - t) (bk_re w len t t)
theorem bk_reL {n len : Nat} {w : Nat → Int32} (h : ∀ x, x < len → bk_L n (w x)) : ∀ t, t ≤ len → ∀ x, x < len → bk_L n (bk_re w len t x) := by
  intro t
  induction t with
  | zero => exact fun _ => h
  | succ t ih =>
    intro ht x hx
    show bk_L n (upd (upd (bk_re w len t) t (bk_re w len t (len - 1 - t))) (len - 1 - t) (bk_re w len t t) x)
    by_cases e : x = len - 1 - t
    · rw [e, pk_us]
      exact ih (by omega) _ (by omega)
    · rw [pk_un e]
      by_cases e2 : x = t
      · rw [e2, pk_us]
        exact ih (by omega) _ (by omega)
      · rw [pk_un e2]
        exact ih (by omega) x hx
theorem bk_hf {len : Nat} (hl : len ≤ 10) : nI len / 2 = nI (len / 2) := pk_div (a := len) (d := 2) (by omega) (by decide) (by decide)
theorem bk_rs {len t : Nat} (ht : t < len) : nI len - 1 - nI t = nI (len - 1 - t) := by
  rw [bk_pd (by omega)]
  exact pk_sub (by omega)
section
variable {n len : Nat} {kn : Int32} {w pa co ow ch cl j mn cf cy cm : Nat → Int32}
theorem xk_re (hl : len ≤ 10) (post : Int32 → SX → Prop) (h : post (nI len) (nI n, nI len, bk_re w len (len / 2), pa, co, ow, ch, cl)) : ∀ d t, t + d = len / 2 → wX_reverse_2 post (nI n) (nI len) (d + 1) (nI t) (bk_re w len t) pa co ow ch cl := by
  intro d
  induction d with
  | zero =>
    intro t ht
    have e : t = len / 2 := by omega
    rw [e]
    refine ⟨by decide, br_t ?_ h⟩
    rw [bk_hf hl]
    exact nI_le (by omega) (by omega)
  | succ d ih =>
    intro t ht
    refine ⟨by decide, br_f (by rw [bk_hf hl]; exact nI_ge (by omega) (by omega)) ?_⟩
    rw [bk_rs (show t < len by omega), nI_clamp (show t < 2 ^ 31 by omega), nI_clamp (show len - 1 - t < 2 ^ 31 by omega)]
    refine ⟨vp_in_nI (by omega) (by omega), nm_e ⟨vp_in_nI (by omega) (by omega), vp_in_nI (by omega) (by omega), ?_⟩⟩
    intro a ea
    refine ⟨vp_in_nI (by omega) (by omega), ?_⟩
    intro b eb
    subst ea
    subst eb
    exact nm_r (nI_1 t) (ih (t + 1) (by omega))
theorem yk_re (hl : len ≤ 10) (post : Int32 → SY → Prop) (h : post (nI len) (nI n, nI len, 0, bk_re w len (len / 2), j, mn, cf, cy, cm)) : ∀ d t, t + d = len / 2 → wY_reverse_2 post (nI n) (nI len) kn (d + 1) (nI t) (bk_re w len t) j mn cf cy cm := by
  intro d
  induction d with
  | zero =>
    intro t ht
    have e : t = len / 2 := by omega
    rw [e]
    refine ⟨by decide, br_t ?_ h⟩
    rw [bk_hf hl]
    exact nI_le (by omega) (by omega)
  | succ d ih =>
    intro t ht
    refine ⟨by decide, br_f (by rw [bk_hf hl]; exact nI_ge (by omega) (by omega)) ?_⟩
    rw [bk_rs (show t < len by omega), nI_clamp (show t < 2 ^ 31 by omega), nI_clamp (show len - 1 - t < 2 ^ 31 by omega)]
    refine ⟨vp_in_nI (by omega) (by omega), nm_e ⟨vp_in_nI (by omega) (by omega), vp_in_nI (by omega) (by omega), ?_⟩⟩
    intro a ea
    refine ⟨vp_in_nI (by omega) (by omega), ?_⟩
    intro b eb
    subst ea
    subst eb
    exact nm_r (nI_1 t) (ih (t + 1) (by omega))
end
theorem i_vc_reverse {k : Nat} {u : SX} {v : SY} (I : i_Rel k u v) (hk : k + 3 ≤ 1537) : wpX_reverse (fun r u' => wpY_reverse (fun r' v' => r' = r ∧ i_Rel (k + 3) u' v') v) u := by
  obtain ⟨n, len, kn, w, pa, co, ow, ch, cl, j, mn, cf, cy, cm, hW, hkn, rfl, rfl⟩ := I
  have hl := hW.2.2.1
  refine ⟨len / 2 + 1, xk_re hl _ ⟨len / 2 + 1, yk_re hl _ ⟨rfl, ?_⟩ (len / 2) 0 (by omega)⟩ (len / 2) 0 (by omega)⟩
  exact bk_rel ⟨hW.1, hW.2.1, hl, bk_reL hW.2.2.2 (len / 2) (by omega)⟩ (Or.inl rfl)
theorem i_vc_letter {k : Nat} {u : SX} {v : SY} (I : i_Rel k u v) (hk : k + 3 ≤ 1537) (v1 : Int32) : wpX_letter (fun r => wpY_letter (fun r' => r' = r ∧ i_Rel (k + 3) u v) v v1) u v1 := by
  obtain ⟨n, len, kn, w, pa, co, ow, ch, cl, j, mn, cf, cy, cm, hW, hkn, rfl, rfl⟩ := I
  have hl := hW.2.2.1
  rcases pk_ix v1 (n := len) (by omega) with h | h | ⟨i, hi, rfl⟩
  · exact br_t h (br_t h (br_t rfl ⟨rfl, bk_rel hW hkn⟩))
  · have h0 : ¬ v1 < 0 := by
      rw [Int32.le_iff_toInt_le, nI_toInt (by omega)] at h
      rw [Int32.lt_iff_toInt_lt, bk_i0]
      omega
    exact br_f h0 (br_f (Int32.not_lt.mpr h) (br_f h0 (br_t h (br_t rfl ⟨rfl, bk_rel hW hkn⟩))))
  · refine br_f (nI_pos (by omega)) (br_t (nI_lt hi (by omega)) ⟨vp_in_nI (by omega) (by omega), ?_⟩)
    unfold wpY_letter
    dsimp only
    refine yk_is1 hl hi _ ?_
    exact br_f (by decide) ⟨vp_in_nI (by omega) (by omega), rfl, bk_rel hW hkn⟩
def bk_wr (w : Nat → Int32) : Nat → Int32
  | 0 => 0
  | k + 1 => bk_wr w k + bk_s w k
section
variable {n len : Nat} {kn : Int32} {w pa co ow ch cl j mn cf cy cm : Nat → Int32}
theorem xk_wr4 (hW : bk_W n len w) (post : Int32 → Prop) (h : post (bk_wr w len)) : ∀ d t, t + d = len → wX_writhe_4 post (nI n) (nI len) w pa co ow ch cl (d + 1) (bk_wr w t) (nI t) := by
  have hl := hW.2.2.1
  intro d
  induction d with
  | zero =>
    intro t ht
    have e : t = len := by omega
    rw [e]
    exact br_t (nI_le (by omega) (by omega)) h
  | succ d ih =>
    intro t ht
    exact br_f (nI_ge (by omega) (by omega)) (xk_sign hW (by omega) _ (nm_e (nm_r (nI_1 t) (ih (t + 1) (by omega)))))
theorem xk_wr (hW : bk_W n len w) (post : Int32 → Prop) (h : post (bk_wr w len)) : wpX_writhe post (nI n, nI len, w, pa, co, ow, ch, cl) :=
  ⟨len + 1, xk_wr4 hW post h len 0 (by omega)⟩
theorem yk_wr4 (hW : bk_W n len w) (post : Int32 → Prop) (h : post (bk_wr w len)) : ∀ d t, t + d = len → wY_writhe_4 post (nI n) (nI len) kn w j mn cf cy cm (d + 1) (bk_wr w t) (nI t) := by
  have hl := hW.2.2.1
  intro d
  induction d with
  | zero =>
    intro t ht
    have e : t = len := by omega
    rw [e]
    exact br_t (nI_le (by omega) (by omega)) h
  | succ d ih =>
    intro t ht
    refine br_f (nI_ge (by omega) (by omega)) ?_
    rw [nI_clamp (show t < 2 ^ 31 by omega)]
    exact ⟨vp_in_nI (by omega) (by omega), yk_sign hW (by omega) _ (nm_e (nm_r (nI_1 t) (ih (t + 1) (by omega))))⟩
theorem yk_wr (hW : bk_W n len w) (post : Int32 → Prop) (h : post (bk_wr w len)) : wpY_writhe post (nI n, nI len, kn, w, j, mn, cf, cy, cm) :=
  ⟨len + 1, yk_wr4 hW post h len 0 (by omega)⟩
end
theorem i_vc_writhe {k : Nat} {u : SX} {v : SY} (I : i_Rel k u v) (hk : k + 3 ≤ 1537) : wpX_writhe (fun r => wpY_writhe (fun r' => r' = r ∧ i_Rel (k + 3) u v) v) u := by
  obtain ⟨n, len, kn, w, pa, co, ow, ch, cl, j, mn, cf, cy, cm, hW, hkn, rfl, rfl⟩ := I
  exact xk_wr hW _ (yk_wr hW _ ⟨rfl, bk_rel hW hkn⟩)
theorem i_vc_loops {k : Nat} {u : SX} {v : SY} (I : i_Rel k u v) (hk : k + 3 ≤ 1537) (v1 : Int32) : wpX_loops (fun r u' => wpY_loops (fun r' v' => r' = r ∧ i_Rel (k + 3) u' v') v v1) u v1 := by
  obtain ⟨n, len, kn, w, pa, co, ow, ch, cl, j, mn, cf, cy, cm, hW, hkn, rfl, rfl⟩ := I
  exact xk_loops hW v1 _ (fun pa' => yk_loops hW v1 _ (fun j' => ⟨rfl, bk_rel hW hkn⟩))
