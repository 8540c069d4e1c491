section
variable {n len : Nat} {kn : Int32} {w pa co ow ch cl j mn cf cy cm : Nat → Int32}
theorem xk_en20 (hW : bk_W n len w) {p : Nat} (hp : p < n) (post : Int32 → Prop) (h : post (nI (bk_en (bk_z w) p len))) : ∀ d t, t + d = len → wX_ends_20 post (nI n) (nI len) w pa co ow ch cl (d + 1) (nI (bk_en (bk_z w) p t)) (nI t) := by
  have h4 := hW.2.1
  have hl := hW.2.2.1
  intro d
  induction d with
  | zero =>
    intro t ht
    have e : t = len := by omega
    rw [e]
    exact br_t (nI_le (by omega) (by omega)) h
  | succ d ih =>
    intro t ht
    have ih' := ih (t + 1) (by omega)
    have hz := bk_Wz hW t (by omega)
    have hb := bk_enl hW.1 h4 (bk_Wz hW) hp t (by omega)
    have es : bk_en (bk_z w) p (t + 1) = if bk_en (bk_z w) p t = bk_z w t then bk_z w t - 1 else if bk_en (bk_z w) p t + 1 = bk_z w t then bk_z w t else bk_en (bk_z w) p t := rfl
    refine br_f (nI_ge (by omega) (by omega)) (xk_right hW (by omega) _ ?_)
    refine pk_eq (bk_en (bk_z w) p t) (bk_z w t) (fun e => ?_) (fun e => pk_eq (bk_en (bk_z w) p t) (bk_z w t - 1) (fun e2 => ?_) (fun e2 => ?_) rfl (bk_pd hz.1) (by omega) (by omega)) rfl rfl (by omega) (by omega)
    · rw [es, if_pos e] at ih'
      exact nm_r (bk_pd hz.1) (nm_r (nI_1 t) ih')
    · rw [es, if_neg e, if_pos (by omega)] at ih'
      exact nm_r (nI_1 t) ih'
    · rw [es, if_neg e, if_neg (by omega)] at ih'
      exact nm_r (nI_1 t) ih'
theorem xk_ends (hW : bk_W n len w) {p : Nat} (hp : p < n) (post : Int32 → Prop) (h : post (nI (bk_en (bk_z w) p len))) : wpX_ends post (nI n, nI len, w, pa, co, ow, ch, cl) (nI p) := by
  have h4 := hW.2.1
  exact br_f (nI_pos (by omega)) (br_t (nI_lt hp (by omega)) ⟨len + 1, xk_en20 hW hp post h len 0 (by omega)⟩)
theorem yk_en4 (hW : bk_W n len w) {p : Nat} (hp : p < n) (post : Int32 → Prop) (h : post (nI (bk_en (bk_z w) p len))) : ∀ d t, t + d = len → wY_end_4 post (nI n) (nI len) kn w j mn cf cy cm (d + 1) (nI (bk_en (bk_z w) p t)) (nI t) := by
  have h4 := hW.2.1
  have hl := hW.2.2.1
  intro d
  induction d with
  | zero =>
    intro t ht
    have e : t = len := by omega
    rw [e]
    exact br_t (nI_le (by omega) (by omega)) h
  | succ d ih =>
    intro t ht
    have ih' := ih (t + 1) (by omega)
    have hz := bk_Wz hW t (by omega)
    have hb := bk_enl hW.1 h4 (bk_Wz hW) hp t (by omega)
    have es : bk_en (bk_z w) p (t + 1) = if bk_en (bk_z w) p t = bk_z w t then bk_z w t - 1 else if bk_en (bk_z w) p t + 1 = bk_z w t then bk_z w t else bk_en (bk_z w) p t := rfl
    refine br_f (nI_ge (by omega) (by omega)) ?_
    rw [nI_clamp (show t < 2 ^ 31 by omega)]
    refine ⟨vp_in_nI (by omega) (by omega), yk_size hW (by omega) _ ?_⟩
    refine pk_eq (bk_en (bk_z w) p t) (bk_z w t) (fun e => ?_) (fun e => pk_eq (bk_en (bk_z w) p t) (bk_z w t - 1) (fun e2 => ?_) (fun e2 => ?_) rfl (bk_pd hz.1) (by omega) (by omega)) rfl rfl (by omega) (by omega)
    · rw [es, if_pos e] at ih'
      exact nm_r (bk_pd hz.1) (nm_r (nI_1 t) ih')
    · rw [es, if_neg e, if_pos (by omega)] at ih'
      exact nm_r (nI_1 t) ih'
    · rw [es, if_neg e, if_neg (by omega)] at ih'
      exact nm_r (nI_1 t) ih'
theorem yk_end (hW : bk_W n len w) {p : Nat} (hp : p < n) (post : Int32 → Prop) (h : post (nI (bk_en (bk_z w) p len))) : wpY_end post (nI n, nI len, kn, w, j, mn, cf, cy, cm) (nI p) :=
  ⟨len + 1, yk_en4 hW hp post h len 0 (by omega)⟩
theorem yk_isp {p : Nat} (h4 : n ≤ 4) (hp : p < n) (post : Int32 → Prop) (h : post 1) : wpY_isPosition post (nI n, nI len, kn, w, j, mn, cf, cy, cm) (nI p) :=
  br_f (nI_pos (by omega)) (br_f (nI_ge hp (by omega)) h)
theorem xk_c7 (hW : bk_W n len w) {p : Nat} (hp : p < n) (post : Int32 → Prop) (h : post (nI (bk_co (bk_pl n (bk_z w) len) p n).2)) : ∀ d t, t + d = n → wX_componentOf_7 post (nI n) (nI len) w pa co ow ch cl (d + 1) (nI (bk_co (bk_pl n (bk_z w) len) p t).2) (nI (bk_co (bk_pl n (bk_z w) len) p t).1) (nI t) := by
  have h4 := hW.2.1
  have hf := (bk_ple hW.1 h4 _ (bk_pin hW.1 h4 (bk_Wz hW) len (Nat.le_refl _))).2
  intro d
  induction d with
  | zero =>
    intro t ht
    have e : t = n := by omega
    rw [e]
    exact br_t (nI_le (by omega) (by omega)) h
  | succ d ih =>
    intro t ht
    have ih' := ih (t + 1) (by omega)
    have hb := bk_con hf hp t
    have hg := hf _ hb.1
    have eg : bk_g (bk_pl n (bk_z w) len) (bk_co (bk_pl n (bk_z w) len) p t).1 = bk_en (bk_z w) (bk_co (bk_pl n (bk_z w) len) p t).1 len := bk_plg hb.1
    have e1 : (bk_co (bk_pl n (bk_z w) len) p (t + 1)).1 = bk_g (bk_pl n (bk_z w) len) (bk_co (bk_pl n (bk_z w) len) p t).1 := rfl
    have e2 : (bk_co (bk_pl n (bk_z w) len) p (t + 1)).2 = min (bk_g (bk_pl n (bk_z w) len) (bk_co (bk_pl n (bk_z w) len) p t).1) (bk_co (bk_pl n (bk_z w) len) p t).2 := rfl
    rw [e1, e2] at ih'
    refine br_f (nI_ge (by omega) (by omega)) (xk_ends hW hb.1 _ ?_)
    rw [← eg]
    refine pk_le (bk_co (bk_pl n (bk_z w) len) p t).2 (bk_g (bk_pl n (bk_z w) len) (bk_co (bk_pl n (bk_z w) len) p t).1) (fun c => ?_) (fun c => ?_) rfl rfl (by omega) (by omega)
    · rw [Nat.min_eq_right c] at ih'
      exact nm_r (nI_1 t) ih'
    · rw [Nat.min_eq_left (by omega)] at ih'
      exact nm_r (nI_1 t) ih'
theorem xk_comp (hW : bk_W n len w) {p : Nat} (hp : p < n) (post : Int32 → Prop) (h : post (nI (bk_co (bk_pl n (bk_z w) len) p n).2)) : wpX_componentOf post (nI n, nI len, w, pa, co, ow, ch, cl) (nI p) :=
  ⟨n + 1, xk_c7 hW hp post h n 0 (by omega)⟩
theorem yk_g35 (hW : bk_W n len w) {L : List Nat} {r : Nat} (hL : L.length = n) (hLb : ∀ e, e < n → bk_g L e < n) (post : SY → Prop) (J : Int32 → (Nat → Int32) → (Nat → Int32) → (Nat → Int32) → (Nat → Int32) → (Nat → Int32) → (Nat → Int32) → Prop) (h : ∀ cm', bk_rp n cm' (bk_gi (bk_pl n (bk_z w) len) L n) → J (nI (r + 1)) w j mn cf cy cm') : ∀ d p cm, p + d = n → bk_rp n cm (bk_gi (bk_pl n (bk_z w) len) L p) → wY_group_35 post J (nI r) (nI n) (nI len) kn (d + 1) (nI p) w j mn cf cy cm := by
  have h4 := hW.2.1
  have hf := (bk_ple hW.1 h4 _ (bk_pin hW.1 h4 (bk_Wz hW) len (Nat.le_refl _))).2
  intro d
  induction d with
  | zero =>
    intro p cm hp hr
    have e : p = n := by omega
    rw [e] at hr
    exact br_t (nI_le (by omega) (by omega)) (nm_r (nI_1 r) (h cm hr))
  | succ d ih =>
    intro p cm hp hr
    obtain ⟨gl, gb⟩ := bk_gil hf hL hLb p (by omega)
    have eg : bk_g (bk_pl n (bk_z w) len) p = bk_en (bk_z w) p len := bk_plg (by omega)
    have hq := hf p (by omega)
    have bp := gb p (by omega)
    have bq := gb _ hq
    have fin : ∀ z, z = min (bk_g (bk_gi (bk_pl n (bk_z w) len) L p) p) (bk_g (bk_gi (bk_pl n (bk_z w) len) L p) (bk_g (bk_pl n (bk_z w) len) p)) → wY_group_79 post J (wY_group_35 post J (nI r) (nI n) (nI len) kn (d + 1)) (nI r) (nI p) (nI (bk_g (bk_pl n (bk_z w) len) p)) (nI z) (nI n) (nI len) kn w j mn cf cy cm := by
      intro z ez
      unfold wY_group_79
      rw [nI_clamp (show p < 2 ^ 31 by omega), nI_clamp (show bk_g (bk_pl n (bk_z w) len) p < 2 ^ 31 by omega)]
      refine ⟨vp_in_nI (by omega) (by omega), ?_⟩
      intro a ea
      refine ⟨vp_in_nI (by omega) (by omega), ?_⟩
      intro b eb
      subst ea
      subst eb
      refine nm_r (nI_1 p) (ih (p + 1) _ (by omega) ?_)
      rw [ez]
      exact bk_rps (bk_rps hr (by omega)) (by rw [List.length_set]; omega)
    refine br_f (nI_ge (by omega) (by omega)) (yk_end hW (by omega) _ ?_)
    rw [← eg]
    rw [nI_clamp (show p < 2 ^ 31 by omega), nI_clamp (show bk_g (bk_pl n (bk_z w) len) p < 2 ^ 31 by omega), hr p (by omega), hr _ hq]
    refine ⟨vp_in_nI (by omega) (by omega), vp_in_nI (by omega) (by omega), pk_le (bk_g (bk_gi (bk_pl n (bk_z w) len) L p) (bk_g (bk_pl n (bk_z w) len) p)) (bk_g (bk_gi (bk_pl n (bk_z w) len) L p) p) (fun c => ⟨vp_in_nI (by omega) (by omega), fin _ ?_⟩) (fun c => ⟨vp_in_nI (by omega) (by omega), fin _ ?_⟩) rfl rfl (by omega) (by omega)⟩
    · exact (Nat.min_eq_right c).symm
    · exact (Nat.min_eq_left (by omega)).symm
theorem yk_g25 (hW : bk_W n len w) (post : SY → Prop) (h : ∀ cm', bk_rp n cm' (bk_gr n (bk_pl n (bk_z w) len) n) → post (nI n, nI len, kn, w, j, mn, cf, cy, cm')) : ∀ d r cm, r + d = n → bk_rp n cm (bk_gr n (bk_pl n (bk_z w) len) r) → wY_group_25 post (nI n) (nI len) kn (d + 1) (nI r) w j mn cf cy cm := by
  have h4 := hW.2.1
  have hf := (bk_ple hW.1 h4 _ (bk_pin hW.1 h4 (bk_Wz hW) len (Nat.le_refl _))).2
  intro d
  induction d with
  | zero =>
    intro r cm hr hc
    have e : r = n := by omega
    rw [e] at hc
    exact br_t (nI_le (by omega) (by omega)) (h cm hc)
  | succ d ih =>
    intro r cm hr hc
    obtain ⟨gl, gb⟩ := bk_grl hf r
    exact br_f (nI_ge (by omega) (by omega)) ⟨n + 1, yk_g35 hW gl gb post _ (fun cm' hc' => ih (r + 1) cm' (by omega) hc') n 0 cm (by omega) hc⟩
theorem yk_g2 (hW : bk_W n len w) (post : SY → Prop) (h : ∀ cm', bk_rp n cm' (bk_gr n (bk_pl n (bk_z w) len) n) → post (nI n, nI len, kn, w, j, mn, cf, cy, cm')) : ∀ d p cm, p + d = n → (∀ x, x < p → cm x = nI x) → wY_group_2 post (nI n) (nI len) kn (d + 1) (nI p) w j mn cf cy cm := by
  have h4 := hW.2.1
  intro d
  induction d with
  | zero =>
    intro p cm hp hc
    refine br_t (nI_le (by omega) (by omega)) ⟨n + 1, yk_g25 hW post h n 0 cm (by omega) (fun x hx => ?_)⟩
    rw [show bk_gr n (bk_pl n (bk_z w) len) 0 = List.range n from rfl, bk_gr0 hx]
    exact hc x (by omega)
  | succ d ih =>
    intro p cm hp hc
    refine br_f (nI_ge (by omega) (by omega)) ⟨vp_in_nI (by omega) (by omega), ?_⟩
    intro a ea
    rw [nI_clamp (by omega)] at ea
    subst ea
    refine nm_r (nI_1 p) (ih (p + 1) _ (by omega) ?_)
    intro y hy
    by_cases e : y = p
    · rw [e]
      exact pk_us
    · rw [pk_un e]
      exact hc y (by omega)
theorem yk_group (hW : bk_W n len w) (post : SY → Prop) (h : ∀ cm', (∀ p, p < n → cm' p = nI (bk_co (bk_pl n (bk_z w) len) p n).2) → post (nI n, nI len, kn, w, j, mn, cf, cy, cm')) : wpY_group post (nI n, nI len, kn, w, j, mn, cf, cy, cm) := by
  have h4 := hW.2.1
  have hP := bk_pin hW.1 h4 (bk_Wz hW) len (Nat.le_refl _)
  refine ⟨n + 1, yk_g2 hW post (fun cm' hc => h cm' (fun p hp => ?_)) n 0 cm (by omega) (fun x hx => absurd hx (by omega))⟩
  rw [(bk_cog hW.1 h4 _ hP p hp).1]
  exact hc p hp
theorem xk_cn4 (hW : bk_W n len w) (post : Int32 → Prop) (h : post (nI (bk_ct (fun p => decide ((bk_co (bk_pl n (bk_z w) len) p n).2 = p)) n))) : ∀ d p, p + d = n → wX_components_4 post (nI n) (nI len) w pa co ow ch cl (d + 1) (nI (bk_ct (fun p => decide ((bk_co (bk_pl n (bk_z w) len) p n).2 = p)) p)) (nI p) := by
  have h4 := hW.2.1
  have hP := bk_pin hW.1 h4 (bk_Wz hW) len (Nat.le_refl _)
  intro d
  induction d with
  | zero =>
    intro p hp
    have e : p = n := by omega
    rw [e]
    exact br_t (nI_le (by omega) (by omega)) h
  | succ d ih =>
    intro p hp
    have ih' := ih (p + 1) (by omega)
    have hc := (bk_cog hW.1 h4 _ hP p (by omega)).2
    have ec : bk_ct (fun p => decide ((bk_co (bk_pl n (bk_z w) len) p n).2 = p)) (p + 1) = bk_ct (fun p => decide ((bk_co (bk_pl n (bk_z w) len) p n).2 = p)) p + if decide ((bk_co (bk_pl n (bk_z w) len) p n).2 = p) then 1 else 0 := rfl
    refine br_f (nI_ge (by omega) (by omega)) (xk_comp hW (by omega) _ ?_)
    refine pk_eq (bk_co (bk_pl n (bk_z w) len) p n).2 p (fun e => ?_) (fun e => ?_) rfl rfl (by omega) (by omega)
    · rw [ec, decide_eq_true e, if_pos rfl] at ih'
      exact nm_r (nI_1 _) (nm_r (nI_1 p) ih')
    · rw [ec, decide_eq_false e, if_neg (by decide)] at ih'
      exact nm_r (nI_1 p) ih'
theorem yk_cn8 (hW : bk_W n len w) (hc : ∀ p, p < n → cm p = nI (bk_co (bk_pl n (bk_z w) len) p n).2) (post : Int32 → SY → Prop) (h : post (nI (bk_ct (fun p => decide ((bk_co (bk_pl n (bk_z w) len) p n).2 = p)) n)) (nI n, nI len, kn, w, j, mn, cf, cy, cm)) : ∀ d p, p + d = n → wY_components_8 post (nI n) (nI len) kn w j mn cf cy cm (d + 1) (nI (bk_ct (fun p => decide ((bk_co (bk_pl n (bk_z w) len) p n).2 = p)) p)) (nI p) := by
  have h4 := hW.2.1
  have hP := bk_pin hW.1 h4 (bk_Wz hW) len (Nat.le_refl _)
  intro d
  induction d with
  | zero =>
    intro p hp
    have e : p = n := by omega
    rw [e]
    exact br_t (nI_le (by omega) (by omega)) h
  | succ d ih =>
    intro p hp
    have ih' := ih (p + 1) (by omega)
    have hb := (bk_cog hW.1 h4 _ hP p (by omega)).2
    have ec : bk_ct (fun p => decide ((bk_co (bk_pl n (bk_z w) len) p n).2 = p)) (p + 1) = bk_ct (fun p => decide ((bk_co (bk_pl n (bk_z w) len) p n).2 = p)) p + if decide ((bk_co (bk_pl n (bk_z w) len) p n).2 = p) then 1 else 0 := rfl
    refine br_f (nI_ge (by omega) (by omega)) ⟨vp_in_nI (by omega) (by omega), ?_⟩
    rw [nI_clamp (show p < 2 ^ 31 by omega), hc p (by omega)]
    refine pk_eq (bk_co (bk_pl n (bk_z w) len) p n).2 p (fun e => ?_) (fun e => ?_) rfl rfl (by omega) (by omega)
    · rw [ec, decide_eq_true e, if_pos rfl] at ih'
      exact nm_r (nI_1 _) (nm_r (nI_1 p) ih')
    · rw [ec, decide_eq_false e, if_neg (by decide)] at ih'
      exact nm_r (nI_1 p) ih'
end
theorem i_vc_components {k : Nat} {u : SX} {v : SY} (I : i_Rel k u v) (hk : k + 3 ≤ 1537) : wpX_components (fun r => wpY_components (fun r' v' => r' = r ∧ i_Rel (k + 3) u v') v) u := by
  obtain ⟨n, len, kn, w, pa, co, ow, ch, cl, j, mn, cf, cy, cm, hW, hkn, rfl, rfl⟩ := I
  refine ⟨n + 1, xk_cn4 hW _ ?_ n 0 (by omega)⟩
  unfold wpY_components
  dsimp only
  refine yk_group hW _ (fun cm' hc => ?_)
  exact ⟨n + 1, yk_cn8 hW hc _ ⟨rfl, bk_rel hW hkn⟩ n 0 (by omega)⟩
theorem i_vc_ends {k : Nat} {u : SX} {v : SY} (I : i_Rel k u v) (hk : k + 3 ≤ 1537) (v1 : Int32) : wpX_ends (fun r => wpY_ends (fun r' => r' = r ∧ i_Rel (k + 3) u v) v v1) u v1 := by
  obtain ⟨n, len, kn, w, pa, co, ow, ch, cl, j, mn, cf, cy, cm, hW, hkn, rfl, rfl⟩ := I
  have h4 := hW.2.1
  rcases pk_ix v1 (n := n) (by omega) with h | h | ⟨i, hi, rfl⟩
  · exact br_t h (br_t h (br_t rfl ⟨rfl, bk_rel hW hkn⟩))
  · have h0 : ¬ v1 < 0 := by
      rw [Int32.le_iff_toInt_le, nI_toInt (by omega)] at h
      rw [Int32.lt_iff_toInt_lt, bk_i0]
      omega
    exact br_f h0 (br_f (Int32.not_lt.mpr h) (br_f h0 (br_t h (br_t rfl ⟨rfl, bk_rel hW hkn⟩))))
  · refine xk_ends hW hi _ ?_
    unfold wpY_ends
    dsimp only
    refine yk_isp h4 hi _ ?_
    refine br_f (by decide) ?_
    exact yk_end hW hi _ ⟨rfl, bk_rel hW hkn⟩
def bk_ag (n : Nat) (a o : Nat → Int32) : Prop := ∀ e, e < n → a e = o e
theorem bk_agu {n x : Nat} {a o : Nat → Int32} {v : Int32} (h : bk_ag n a o) : bk_ag n (upd a x v) (upd o x v) := by
  intro e he
  by_cases c : e = x
  · rw [c, pk_us, pk_us]
  · rw [pk_un c, pk_un c]
    exact h e he
def bk_hit (A B x y : Int32) : Prop := (x = A ∧ y = B) ∨ (x = B ∧ y = A)
def bk_hb (A B x y : Int32) : Bool := (decide (x = A) && decide (y = B)) || (decide (x = B) && decide (y = A))
theorem bk_hbt {A B x y : Int32} (h : bk_hit A B x y) : bk_hb A B x y = true := by
  rcases h with ⟨a, b⟩ | ⟨a, b⟩
  · unfold bk_hb
    rw [decide_eq_true a, decide_eq_true b]
    rfl
  · unfold bk_hb
    rw [decide_eq_true a, decide_eq_true b, Bool.and_true, Bool.or_true]
theorem bk_hbf {A B x y : Int32} (h : ¬ bk_hit A B x y) : bk_hb A B x y = false := by
  cases c : bk_hb A B x y with
  | false => rfl
  | true =>
    exfalso
    unfold bk_hb at c
    rw [Bool.or_eq_true, Bool.and_eq_true, Bool.and_eq_true, decide_eq_true_eq, decide_eq_true_eq, decide_eq_true_eq, decide_eq_true_eq] at c
    exact h c
def bk_lk (w : Nat → Int32) (A B : Int32) (o : Nat → Int32) : Nat → (Nat → Int32) × Int32
  | 0 => (o, 0)
  | k + 1 => (upd (upd (bk_lk w A B o k).1 (bk_z w k - 1) ((bk_lk w A B o k).1 (bk_z w k))) (bk_z w k) ((bk_lk w A B o k).1 (bk_z w k - 1)), if bk_hb A B ((bk_lk w A B o k).1 (bk_z w k - 1)) ((bk_lk w A B o k).1 (bk_z w k)) then (bk_lk w A B o k).2 + bk_s w k else (bk_lk w A B o k).2)
section
variable {n len : Nat} {kn : Int32} {w pa co ow ch cl j mn cf cy cm o : Nat → Int32} {A B : Int32}
theorem xk_lk61 (hW : bk_W n len w) (post : Int32 → SX → Prop) (h : ∀ ow', post ((bk_lk w A B o len).2 / 2) (nI n, nI len, w, pa, co, ow', ch, cl)) : ∀ d t ow, t + d = len → bk_ag n ow (bk_lk w A B o t).1 → wX_linking_61 post A B (nI n) (nI len) (d + 1) (bk_lk w A B o t).2 (nI t) w pa co ow ch cl := by
  have h4 := hW.2.1
  have hl := hW.2.2.1
  intro d
  induction d with
  | zero =>
    intro t ow ht hr
    have e : t = len := by omega
    rw [e]
    exact br_t (nI_le (by omega) (by omega)) ⟨by decide, h ow⟩
  | succ d ih =>
    intro t ow ht hr
    have hz := bk_Wz hW t (by omega)
    have ax := hr (bk_z w t - 1) (by omega)
    have ay := hr (bk_z w t) hz.2
    have ih' := ih (t + 1) (upd (upd ow (bk_z w t - 1) ((bk_lk w A B o t).1 (bk_z w t))) (bk_z w t) ((bk_lk w A B o t).1 (bk_z w t - 1))) (by omega) (bk_agu (bk_agu hr))
    have es : (bk_lk w A B o (t + 1)).2 = if bk_hb A B ((bk_lk w A B o t).1 (bk_z w t - 1)) ((bk_lk w A B o t).1 (bk_z w t)) then (bk_lk w A B o t).2 + bk_s w t else (bk_lk w A B o t).2 := rfl
    have h135 : ∀ s, s = (bk_lk w A B o (t + 1)).2 → wX_linking_135 post (wX_linking_61 post A B (nI n) (nI len) (d + 1)) A B s (nI t) (nI (bk_z w t)) ((bk_lk w A B o t).1 (bk_z w t - 1)) ((bk_lk w A B o t).1 (bk_z w t)) (nI n) (nI len) w pa co ow ch cl := by
      intro s hs
      unfold wX_linking_135
      rw [bk_pd hz.1, nI_clamp (show bk_z w t < 2 ^ 31 by omega), nI_clamp (show bk_z w t - 1 < 2 ^ 31 by omega), hs]
      exact ⟨vp_in_nI (by omega) (by omega), nm_e ⟨vp_in_nI (by omega) (by omega), nm_e (nm_r (nI_1 t) ih')⟩⟩
    have hN : ¬ bk_hit A B ((bk_lk w A B o t).1 (bk_z w t - 1)) ((bk_lk w A B o t).1 (bk_z w t)) → wX_linking_135 post (wX_linking_61 post A B (nI n) (nI len) (d + 1)) A B (bk_lk w A B o t).2 (nI t) (nI (bk_z w t)) ((bk_lk w A B o t).1 (bk_z w t - 1)) ((bk_lk w A B o t).1 (bk_z w t)) (nI n) (nI len) w pa co ow ch cl := by
      intro q
      exact h135 _ (by rw [es, bk_hbf q, if_neg (by decide)])
    have hY : bk_hit A B ((bk_lk w A B o t).1 (bk_z w t - 1)) ((bk_lk w A B o t).1 (bk_z w t)) → wX_linking_124 post (wX_linking_61 post A B (nI n) (nI len) (d + 1)) A B (bk_lk w A B o t).2 (nI t) (nI (bk_z w t)) ((bk_lk w A B o t).1 (bk_z w t - 1)) ((bk_lk w A B o t).1 (bk_z w t)) (nI n) (nI len) w pa co ow ch cl := by
      intro q
      unfold wX_linking_124
      refine xk_sign hW (by omega) _ ?_
      exact nm_e (h135 _ (by rw [es, bk_hbt q, if_pos rfl]))
    have h111 : ¬ ((bk_lk w A B o t).1 (bk_z w t - 1) = A ∧ (bk_lk w A B o t).1 (bk_z w t) = B) → wX_linking_111 post (wX_linking_61 post A B (nI n) (nI len) (d + 1)) A B (bk_lk w A B o t).2 (nI t) (nI (bk_z w t)) ((bk_lk w A B o t).1 (bk_z w t - 1)) ((bk_lk w A B o t).1 (bk_z w t)) (nI n) (nI len) w pa co ow ch cl := by
      intro q
      exact br_c (fun c3 => br_c (fun c4 => hY (Or.inr ⟨c3, c4⟩)) (fun c4 => hN (fun z => z.elim q (fun z2 => c4 z2.2)))) (fun c3 => hN (fun z => z.elim q (fun z2 => c3 z2.1)))
    refine br_f (nI_ge (by omega) (by omega)) (xk_right hW (by omega) _ ?_)
    rw [bk_pd hz.1, nI_clamp (show bk_z w t < 2 ^ 31 by omega), nI_clamp (show bk_z w t - 1 < 2 ^ 31 by omega), ax, ay]
    refine ⟨vp_in_nI (by omega) (by omega), nm_e ⟨vp_in_nI (by omega) (by omega), nm_e ?_⟩⟩
    exact br_c (fun c1 => br_c (fun c2 => hY (Or.inl ⟨c1, c2⟩)) (fun c2 => h111 (fun z => c2 z.2))) (fun c1 => h111 (fun z => c1 z.1))
theorem yk_lk87 (hW : bk_W n len w) (post : Int32 → SY → Prop) (h : ∀ cy', post ((bk_lk w A B o len).2 / 2) (nI n, nI len, kn, w, j, mn, cf, cy', cm)) : ∀ d t cy, t + d = len → bk_ag n cy (bk_lk w A B o t).1 → wY_linking_87 post A B (nI n) (nI len) kn (d + 1) (bk_lk w A B o t).2 (nI t) w j mn cf cy cm := by
  have h4 := hW.2.1
  have hl := hW.2.2.1
  intro d
  induction d with
  | zero =>
    intro t cy ht hr
    have e : t = len := by omega
    rw [e]
    exact br_t (nI_le (by omega) (by omega)) ⟨by decide, h cy⟩
  | succ d ih =>
    intro t cy ht hr
    have hz := bk_Wz hW t (by omega)
    have ax := hr (bk_z w t - 1) (by omega)
    have ay := hr (bk_z w t) hz.2
    have ih' := ih (t + 1) (upd (upd cy (bk_z w t - 1) ((bk_lk w A B o t).1 (bk_z w t))) (bk_z w t) ((bk_lk w A B o t).1 (bk_z w t - 1))) (by omega) (bk_agu (bk_agu hr))
    have es : (bk_lk w A B o (t + 1)).2 = if bk_hb A B ((bk_lk w A B o t).1 (bk_z w t - 1)) ((bk_lk w A B o t).1 (bk_z w t)) then (bk_lk w A B o t).2 + bk_s w t else (bk_lk w A B o t).2 := rfl
    have h135 : ∀ s, s = (bk_lk w A B o (t + 1)).2 → wY_linking_171 post (wY_linking_87 post A B (nI n) (nI len) kn (d + 1)) A B s (nI t) (nI (bk_z w t)) ((bk_lk w A B o t).1 (bk_z w t - 1)) ((bk_lk w A B o t).1 (bk_z w t)) (nI n) (nI len) kn w j mn cf cy cm := by
      intro s hs
      unfold wY_linking_171
      rw [bk_pd hz.1, nI_clamp (show bk_z w t < 2 ^ 31 by omega), nI_clamp (show bk_z w t - 1 < 2 ^ 31 by omega), hs]
      exact ⟨vp_in_nI (by omega) (by omega), nm_e ⟨vp_in_nI (by omega) (by omega), nm_e (nm_r (nI_1 t) ih')⟩⟩
    have hN : ¬ bk_hit A B ((bk_lk w A B o t).1 (bk_z w t - 1)) ((bk_lk w A B o t).1 (bk_z w t)) → wY_linking_171 post (wY_linking_87 post A B (nI n) (nI len) kn (d + 1)) A B (bk_lk w A B o t).2 (nI t) (nI (bk_z w t)) ((bk_lk w A B o t).1 (bk_z w t - 1)) ((bk_lk w A B o t).1 (bk_z w t)) (nI n) (nI len) kn w j mn cf cy cm := by
      intro q
      exact h135 _ (by rw [es, bk_hbf q, if_neg (by decide)])
    have hY : bk_hit A B ((bk_lk w A B o t).1 (bk_z w t - 1)) ((bk_lk w A B o t).1 (bk_z w t)) → wY_linking_155 post (wY_linking_87 post A B (nI n) (nI len) kn (d + 1)) A B (bk_lk w A B o t).2 (nI t) (nI (bk_z w t)) ((bk_lk w A B o t).1 (bk_z w t - 1)) ((bk_lk w A B o t).1 (bk_z w t)) (nI n) (nI len) kn w j mn cf cy cm := by
      intro q
      unfold wY_linking_155
      rw [nI_clamp (show t < 2 ^ 31 by omega)]
      refine ⟨vp_in_nI (by omega) (by omega), yk_sign hW (by omega) _ ?_⟩
      exact nm_e (h135 _ (by rw [es, bk_hbt q, if_pos rfl]))
    have h111 : ¬ ((bk_lk w A B o t).1 (bk_z w t - 1) = A ∧ (bk_lk w A B o t).1 (bk_z w t) = B) → wY_linking_142 post (wY_linking_87 post A B (nI n) (nI len) kn (d + 1)) A B (bk_lk w A B o t).2 (nI t) (nI (bk_z w t)) ((bk_lk w A B o t).1 (bk_z w t - 1)) ((bk_lk w A B o t).1 (bk_z w t)) (nI n) (nI len) kn w j mn cf cy cm := by
      intro q
      exact br_c (fun c3 => br_c (fun c4 => hY (Or.inr ⟨c3, c4⟩)) (fun c4 => hN (fun z => z.elim q (fun z2 => c4 z2.2)))) (fun c3 => hN (fun z => z.elim q (fun z2 => c3 z2.1)))
    refine br_f (nI_ge (by omega) (by omega)) ?_
    rw [nI_clamp (show t < 2 ^ 31 by omega)]
    refine ⟨vp_in_nI (by omega) (by omega), yk_size hW (by omega) _ ?_⟩
    rw [bk_pd hz.1, nI_clamp (show bk_z w t < 2 ^ 31 by omega), nI_clamp (show bk_z w t - 1 < 2 ^ 31 by omega), ax, ay]
    refine ⟨vp_in_nI (by omega) (by omega), nm_e ⟨vp_in_nI (by omega) (by omega), nm_e ?_⟩⟩
    exact br_c (fun c1 => br_c (fun c2 => hY (Or.inl ⟨c1, c2⟩)) (fun c2 => h111 (fun z => c2 z.2))) (fun c1 => h111 (fun z => c1 z.1))
theorem xk_so2 (hW : bk_W n len w) (post : SX → Prop) (h : ∀ ow', bk_ag n ow' (fun p => nI (bk_co (bk_pl n (bk_z w) len) p n).2) → post (nI n, nI len, w, pa, co, ow', ch, cl)) : ∀ d p ow, p + d = n → (∀ x, x < p → ow x = nI (bk_co (bk_pl n (bk_z w) len) x n).2) → wX_startOwners_2 post (nI n) (nI len) (d + 1) (nI p) w pa co ow ch cl := by
  have h4 := hW.2.1
  intro d
  induction d with
  | zero =>
    intro p ow hp hc
    exact br_t (nI_le (by omega) (by omega)) (h ow (fun e he => hc e (by omega)))
  | succ d ih =>
    intro p ow hp hc
    refine br_f (nI_ge (by omega) (by omega)) (xk_comp hW (by omega) _ ⟨vp_in_nI (by omega) (by omega), ?_⟩)
    intro a ea
    rw [nI_clamp (by omega)] at ea
    subst ea
    refine nm_r (nI_1 p) (ih (p + 1) _ (by omega) ?_)
    intro y hy
    by_cases e : y = p
    · rw [e]
      exact pk_us
    · rw [pk_un e]
      exact hc y (by omega)
theorem yk_lk52 (hW : bk_W n len w) (hc : ∀ p, p < n → cm p = nI (bk_co (bk_pl n (bk_z w) len) p n).2) (post : Int32 → SY → Prop) (h : ∀ cy', bk_ag n cy' (fun p => nI (bk_co (bk_pl n (bk_z w) len) p n).2) → ∃ n87, wY_linking_87 post A B (nI n) (nI len) kn n87 0 (nI 0) w j mn cf cy' cm) : ∀ d p cy, p + d = n → (∀ x, x < p → cy x = nI (bk_co (bk_pl n (bk_z w) len) x n).2) → wY_linking_52 post A B (nI n) (nI len) kn (d + 1) (nI p) w j mn cf cy cm := by
  have h4 := hW.2.1
  intro d
  induction d with
  | zero =>
    intro p cy hp hy
    exact br_t (nI_le (by omega) (by omega)) (h cy (fun e he => hy e (by omega)))
  | succ d ih =>
    intro p cy hp hy
    refine br_f (nI_ge (by omega) (by omega)) ⟨vp_in_nI (by omega) (by omega), vp_in_nI (by omega) (by omega), ?_⟩
    intro a ea
    rw [nI_clamp (by omega), hc p (by omega)] at ea
    subst ea
    refine nm_r (nI_1 p) (ih (p + 1) _ (by omega) ?_)
    intro y hy'
    by_cases e : y = p
    · rw [e]
      exact pk_us
    · rw [pk_un e]
      exact hy y (by omega)
end
theorem bk_out {n : Nat} {x : Int32} (h4 : n ≤ 4) (h : nI n ≤ x) : ¬ x < 0 := by
  rw [Int32.le_iff_toInt_le, nI_toInt (by omega)] at h
  rw [Int32.lt_iff_toInt_lt, bk_i0]
  omega
theorem i_vc_linking {k : Nat} {u : SX} {v : SY} (I : i_Rel k u v) (hk : k + 3 ≤ 1537) (v1 : Int32) (v2 : Int32) : wpX_linking (fun r u' => wpY_linking (fun r' v' => r' = r ∧ i_Rel (k + 3) u' v') v v1 v2) u v1 v2 := by
  obtain ⟨n, len, kn, w, pa, co, ow, ch, cl, j, mn, cf, cy, cm, hW, hkn, rfl, rfl⟩ := I
  have h4 := hW.2.1
  rcases pk_ix v1 (n := n) (by omega) with h | h | ⟨p, hp, rfl⟩
  · exact br_t h (br_t h (br_t rfl ⟨rfl, bk_rel hW hkn⟩))
  · have h0 := bk_out h4 h
    exact br_f h0 (br_t h (br_f h0 (br_t h (br_t rfl ⟨rfl, bk_rel hW hkn⟩))))
  rcases pk_ix v2 (n := n) (by omega) with h | h | ⟨q, hq, rfl⟩
  · refine br_f (nI_pos (by omega)) (br_f (nI_ge hp (by omega)) (br_t h ?_))
    unfold wpY_linking
    dsimp only
    refine yk_isp h4 hp _ ?_
    refine br_f (by decide) ?_
    exact br_t h (br_t rfl ⟨rfl, bk_rel hW hkn⟩)
  · have h0 := bk_out h4 h
    refine br_f (nI_pos (by omega)) (br_f (nI_ge hp (by omega)) (br_f h0 (br_f (Int32.not_lt.mpr h) ?_)))
    unfold wpY_linking
    dsimp only
    refine yk_isp h4 hp _ ?_
    refine br_f (by decide) ?_
    exact br_f h0 (br_t h (br_t rfl ⟨rfl, bk_rel hW hkn⟩))
  unfold wpX_linking wpY_linking
  dsimp only
  refine br_f (nI_pos (by omega)) (br_f (nI_ge hp (by omega)) (br_f (nI_pos (by omega)) (br_t (nI_lt hq (by omega)) ?_)))
  refine xk_comp hW hp _ ?_
  refine xk_comp hW hq _ ?_
  refine br_c (fun c => ?_) (fun c => ?_)
  · refine yk_isp h4 hp _ ?_
    refine br_f (by decide) ?_
    refine yk_isp h4 hq _ ?_
    refine br_f (by decide) ?_
    refine yk_group hW _ (fun cm' hc => ?_)
    dsimp only
    rw [nI_clamp (show p < 2 ^ 31 by omega), nI_clamp (show q < 2 ^ 31 by omega), hc p hp, hc q hq]
    exact ⟨vp_in_nI (by omega) (by omega), nm_e ⟨vp_in_nI (by omega) (by omega), nm_e (br_t c ⟨rfl, bk_rel hW hkn⟩)⟩⟩
  · refine ⟨n + 1, xk_so2 hW _ (fun ow' ho => ?_) n 0 ow (by omega) (fun x hx => absurd hx (by omega))⟩
    refine ⟨len + 1, xk_lk61 (o := fun p => nI (bk_co (bk_pl n (bk_z w) len) p n).2) hW _ (fun ow'' => ?_) len 0 ow' (by omega) ho⟩
    refine yk_isp h4 hp _ ?_
    refine br_f (by decide) ?_
    refine yk_isp h4 hq _ ?_
    refine br_f (by decide) ?_
    refine yk_group hW _ (fun cm' hc => ?_)
    dsimp only
    rw [nI_clamp (show p < 2 ^ 31 by omega), nI_clamp (show q < 2 ^ 31 by omega), hc p hp, hc q hq]
    refine ⟨vp_in_nI (by omega) (by omega), nm_e ⟨vp_in_nI (by omega) (by omega), nm_e (br_f c ?_)⟩⟩
    refine ⟨n + 1, yk_lk52 hW hc _ (fun cy' hy => ?_) n 0 cy (by omega) (fun x hx => absurd hx (by omega))⟩
    exact ⟨len + 1, yk_lk87 (o := fun p => nI (bk_co (bk_pl n (bk_z w) len) p n).2) hW _ (fun cy'' => ⟨rfl, bk_rel hW hkn⟩) len 0 cy' (by omega) hy⟩
