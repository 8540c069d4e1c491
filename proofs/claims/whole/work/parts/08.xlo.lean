def bk_rp (N : Nat) (a : Nat → Int32) (M : List Nat) : Prop := ∀ e, e < N → a e = nI (bk_g M e)
theorem bk_rps {N : Nat} {a : Nat → Int32} {M : List Nat} {x v : Nat} (h : bk_rp N a M) (hx : x < M.length) : bk_rp N (upd a x (nI v)) (M.set x v) := by
  intro e he
  rw [bk_st hx]
  unfold upd
  by_cases c : e = x
  · rw [if_pos c, if_pos c]
  · rw [if_neg c, if_neg c]
    exact h e he
theorem bk_jel (M : List Nat) (a b : Nat) : (bk_je M a b).1.length = M.length := by
  unfold bk_je
  split
  · rfl
  · show ((M.set _ _).set _ _).length = _
    rw [List.length_set, List.length_set]
theorem bk_M0g {n : Nat} (h2 : 2 ≤ n) (h4 : n ≤ 4) : ∀ e, e < 2 * n → bk_g (bk_M0 n) e = if e < n then n + e else e - n :=
  bk_n (P := fun n => ∀ e, e < 2 * n → bk_g (bk_M0 n) e = if e < n then n + e else e - n) h2 h4 (by decide +kernel) (by decide +kernel) (by decide +kernel)
theorem bk_Fe (n len : Nat) (sz : Nat → Nat) (bt : Nat → Bool) : bk_F n len sz bt = (bk_fa n sz bt len).2 + (bk_cz n ((bk_fa n sz bt len).1, 0) n).2 :=
  congrArg Prod.snd (bk_czc n (bk_fa n sz bt len).1 (bk_fa n sz bt len).2 n)
section
variable {n len : Nat} {w pa co ow ch cl : Nat → Int32}
theorem xk_sign (hW : bk_W n len w) {k : Nat} (hk : k < len) (post : Int32 → Prop) (h : post (bk_s w k)) : wpX_signOf post (nI n, nI len, w, pa, co, ow, ch, cl) (nI k) := by
  have hz := bk_zv hW.2.1 (hW.2.2.2 k hk)
  have hl := hW.2.2.1
  unfold wpX_signOf
  dsimp only
  rw [nI_clamp (show k < 2 ^ 31 by omega)]
  refine ⟨vp_in_nI (by omega) (by omega), ?_⟩
  rcases hz.2.2 with ⟨a1, a2, a3, a4, a5, a6⟩ | ⟨a1, a2, a3, a4, a5, a6⟩
  · rw [a6] at h
    exact br_f a3 h
  · rw [a6] at h
    exact br_t a3 h
theorem xk_right (hW : bk_W n len w) {k : Nat} (hk : k < len) (post : Int32 → Prop) (h : post (nI (bk_z w k))) : wpX_rightOf post (nI n, nI len, w, pa, co, ow, ch, cl) (nI k) := by
  have hz := bk_zv hW.2.1 (hW.2.2.2 k hk)
  have hl := hW.2.2.1
  unfold wpX_rightOf
  dsimp only
  rw [nI_clamp (show k < 2 ^ 31 by omega)]
  refine ⟨vp_in_nI (by omega) (by omega), ?_⟩
  rcases hz.2.2 with ⟨a1, a2, a3, a4, a5, a6⟩ | ⟨a1, a2, a3, a4, a5, a6⟩
  · rw [← a5] at h
    exact br_f a3 ⟨vp_in_nI (by omega) (by omega), h⟩
  · rw [← a5] at h
    exact br_t a3 ⟨vp_in_nI (by omega) (by omega), h⟩
theorem xk_isShut {v : Int32} {k : Nat} (post : Int32 → Prop) (h1 : bk_bt v k = true → post 1) (h0 : bk_bt v k = false → post 0) : wpX_isShut post (nI n, nI len, w, pa, co, ow, ch, cl) v (nI k) :=
  br_c (fun h => h1 (decide_eq_true h)) (fun h => h0 (decide_eq_false h))
theorem xk_sa2 (h2 : 2 ≤ n) (h4 : n ≤ 4) (post : SX → Prop) (h : ∀ pa', bk_rp (2 * n) pa' (bk_M0 n) → post (nI n, nI len, w, pa', co, ow, ch, cl)) : ∀ d p pa, p + d = n → (∀ q, q < p → pa q = nI (n + q) ∧ pa (n + q) = nI q) → wX_startArcs_2 post (nI n) (nI len) (d + 1) (nI p) w pa co ow ch cl := by
  intro d
  induction d with
  | zero =>
    intro p pa hp hi
    refine br_t (nI_le (by omega) (by omega)) (h pa ?_)
    intro e he
    rw [bk_M0g h2 h4 e he]
    by_cases c : e < n
    · rw [if_pos c]
      exact (hi e (by omega)).1
    · rw [if_neg c]
      have := (hi (e - n) (by omega)).2
      rw [show n + (e - n) = e by omega] at this
      exact this
  | succ d ih =>
    intro p pa hp hi
    refine br_f (nI_ge (by omega) (by omega)) ⟨vp_in_nI (by omega) (by omega), ?_⟩
    intro a3 e3
    rw [nI_clamp (by omega), nI_add] at e3
    refine ⟨by rw [nI_add]; exact vp_in_nI (by omega) (by omega), ?_⟩
    intro a5 e5
    rw [nI_add, nI_clamp (by omega)] at e5
    refine nm_r (nI_1 p) (ih (p + 1) a5 (by omega) ?_)
    subst e3
    subst e5
    intro q hq
    by_cases e : q = p
    · subst e
      exact ⟨by rw [pk_un (by omega), pk_us], pk_us⟩
    · have hq' := hi q (by omega)
      exact ⟨by rw [pk_un (by omega), pk_un (by omega)]; exact hq'.1, by rw [pk_un (by omega), pk_un (by omega)]; exact hq'.2⟩
theorem xk_start (h2 : 2 ≤ n) (h4 : n ≤ 4) (post : SX → Prop) (h : ∀ pa', bk_rp (2 * n) pa' (bk_M0 n) → post (nI n, nI len, w, pa', co, ow, ch, cl)) : wpX_startArcs post (nI n, nI len, w, pa, co, ow, ch, cl) :=
  ⟨n + 1, xk_sa2 h2 h4 post h n 0 pa (by omega) (fun q hq => absurd hq (by omega))⟩
theorem xk_join {M : List Nat} (h4 : n ≤ 4) (hl : M.length = 2 * n) (hM : ∀ e, e < 2 * n → bk_g M e < 2 * n) (hr : bk_rp (2 * n) pa M) {a b : Nat} (ha : a < 2 * n) (hb : b < 2 * n) (post : Int32 → SX → Prop) (h : ∀ pa', bk_rp (2 * n) pa' (bk_je M a b).1 → post (nI (bk_je M a b).2) (nI n, nI len, w, pa', co, ow, ch, cl)) : wpX_joinEnds post (nI n, nI len, w, pa, co, ow, ch, cl) (nI a) (nI b) := by
  have ga := hM a ha
  have gb := hM b hb
  unfold wpX_joinEnds
  dsimp only
  rw [nI_clamp (show a < 2 ^ 31 by omega), nI_clamp (show b < 2 ^ 31 by omega), hr a ha, hr b hb]
  refine ⟨vp_in_nI (by omega) (by omega), pk_eq (bk_g M a) b (fun e => ?_) (fun e => ?_) rfl rfl (by omega) (by omega)⟩
  · have hj : bk_je M a b = (M, 1) := if_pos e
    rw [hj] at h
    exact h pa hr
  · have hj : bk_je M a b = ((M.set (bk_g M a) (bk_g M b)).set (bk_g M b) (bk_g M a), 0) := if_neg e
    rw [hj] at h
    refine ⟨vp_in_nI (by omega) (by omega), nm_e ⟨vp_in_nI (by omega) (by omega), nm_e ⟨vp_in_nI (by omega) (by omega), ?_⟩⟩⟩
    intro a8 e8
    rw [nI_clamp (by omega)] at e8
    refine ⟨vp_in_nI (by omega) (by omega), ?_⟩
    intro a10 e10
    rw [nI_clamp (by omega)] at e10
    subst e8
    subst e10
    exact h _ (bk_rps (bk_rps hr (by omega)) (by rw [List.length_set]; omega))
theorem xk_shut {M : List Nat} (h4 : n ≤ 4) (hl : M.length = 2 * n) (hM : ∀ e, e < 2 * n → bk_g M e < 2 * n) (hr : bk_rp (2 * n) pa M) {i : Nat} (hi : 1 ≤ i) (hin : i < n) (post : Int32 → SX → Prop) (h : ∀ pa', bk_rp (2 * n) pa' (bk_sa n M i).1 → post (nI (bk_sa n M i).2) (nI n, nI len, w, pa', co, ow, ch, cl)) : wpX_shutAt post (nI n, nI len, w, pa, co, ow, ch, cl) (nI i) := by
  have e1 : nI n + nI i - 1 = nI (n + i - 1) := by
    rw [nI_add]
    exact pk_sub (a := n + i) (b := 1) (by omega)
  refine nm_r e1 (nm_r (nI_add n i) ?_)
  refine xk_join h4 hl hM hr (by omega) (by omega) _ (fun pa' hp => ?_)
  refine ⟨vp_in_nI (by omega) (by omega), ?_⟩
  intro a13 e13
  rw [nI_clamp (by omega)] at e13
  refine ⟨vp_in_nI (by omega) (by omega), ?_⟩
  intro a15 e15
  rw [nI_clamp (by omega)] at e15
  subst e13
  subst e15
  have hj := bk_jel M (n + i - 1) (n + i)
  exact h _ (bk_rps (bk_rps hp (by omega)) (by rw [List.length_set]; omega))
theorem xk_l49 {M : List Nat} (h2 : 2 ≤ n) (h4 : n ≤ 4) (hM : M ∈ bk_T n) {c : Nat} (post : Int32 → SX → Prop) (h : ∀ pa', post (nI (c + (bk_cz n (M, 0) n).2)) (nI n, nI len, w, pa', co, ow, ch, cl)) : ∀ d p pa, p + d = n → bk_rp (2 * n) pa (bk_cz n (M, 0) p).1 → wX_loops_49 post (d + 1) (nI (c + (bk_cz n (M, 0) p).2)) (nI p) (nI n) (nI len) w pa co ow ch cl := by
  intro d
  induction d with
  | zero =>
    intro p pa hp hr
    have e : p = n := by omega
    rw [e]
    exact br_t (nI_le (by omega) (by omega)) (h pa)
  | succ d ih =>
    intro p pa hp hr
    have hz := bk_tz h2 h4 M hM p (by omega)
    refine br_f (nI_ge (by omega) (by omega)) ?_
    rw [nI_add n p]
    refine xk_join h4 hz.1 hz.2 hr (by omega) (by omega) _ (fun pa' hp' => ?_)
    refine nm_r ?_ (nm_r (nI_1 p) (ih (p + 1) pa' (by omega) hp'))
    rw [nI_add, Nat.add_assoc]
    rfl
theorem xk_l8 (hW : bk_W n len w) (v : Int32) (post : Int32 → SX → Prop) (h : ∀ pa', post (nI (bk_Fs n w len v)) (nI n, nI len, w, pa', co, ow, ch, cl)) : ∀ d k pa, k + d = len → bk_rp (2 * n) pa (bk_fa n (bk_z w) (bk_bt v) k).1 → wX_loops_8 post v (d + 1) (nI (bk_fa n (bk_z w) (bk_bt v) k).2) (nI k) (nI n) (nI len) w pa co ow ch cl := by
  intro d
  have h2 := hW.1
  have h4 := hW.2.1
  have hl := hW.2.2.1
  induction d with
  | zero =>
    intro k pa hk hr
    have e : k = len := by omega
    subst e
    have hM := (bk_fat (bt := bk_bt v) h2 h4 (bk_Wz hW) k (by omega)).1
    refine br_t (nI_le (by omega) (by omega)) ⟨n + 1, xk_l49 h2 h4 hM post (fun pa' => ?_) n 0 pa (by omega) hr⟩
    rw [← bk_Fe]
    exact h pa'
  | succ d ih =>
    intro k pa hk hr
    have hM := (bk_fat (bt := bk_bt v) h2 h4 (bk_Wz hW) k (by omega)).1
    have hz := bk_Wz hW k (by omega)
    have ht := bk_tl h2 h4 _ hM
    have e1 : bk_fa n (bk_z w) (bk_bt v) (k + 1) = if bk_bt v k then bk_cs2 (bk_fa n (bk_z w) (bk_bt v) k).2 (bk_sa n (bk_fa n (bk_z w) (bk_bt v) k).1 (bk_z w k)) else bk_fa n (bk_z w) (bk_bt v) k := rfl
    refine br_f (nI_ge (by omega) (by omega)) (xk_isShut _ (fun hb => ?_) (fun hb => ?_))
    · refine br_f (by decide) (xk_right hW (by omega) _ ?_)
      rw [hb, if_pos rfl] at e1
      refine xk_shut h4 ht.1 ht.2 hr hz.1 hz.2 _ (fun pa' hp => ?_)
      have ih' := ih (k + 1) pa' (by omega) (by rw [e1]; exact hp)
      rw [e1] at ih'
      refine nm_r ?_ (nm_r (nI_1 k) ih')
      rw [nI_add]
      rfl
    · rw [hb, if_neg (by decide)] at e1
      have ih' := ih (k + 1) pa (by omega) (by rw [e1]; exact hr)
      rw [e1] at ih'
      exact br_t rfl (nm_r (nI_1 k) ih')
theorem xk_loops (hW : bk_W n len w) (v : Int32) (post : Int32 → SX → Prop) (h : ∀ pa', post (nI (bk_Fs n w len v)) (nI n, nI len, w, pa', co, ow, ch, cl)) : wpX_loops post (nI n, nI len, w, pa, co, ow, ch, cl) v :=
  xk_start hW.1 hW.2.1 _ (fun pa' hp => ⟨len + 1, xk_l8 hW v post h len 0 pa' (by omega) hp⟩)
end
