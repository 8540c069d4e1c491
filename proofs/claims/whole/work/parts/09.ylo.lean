def bk_b (b : Bool) : Int32 := if b then 1 else 0
def bk_J (j : Nat → Int32) (rt : Nat → Nat) : Prop := ∀ x, x < 40 → ∃ y, y ≤ x ∧ j x = nI y ∧ rt y = rt x ∧ (y = x → rt x = x)
theorem bk_pd {i : Nat} (h : 1 ≤ i) : nI i - 1 = nI (i - 1) := pk_sub (a := i) (b := 1) h
theorem bk_am (a : Nat) {i : Nat} (h : 1 ≤ i) : nI a + nI i - 1 = nI (a + i - 1) := by
  rw [nI_add]
  exact bk_pd (by omega)
theorem bk_flU {A B i : Nat} {shut : Bool} {rt : Nat → Nat} (h : bk_U rt) : ∀ p, bk_U (bk_fl A B i shut rt p) := by
  intro p
  induction p with
  | zero =>
    cases shut with
    | false => exact h
    | true => exact bk_mrU (bk_mrU h _ _) _ _
  | succ p ih =>
    show bk_U (if bk_sk shut i p then bk_fl A B i shut rt p else bk_mr (bk_fl A B i shut rt p) (A + p) (B + p))
    split
    · exact ih
    · exact bk_mrU ih _ _
theorem bk_rtU (n len : Nat) (sz : Nat → Nat) (bt : Nat → Bool) : ∀ k, bk_U (bk_rt n len sz bt k) := by
  intro k
  induction k with
  | zero => exact fun x => ⟨Nat.le_refl x, rfl⟩
  | succ k ih => exact bk_flU ih n
theorem bk_Ju0 {j : Nat → Int32} {rt : Nat → Nat} (hJ : bk_J j rt) (hU : bk_U rt) {x y : Nat} (hl : rt x ≤ rt y) : bk_J (upd j (rt y) (nI (rt x))) (bk_mr rt x y) := by
  rw [bk_mr_le hl]
  intro z hz
  dsimp only
  have ux := (hU x).2
  have uy := (hU y).2
  by_cases e : z = rt y
  · have v1 : (if rt (rt x) = rt y then rt x else rt (rt x)) = rt x := by
      rw [ux]
      split <;> rfl
    have v2 : (if rt z = rt y then rt x else rt z) = rt x := by
      rw [e, uy]
      exact if_pos rfl
    refine ⟨rt x, by omega, by rw [e]; exact pk_us, ?_, ?_⟩
    · rw [v1, v2]
    · intro q
      rw [v2]
      exact q
  · obtain ⟨t, t1, t2, t3, t4⟩ := hJ z hz
    refine ⟨t, t1, by rw [pk_un e]; exact t2, by rw [t3], fun q => ?_⟩
    have t5 := t4 q
    rw [if_neg (by omega)]
    exact t5
section
variable {n len : Nat} {kn : Int32} {w j mn cf cy cm : Nat → Int32} {rt : Nat → Nat}
theorem yk_size (hW : bk_W n len w) {k : Nat} (hk : k < len) (post : Int32 → Prop) (h : post (nI (bk_z w k))) : wpY_size post (nI n, nI len, kn, w, j, mn, cf, cy, cm) (w k) := by
  have hz := bk_zv hW.2.1 (hW.2.2.2 k hk)
  rcases hz.2.2 with ⟨a1, a2, a3, a4, a5, a6⟩ | ⟨a1, a2, a3, a4, a5, a6⟩
  · rw [← a5] at h
    exact br_t a4 h
  · rw [← a5] at h
    exact br_f a4 h
theorem yk_sign (hW : bk_W n len w) {k : Nat} (hk : k < len) (post : Int32 → Prop) (h : post (bk_s w k)) : wpY_sign post (nI n, nI len, kn, w, j, mn, cf, cy, cm) (w k) := by
  have hz := bk_zv hW.2.1 (hW.2.2.2 k hk)
  rcases hz.2.2 with ⟨a1, a2, a3, a4, a5, a6⟩ | ⟨a1, a2, a3, a4, a5, a6⟩
  · rw [a6] at h
    exact br_t a4 h
  · rw [a6] at h
    exact br_f a4 h
theorem yk_l2 (hJ : bk_J j rt) {r : Nat} (post : Int32 → Prop) (h : post (nI r)) : ∀ N x, x < N → x < 40 → rt x = r → wY_least_2 post (nI n) (nI len) kn w j mn cf cy cm N (nI x) := by
  intro N
  induction N with
  | zero => intro x hx; omega
  | succ N ih =>
    intro x hx hx4 hr
    obtain ⟨y, y1, y2, y3, y4⟩ := hJ x hx4
    refine ⟨vp_in_nI (by omega) (by omega), ?_⟩
    rw [nI_clamp (show x < 2 ^ 31 by omega), y2]
    refine pk_eq y x (fun e => ?_) (fun e => ⟨vp_in_nI (by omega) (by omega), nm_e (ih y (by omega) (by omega) (by rw [y3]; exact hr))⟩) rfl rfl (by omega) (by omega)
    have := y4 e
    rw [← hr, this] at h
    exact h
theorem yk_least (hJ : bk_J j rt) {x : Nat} (hx : x < 40) (post : Int32 → Prop) (h : post (nI (rt x))) : wpY_least post (nI n, nI len, kn, w, j, mn, cf, cy, cm) (nI x) :=
  ⟨x + 1, yk_l2 hJ post h (x + 1) x (by omega) hx rfl⟩
theorem yk_join (hJ : bk_J j rt) (hU : bk_U rt) {x y : Nat} (hx : x < 40) (hy : y < 40) (post : SY → Prop) (h : ∀ j', bk_J j' (bk_mr rt x y) → post (nI n, nI len, kn, w, j', mn, cf, cy, cm)) : wpY_join post (nI n, nI len, kn, w, j, mn, cf, cy, cm) (nI x) (nI y) := by
  have ux := (hU x).1
  have uy := (hU y).1
  refine yk_least hJ hx _ (yk_least hJ hy _ ?_)
  refine pk_le (rt y) (rt x) (fun c => ⟨vp_in_nI (by omega) (by omega), ?_⟩) (fun c => ⟨vp_in_nI (by omega) (by omega), ?_⟩) rfl rfl (by omega) (by omega)
  · intro a ea
    rw [nI_clamp (by omega)] at ea
    subst ea
    refine h _ ?_
    rw [bk_mr_cm]
    exact bk_Ju0 hJ hU c
  · intro a ea
    rw [nI_clamp (by omega)] at ea
    subst ea
    exact h _ (bk_Ju0 hJ hU (by omega))
theorem yk_p74 (h4 : n ≤ 4) {A B i : Nat} {shut : Bool} (hA : A + 4 ≤ 40) (hB : B + 4 ≤ 40) (hi : 1 ≤ i) (hin : i < n) (hU : bk_U rt) (post : SY → Prop) (h : ∀ j', bk_J j' (bk_fl A B i shut rt n) → post (nI n, nI len, kn, w, j', mn, cf, cy, cm)) : ∀ d p j, p + d = n → bk_J j (bk_fl A B i shut rt p) → wY_pass_74 post (bk_b shut) (nI A) (nI B) (nI i) (d + 1) (nI p) (nI n) (nI len) kn w j mn cf cy cm := by
  intro d
  induction d with
  | zero =>
    intro p j hp hj
    have e : p = n := by omega
    rw [e] at hj ⊢
    exact br_t (nI_le (by omega) (by omega)) (h j hj)
  | succ d ih =>
    intro p j hp hj
    have hu := bk_flU (A := A) (B := B) (i := i) (shut := shut) hU p
    have J : bk_sk shut i p = false → wY_pass_103 post (wY_pass_74 post (bk_b shut) (nI A) (nI B) (nI i) (d + 1)) (bk_b shut) (nI A) (nI B) (nI i) (nI p) (nI n) (nI len) kn w j mn cf cy cm := by
      intro hs
      have e : bk_fl A B i shut rt (p + 1) = bk_mr (bk_fl A B i shut rt p) (A + p) (B + p) := if_neg (by rw [hs]; decide)
      unfold wY_pass_103
      rw [nI_add A p, nI_add B p]
      refine yk_join hj hu (by omega) (by omega) _ (fun j' hj' => ?_)
      exact nm_r (nI_1 p) (ih (p + 1) j' (by omega) (by rw [e]; exact hj'))
    refine br_f (nI_ge (by omega) (by omega)) ?_
    cases shut with
    | false => exact br_t rfl (J rfl)
    | true =>
      refine br_f (by decide) (pk_eq p (i - 1) (fun c => ?_) (fun c => pk_eq p i (fun c2 => ?_) (fun c2 => ?_) rfl rfl (by omega) (by omega)) rfl (bk_pd hi) (by omega) (by omega))
      · have hs : bk_sk true i p = true := by
          unfold bk_sk
          rw [show (p + 1 == i) = true from beq_iff_eq.mpr (by omega)]
          rfl
        have e : bk_fl A B i true rt (p + 1) = bk_fl A B i true rt p := if_pos hs
        exact nm_r (nI_1 p) (ih (p + 1) j (by omega) (by rw [e]; exact hj))
      · have hs : bk_sk true i p = true := by
          unfold bk_sk
          rw [show (p == i) = true from beq_iff_eq.mpr c2, Bool.or_true]
          rfl
        have e : bk_fl A B i true rt (p + 1) = bk_fl A B i true rt p := if_pos hs
        exact nm_r (nI_1 p) (ih (p + 1) j (by omega) (by rw [e]; exact hj))
      · refine J ?_
        unfold bk_sk
        rw [show (p + 1 == i) = false from beq_eq_false_iff_ne.mpr (by omega), show (p == i) = false from beq_eq_false_iff_ne.mpr c2]
        rfl
theorem yk_p23 (hW : bk_W n len w) {k : Nat} (hk : k < len) {A B : Nat} {shut : Bool} (hA : A + 4 ≤ 40) (hB : B + 4 ≤ 40) (hU : bk_U rt) (hJ : bk_J j rt) (post : SY → Prop) (h : ∀ j', bk_J j' (bk_fl A B (bk_z w k) shut rt n) → post (nI n, nI len, kn, w, j', mn, cf, cy, cm)) : wY_pass_23 post (nI k) (bk_b shut) (nI A) (nI B) (nI n) (nI len) kn w j mn cf cy cm := by
  have h4 := hW.2.1
  have hl := hW.2.2.1
  have hz := bk_Wz hW k hk
  have main := yk_p74 (len := len) (kn := kn) (w := w) (mn := mn) (cf := cf) (cy := cy) (cm := cm) h4 (shut := shut) hA hB hz.1 hz.2 hU post h n 0
  unfold wY_pass_23
  rw [nI_clamp (show k < 2 ^ 31 by omega)]
  refine ⟨vp_in_nI (by omega) (by omega), yk_size hW hk _ ?_⟩
  cases shut with
  | false => exact br_t rfl ⟨n + 1, main j (by omega) hJ⟩
  | true =>
    refine br_f (by decide) ?_
    dsimp only
    rw [bk_am A hz.1, bk_am B hz.1, nI_add A, nI_add B]
    refine yk_join hJ hU (by omega) (by omega) _ (fun j1 hj1 => ?_)
    refine yk_join hj1 (bk_mrU hU _ _) (by omega) (by omega) _ (fun j2 hj2 => ?_)
    exact ⟨n + 1, main j2 (by omega) hj2⟩
theorem yk_pass (hW : bk_W n len w) {k : Nat} (hk : k < len) {shut : Bool} (hU : bk_U rt) (hJ : bk_J j rt) (post : SY → Prop) (h : ∀ j', bk_J j' (bk_fl (4 * k) (bk_be len k) (bk_z w k) shut rt n) → post (nI n, nI len, kn, w, j', mn, cf, cy, cm)) : wpY_pass post (nI n, nI len, kn, w, j, mn, cf, cy, cm) (nI k) (bk_b shut) := by
  have hl := hW.2.2.1
  have e4 : (4 : Int32) * nI k = nI (4 * k) := pk_mul 4 k
  refine nm_r e4 (pk_eq k (len - 1) (fun c => ?_) (fun c => ?_) rfl (bk_pd (by omega)) (by omega) (by omega))
  · have eb : bk_be len k = 0 := if_pos (by omega)
    rw [eb] at h
    exact yk_p23 hW hk (A := 4 * k) (B := 0) (by omega) (by omega) hU hJ post h
  · have eb : bk_be len k = 4 * k + 4 := if_neg (by omega)
    rw [eb] at h
    have e5 : (4 : Int32) * nI k + 4 = nI (4 * k + 4) := by
      rw [e4]
      exact nI_add (4 * k) 4
    rw [e5]
    exact yk_p23 hW hk (A := 4 * k) (B := 4 * k + 4) (by omega) (by omega) hU hJ post h
theorem yk_c72 (h4 : n ≤ 4) (hl : len ≤ 10) (hU : bk_U rt) (hJ : bk_J j rt) (post : Int32 → SY → Prop) (h : post (nI (bk_C n (4 * len) rt)) (nI n, nI len, kn, w, j, mn, cf, cy, cm)) : ∀ d x, x + d = 4 * len → wY_count_72 post (nI n) (nI len) kn w j mn cf cy cm (d + 1) (nI (bk_ct (fun x => decide (x % 4 < n) && decide (rt x = x)) x)) (nI x) := by
  have e4 : (4 : Int32) * nI len = nI (4 * len) := pk_mul 4 len
  intro d
  induction d with
  | zero =>
    intro x hx
    have e : x = 4 * len := by omega
    refine br_t (by rw [e4]; exact nI_le (by omega) (by omega)) ?_
    rw [e]
    exact h
  | succ d ih =>
    intro x hx
    have ih' := ih (x + 1) (by omega)
    have ec : bk_ct (fun x => decide (x % 4 < n) && decide (rt x = x)) (x + 1) = bk_ct (fun x => decide (x % 4 < n) && decide (rt x = x)) x + if (decide (x % 4 < n) && decide (rt x = x)) then 1 else 0 := rfl
    have er : nI x - nI x / 4 * 4 = nI (x % 4) := pk_rem (a := x) (d := 4) (by omega) (by decide) (by decide)
    refine br_f (by rw [e4]; exact nI_ge (by omega) (by omega)) ⟨by decide, pk_le n (x % 4) (fun c => ?_) (fun c => ⟨vp_in_nI (by omega) (by omega), ?_⟩) rfl er (by omega) (by omega)⟩
    · rw [ec, decide_eq_false (show ¬ x % 4 < n by omega), Bool.false_and, if_neg (by decide)] at ih'
      exact nm_r (nI_1 x) ih'
    · obtain ⟨y, y1, y2, y3, y4⟩ := hJ x (by omega)
      rw [nI_clamp (show x < 2 ^ 31 by omega), y2]
      refine pk_eq y x (fun e => ?_) (fun e => ?_) rfl rfl (by omega) (by omega)
      · rw [ec, decide_eq_true c, decide_eq_true (y4 e), Bool.true_and, if_pos rfl] at ih'
        exact nm_r (nI_1 _) (nm_r (nI_1 x) ih')
      · have ne : ¬ rt x = x := by
          intro q
          have := (hU y).1
          omega
        rw [ec, decide_eq_false ne, Bool.and_false, if_neg (by decide)] at ih'
        exact nm_r (nI_1 x) ih'
theorem yk_c35 (hW : bk_W n len w) (v : Int32) (post : Int32 → SY → Prop) (h : ∀ j', post (nI (bk_C n (4 * len) (bk_rt n len (bk_z w) (bk_bt v) len))) (nI n, nI len, kn, w, j', mn, cf, cy, cm)) : ∀ d k j, k + d = len → bk_J j (bk_rt n len (bk_z w) (bk_bt v) k) → wY_count_35 post v (d + 1) (nI k) (nI n) (nI len) kn w j mn cf cy cm := by
  have h4 := hW.2.1
  have hl := hW.2.2.1
  intro d
  induction d with
  | zero =>
    intro k j hk hj
    have e : k = len := by omega
    rw [e] at hj ⊢
    exact br_t (nI_le (by omega) (by omega)) ⟨4 * len + 1, yk_c72 h4 hl (bk_rtU _ _ _ _ _) hj post (h j) (4 * len) 0 (by omega)⟩
  | succ d ih =>
    intro k j hk hj
    have st : wY_count_59 post (wY_count_35 post v (d + 1)) v (nI k) (bk_b (bk_bt v k)) (nI k) (nI n) (nI len) kn w j mn cf cy cm := by
      refine yk_pass hW (by omega) (bk_rtU _ _ _ _ _) hj _ (fun j' hj' => ?_)
      exact nm_r (nI_1 k) (ih (k + 1) j' (by omega) hj')
    refine br_f (nI_ge (by omega) (by omega)) (br_c (fun hb => ?_) (fun hb => ?_))
    · have e : bk_bt v k = true := decide_eq_true hb
      rw [e] at st
      exact st
    · have e : bk_bt v k = false := decide_eq_false hb
      rw [e] at st
      exact st
theorem yk_c14 (v : Int32) (post : Int32 → SY → Prop) (h : ∀ j', bk_J j' (fun x => x) → ∃ n35, wY_count_35 post v n35 (nI 0) (nI n) (nI len) kn w j' mn cf cy cm) : ∀ d p j, p + d = 40 → (∀ x, x < p → j x = nI x) → wY_count_14 post v (nI n) (nI len) kn (d + 1) (nI p) w j mn cf cy cm := by
  intro d
  induction d with
  | zero =>
    intro p j hp hj
    exact br_t (nI_le (a := 40) (by omega) (by omega)) (h j (fun x hx => ⟨x, Nat.le_refl x, hj x (by omega), rfl, fun _ => rfl⟩))
  | succ d ih =>
    intro p j hp hj
    refine br_f (nI_ge (b := 40) (by omega) (by decide)) ⟨vp_in_nI (by omega) (by omega), ?_⟩
    intro a ea
    rw [nI_clamp (by omega)] at ea
    subst ea
    refine nm_r (nI_1 p) (ih (p + 1) _ (by omega) ?_)
    intro x hx
    by_cases e : x = p
    · rw [e]
      exact pk_us
    · rw [pk_un e]
      exact hj x (by omega)
theorem yk_count (hW : bk_W n len w) (v : Int32) (post : Int32 → SY → Prop) (h : ∀ j', post (nI (bk_Fs n w len v)) (nI n, nI len, kn, w, j', mn, cf, cy, cm)) : wpY_count post (nI n, nI len, kn, w, j, mn, cf, cy, cm) v := by
  have hl := hW.2.2.1
  have hm : bk_cnt n len (bk_z w) (bk_bt v) = bk_Fs n w len v := bk_main hW.1 hW.2.1 (by omega) (bk_Wz hW)
  refine pk_eq len 0 (fun e => ?_) (fun e => ⟨41, ?_⟩) rfl rfl (by omega) (by omega)
  · have h' := h j
    rw [← hm, show bk_cnt n len (bk_z w) (bk_bt v) = n from if_pos e] at h'
    exact h'
  · refine yk_c14 v post (fun j' hj' => ⟨len + 1, yk_c35 hW v post (fun j'' => ?_) len 0 j' (by omega) hj'⟩) 40 0 j (by omega) (fun x hx => absurd hx (by omega))
    have h' := h j''
    rw [← hm, show bk_cnt n len (bk_z w) (bk_bt v) = bk_C n (4 * len) (bk_rt n len (bk_z w) (bk_bt v) len) from if_neg e] at h'
    exact h'
theorem yk_loops (hW : bk_W n len w) (v : Int32) (post : Int32 → SY → Prop) (h : ∀ j', post (nI (bk_Fs n w len v)) (nI n, nI len, kn, w, j', mn, cf, cy, cm)) : wpY_loops post (nI n, nI len, kn, w, j, mn, cf, cy, cm) v :=
  yk_count hW v _ h
end
