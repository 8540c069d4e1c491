def bk_mr (rt : Nat → Nat) (x y : Nat) : Nat → Nat := fun z => if rt z = max (rt x) (rt y) then min (rt x) (rt y) else rt z
def bk_U (rt : Nat → Nat) : Prop := ∀ x, rt x ≤ x ∧ rt (rt x) = rt x
def bk_V (n : Nat) (rt : Nat → Nat) : Prop := ∀ x, x % 4 < n → rt x % 4 < n
theorem bk_mr_le {rt : Nat → Nat} {x y : Nat} (h : rt x ≤ rt y) : bk_mr rt x y = fun z => if rt z = rt y then rt x else rt z := by
  funext z
  unfold bk_mr
  rw [Nat.max_eq_right h, Nat.min_eq_left h]
theorem bk_mr_cm (rt : Nat → Nat) (x y : Nat) : bk_mr rt x y = bk_mr rt y x := by
  funext z
  unfold bk_mr
  rw [Nat.max_comm, Nat.min_comm]
theorem bk_mrU0 {rt : Nat → Nat} {x y : Nat} (h : bk_U rt) (hl : rt x ≤ rt y) : bk_U (bk_mr rt x y) := by
  rw [bk_mr_le hl]
  intro z
  have hz := h z
  have hx := h x
  have hy := h y
  by_cases e : rt z = rt y
  · dsimp only
    rw [if_pos e, hx.2]
    refine ⟨by omega, ?_⟩
    split <;> rfl
  · dsimp only
    rw [if_neg e, hz.2, if_neg e]
    exact ⟨hz.1, rfl⟩
theorem bk_mrU {rt : Nat → Nat} (h : bk_U rt) (x y : Nat) : bk_U (bk_mr rt x y) := by
  rcases Nat.le_total (rt x) (rt y) with hl | hl
  · exact bk_mrU0 h hl
  · rw [bk_mr_cm]
    exact bk_mrU0 h hl
theorem bk_mrV {n : Nat} {rt : Nat → Nat} {x y : Nat} (h : bk_V n rt) (hx : x % 4 < n) (hy : y % 4 < n) : bk_V n (bk_mr rt x y) := by
  intro z hz
  have a := h x hx
  have b := h y hy
  have c := h z hz
  rcases Nat.le_total (rt x) (rt y) with hl | hl
  · rw [bk_mr_le hl]
    dsimp only
    split <;> assumption
  · rw [bk_mr_cm, bk_mr_le hl]
    dsimp only
    split <;> assumption
def bk_ct (P : Nat → Bool) : Nat → Nat
  | 0 => 0
  | N + 1 => bk_ct P N + if P N then 1 else 0
theorem bk_ct_cg {P Q : Nat → Bool} : ∀ N, (∀ z, z < N → P z = Q z) → bk_ct P N = bk_ct Q N := by
  intro N
  induction N with
  | zero => exact fun _ => rfl
  | succ N ih =>
    intro h
    show bk_ct P N + (if P N then 1 else 0) = bk_ct Q N + (if Q N then 1 else 0)
    rw [ih (fun z hz => h z (by omega)), h N (by omega)]
theorem bk_ct_rm {P Q : Nat → Bool} {a : Nat} (hp : P a = true) (hq : ∀ z, Q z = (P z && decide (z ≠ a))) : ∀ N, a < N → bk_ct Q N + 1 = bk_ct P N := by
  intro N
  induction N with
  | zero => intro h; omega
  | succ N ih =>
    intro h
    show bk_ct Q N + (if Q N then 1 else 0) + 1 = bk_ct P N + (if P N then 1 else 0)
    by_cases e : a = N
    · subst e
      have h1 : bk_ct Q a = bk_ct P a := bk_ct_cg a (fun z hz => by
        rw [hq z, decide_eq_true (show z ≠ a by omega), Bool.and_true])
      have h2 : Q a = false := by
        rw [hq a, decide_eq_false (show ¬ a ≠ a from fun q => q rfl), Bool.and_false]
      rw [h1, h2, hp]
      rfl
    · have h1 := ih (by omega)
      have h2 : Q N = P N := by
        rw [hq N, decide_eq_true (show N ≠ a by omega), Bool.and_true]
      rw [h2]
      omega
def bk_C (n L : Nat) (rt : Nat → Nat) : Nat := bk_ct (fun x => decide (x % 4 < n) && decide (rt x = x)) L
theorem bk_mr_eq {rt : Nat → Nat} {x y : Nat} (h : rt x = rt y) : bk_mr rt x y = rt := by
  rw [bk_mr_le (Nat.le_of_eq h)]
  funext z
  split
  · rename_i e
    rw [e, h]
  · rfl
theorem bk_C_lt {n L : Nat} {rt : Nat → Nat} {x y : Nat} (hU : bk_U rt) (hV : bk_V n rt) (hy : y < L) (hm : y % 4 < n) (hl : rt x < rt y) : bk_C n L (bk_mr rt x y) + 1 = bk_C n L rt := by
  rw [bk_mr_le (Nat.le_of_lt hl)]
  unfold bk_C
  have ux := hU x
  have uy := hU y
  refine bk_ct_rm (a := rt y) ?_ ?_ L (by omega)
  · show (decide (rt y % 4 < n) && decide (rt (rt y) = rt y)) = true
    rw [decide_eq_true (hV y hm), decide_eq_true uy.2]
    rfl
  · intro z
    dsimp only
    rw [Bool.and_assoc]
    refine congrArg (fun b => decide (z % 4 < n) && b) ?_
    rw [Bool.eq_iff_iff, Bool.and_eq_true, decide_eq_true_eq, decide_eq_true_eq, decide_eq_true_eq]
    by_cases e : rt z = rt y
    · rw [if_pos e]
      constructor
      · intro q
        rw [← q, ux.2] at e
        omega
      · intro q
        omega
    · rw [if_neg e]
      constructor
      · intro q
        refine ⟨q, fun q2 => e ?_⟩
        rw [q2, uy.2]
      · exact fun q => q.1
theorem bk_C_mr {n L : Nat} {rt : Nat → Nat} {x y : Nat} (hU : bk_U rt) (hV : bk_V n rt) (hx : x < L) (hxm : x % 4 < n) (hy : y < L) (hym : y % 4 < n) : bk_C n L (bk_mr rt x y) + (if rt x = rt y then 0 else 1) = bk_C n L rt := by
  by_cases e : rt x = rt y
  · rw [if_pos e, bk_mr_eq e]
    rfl
  · rw [if_neg e]
    rcases Nat.lt_or_ge (rt x) (rt y) with hl | hl
    · exact bk_C_lt hU hV hy hym hl
    · rw [bk_mr_cm]
      exact bk_C_lt hU hV hx hxm (by omega)
def bk_K (E : Nat → Nat) (N : Nat) (rt R : Nat → Nat) : Prop := ∀ e, e < N → ∀ f, f < N → (rt (E e) = rt (E f) ↔ R e = R f)
theorem bk_mg_cm (R : Nat → Nat) (a b e f : Nat) : (bk_mg R a b e = bk_mg R a b f) ↔ (bk_mg R b a e = bk_mg R b a f) := by
  unfold bk_mg
  repeat' split
  all_goals omega
theorem bk_K_le {E : Nat → Nat} {N : Nat} {rt R : Nat → Nat} {a b : Nat} (h : bk_K E N rt R) (ha : a < N) (hb : b < N) (hl : rt (E a) ≤ rt (E b)) : bk_K E N (bk_mr rt (E a) (E b)) (bk_mg R a b) := by
  intro e he f hf
  rw [bk_mr_le hl]
  dsimp only
  unfold bk_mg
  have h1 := h e he b hb
  have h2 := h f hf b hb
  have h3 := h e he f hf
  have h4 := h e he a ha
  have h5 := h a ha f hf
  have h6 := h f hf a ha
  by_cases c1 : rt (E e) = rt (E b)
  · by_cases c2 : rt (E f) = rt (E b)
    · rw [if_pos c1, if_pos c2, if_pos (h1.mp c1), if_pos (h2.mp c2)]
      exact ⟨fun _ => rfl, fun _ => rfl⟩
    · rw [if_pos c1, if_neg c2, if_pos (h1.mp c1), if_neg (fun q => c2 (h2.mpr q))]
      exact h5
  · by_cases c2 : rt (E f) = rt (E b)
    · rw [if_neg c1, if_pos c2, if_neg (fun q => c1 (h1.mpr q)), if_pos (h2.mp c2)]
      exact h4
    · rw [if_neg c1, if_neg c2, if_neg (fun q => c1 (h1.mpr q)), if_neg (fun q => c2 (h2.mpr q))]
      exact h3
theorem bk_K_mr {E : Nat → Nat} {N : Nat} {rt R : Nat → Nat} {a b : Nat} (h : bk_K E N rt R) (ha : a < N) (hb : b < N) : bk_K E N (bk_mr rt (E a) (E b)) (bk_mg R a b) := by
  rcases Nat.le_total (rt (E a)) (rt (E b)) with hl | hl
  · exact bk_K_le h ha hb hl
  · rw [bk_mr_cm]
    intro e he f hf
    rw [bk_mg_cm]
    exact bk_K_le h hb ha hl e he f hf
def bk_B (n L X : Nat) (E rt : Nat → Nat) (s : (Nat → Nat) × Nat) (d : Nat) : Prop :=
  bk_U rt ∧ bk_V n rt ∧ bk_K E (2 * n) rt s.1 ∧ bk_C n L rt + d = X + s.2
theorem bk_Bm {n L X d : Nat} {E rt : Nat → Nat} {s : (Nat → Nat) × Nat} (h : bk_B n L X E rt s d) {a b : Nat} (ha : a < 2 * n) (hb : b < 2 * n) (h1 : E a < L) (h2 : E a % 4 < n) (h3 : E b < L) (h4 : E b % 4 < n) : bk_B n L X E (bk_mr rt (E a) (E b)) (bk_ms s a b) (d + 1) := by
  obtain ⟨hU, hV, hK, hC⟩ := h
  refine ⟨bk_mrU hU _ _, bk_mrV hV h2 h4, bk_K_mr hK ha hb, ?_⟩
  have hc := bk_C_mr (L := L) hU hV h1 h2 h3 h4
  have hk := hK a ha b hb
  show _ = X + (s.2 + if s.1 a = s.1 b then 1 else 0)
  by_cases e : rt (E a) = rt (E b)
  · rw [if_pos e] at hc
    rw [if_pos (hk.mp e)]
    omega
  · rw [if_neg e] at hc
    rw [if_neg (fun q => e (hk.mpr q))]
    omega
def bk_fl (above below i : Nat) (shut : Bool) (rt : Nat → Nat) : Nat → (Nat → Nat)
  | 0 => if shut then bk_mr (bk_mr rt (above + i - 1) (above + i)) (below + i - 1) (below + i) else rt
  | p + 1 => if bk_sk shut i p then bk_fl above below i shut rt p else bk_mr (bk_fl above below i shut rt p) (above + p) (below + p)
def bk_be (len k : Nat) : Nat := if k + 1 = len then 0 else 4 * k + 4
def bk_rt (n len : Nat) (sz : Nat → Nat) (bt : Nat → Bool) : Nat → (Nat → Nat)
  | 0 => fun x => x
  | k + 1 => bk_fl (4 * k) (bk_be len k) (sz k) (bt k) (bk_rt n len sz bt k) n
def bk_cnt (n len : Nat) (sz : Nat → Nat) (bt : Nat → Bool) : Nat := if len = 0 then n else bk_C n (4 * len) (bk_rt n len sz bt len)
def bk_E (n k e : Nat) : Nat := if e < n then e else 4 * k + (e - n)
theorem bk_Elo {n k e : Nat} (h : e < n) : bk_E n k e = e := if_pos h
theorem bk_Ehi (n k q : Nat) : bk_E n k (n + q) = 4 * k + q := by
  unfold bk_E
  rw [if_neg (by omega)]
  omega
def bk_nd (shut : Bool) (i : Nat) : Nat → Nat
  | 0 => if shut then 2 else 0
  | p + 1 => if bk_sk shut i p then bk_nd shut i p else bk_nd shut i p + 1
theorem bk_ndt {n : Nat} (h2 : 2 ≤ n) (h4 : n ≤ 4) : ∀ i, i < n → 1 ≤ i → bk_nd true i n = n ∧ bk_nd false i n = n :=
  bk_n (P := fun n => ∀ i, i < n → 1 ≤ i → bk_nd true i n = n ∧ bk_nd false i n = n) h2 h4 (by decide +kernel) (by decide +kernel) (by decide +kernel)
theorem bk_last {n len k i X : Nat} {shut : Bool} {rt R : Nat → Nat} (h4 : n ≤ 4) (hk : k < len) (hi : 1 ≤ i) (hin : i < n) (h : bk_B n (4 * len) X (bk_E n k) rt (R, 0) 0) : ∀ p, p ≤ n → bk_B n (4 * len) X (bk_E n k) (bk_fl (4 * k) 0 i shut rt p) (bk_lf n i shut R p) (bk_nd shut i p) := by
  intro p
  induction p with
  | zero =>
    intro _
    cases shut with
    | false => exact h
    | true =>
      have e1 : bk_E n k (n + i - 1) = 4 * k + i - 1 := by
        have := bk_Ehi n k (i - 1)
        rw [show n + (i - 1) = n + i - 1 by omega] at this
        omega
      have e2 : bk_E n k (n + i) = 4 * k + i := bk_Ehi n k i
      have e3 : bk_E n k (i - 1) = 0 + i - 1 := by
        rw [bk_Elo (by omega)]
        omega
      have e4 : bk_E n k i = 0 + i := by
        rw [bk_Elo hin]
        omega
      have s1 := bk_Bm h (a := n + i - 1) (b := n + i) (by omega) (by omega) (by rw [e1]; omega) (by rw [e1]; omega) (by rw [e2]; omega) (by rw [e2]; omega)
      have s2 := bk_Bm s1 (a := i - 1) (b := i) (by omega) (by omega) (by rw [e3]; omega) (by rw [e3]; omega) (by rw [e4]; omega) (by rw [e4]; omega)
      rw [e1, e2, e3, e4] at s2
      exact s2
  | succ p ih =>
    intro hp
    have h0 := ih (by omega)
    show bk_B n (4 * len) X (bk_E n k) (if bk_sk shut i p then bk_fl (4 * k) 0 i shut rt p else bk_mr (bk_fl (4 * k) 0 i shut rt p) (4 * k + p) (0 + p)) (if bk_sk shut i p then bk_lf n i shut R p else bk_ms (bk_lf n i shut R p) (n + p) p) (if bk_sk shut i p then bk_nd shut i p else bk_nd shut i p + 1)
    cases hs : bk_sk shut i p with
    | true => exact h0
    | false =>
      have e1 : bk_E n k (n + p) = 4 * k + p := bk_Ehi n k p
      have e2 : bk_E n k p = 0 + p := by
        rw [bk_Elo (by omega)]
        omega
      have s1 := bk_Bm h0 (a := n + p) (b := p) (by omega) (by omega) (by rw [e1]; omega) (by rw [e1]; omega) (by rw [e2]; omega) (by rw [e2]; omega)
      rw [e1, e2] at s1
      exact s1
def bk_q (k i : Nat) (shut : Bool) (rt2 : Nat → Nat) (p z : Nat) : Nat :=
  if 4 * k + 4 ≤ z ∧ z < 4 * k + 4 + p ∧ bk_sk shut i (z - (4 * k + 4)) = false then rt2 (z - 4) else rt2 z
theorem bk_flf {k i : Nat} {shut : Bool} {rt : Nat → Nat} (h1 : ∀ z, z < 4 * k + 4 → bk_fl (4 * k) (4 * k + 4) i shut rt 0 z < 4 * k + 4)
    (h2 : ∀ p, p < 4 → bk_sk shut i p = false → bk_fl (4 * k) (4 * k + 4) i shut rt 0 (4 * k + 4 + p) = 4 * k + 4 + p ∧ ∀ z, bk_fl (4 * k) (4 * k + 4) i shut rt 0 z = 4 * k + 4 + p → z = 4 * k + 4 + p) :
    ∀ p, p ≤ 4 → bk_fl (4 * k) (4 * k + 4) i shut rt p = bk_q k i shut (bk_fl (4 * k) (4 * k + 4) i shut rt 0) p := by
  intro p
  generalize hr : bk_fl (4 * k) (4 * k + 4) i shut rt 0 = rt2 at h1 h2 ⊢
  induction p with
  | zero =>
    intro _
    rw [hr]
    funext z
    unfold bk_q
    rw [if_neg (by omega)]
  | succ p ih =>
    intro hp
    have h0 := ih (by omega)
    show (if bk_sk shut i p then bk_fl (4 * k) (4 * k + 4) i shut rt p else bk_mr (bk_fl (4 * k) (4 * k + 4) i shut rt p) (4 * k + p) (4 * k + 4 + p)) = _
    rw [h0]
    cases hs : bk_sk shut i p with
    | true =>
      rw [if_pos rfl]
      funext z
      unfold bk_q
      by_cases e : z = 4 * k + 4 + p
      · rw [if_neg (by omega), if_neg]
        intro q
        have q3 := q.2.2
        rw [show z - (4 * k + 4) = p by omega, hs] at q3
        cases q3
      · by_cases c : 4 * k + 4 ≤ z ∧ z < 4 * k + 4 + p ∧ bk_sk shut i (z - (4 * k + 4)) = false
        · rw [if_pos c, if_pos ⟨c.1, by omega, c.2.2⟩]
        · rw [if_neg c, if_neg (fun q => c ⟨q.1, by omega, q.2.2⟩)]
    | false =>
      rw [if_neg (by decide)]
      obtain ⟨f1, f2⟩ := h2 p (by omega) hs
      have v1 : bk_q k i shut rt2 p (4 * k + p) = rt2 (4 * k + p) := if_neg (by omega)
      have v2 : bk_q k i shut rt2 p (4 * k + 4 + p) = 4 * k + 4 + p := by
        unfold bk_q
        rw [if_neg (by omega), f1]
      have v3 := h1 (4 * k + p) (by omega)
      rw [bk_mr_le (by rw [v1, v2]; omega), v1, v2]
      funext z
      by_cases e : z = 4 * k + 4 + p
      · subst e
        rw [if_pos v2]
        unfold bk_q
        rw [if_pos ⟨by omega, by omega, by rw [show 4 * k + 4 + p - (4 * k + 4) = p by omega]; exact hs⟩]
        congr 1
        omega
      · have hz : ¬ bk_q k i shut rt2 p z = 4 * k + 4 + p := by
          unfold bk_q
          split
          · rename_i c
            have := h1 (z - 4) (by omega)
            omega
          · exact fun q => e (f2 z q)
        rw [if_neg hz]
        unfold bk_q
        by_cases c : 4 * k + 4 ≤ z ∧ z < 4 * k + 4 + p ∧ bk_sk shut i (z - (4 * k + 4)) = false
        · rw [if_pos c, if_pos ⟨c.1, by omega, c.2.2⟩]
        · rw [if_neg c, if_neg (fun q => c ⟨q.1, by omega, q.2.2⟩)]
