def bk_g (M : List Nat) (e : Nat) : Nat := M.getD e 0
def bk_je (M : List Nat) (a b : Nat) : List Nat × Nat :=
  if bk_g M a = b then (M, 1) else ((M.set (bk_g M a) (bk_g M b)).set (bk_g M b) (bk_g M a), 0)
def bk_sa2 (a b : Nat) (r : List Nat × Nat) : List Nat × Nat := ((r.1.set a b).set b a, r.2)
def bk_sa (n : Nat) (M : List Nat) (i : Nat) : List Nat × Nat := bk_sa2 (n + i - 1) (n + i) (bk_je M (n + i - 1) (n + i))
def bk_cs2 (c : Nat) (r : List Nat × Nat) : List Nat × Nat := (r.1, c + r.2)
def bk_cs (n p : Nat) (s : List Nat × Nat) : List Nat × Nat := bk_cs2 s.2 (bk_je s.1 p (n + p))
def bk_cz (n : Nat) (s : List Nat × Nat) : Nat → List Nat × Nat
  | 0 => s
  | p + 1 => bk_cs n p (bk_cz n s p)
def bk_T (n : Nat) : List (List Nat) :=
  if n = 2 then [[2, 3, 0, 1], [1, 0, 3, 2]]
  else if n = 3 then [[3, 4, 5, 0, 1, 2], [1, 0, 5, 4, 3, 2], [3, 2, 1, 0, 5, 4], [1, 0, 3, 2, 5, 4], [5, 2, 1, 4, 3, 0]]
  else [[4, 5, 6, 7, 0, 1, 2, 3], [1, 0, 6, 7, 5, 4, 2, 3], [4, 2, 1, 7, 0, 6, 5, 3], [4, 5, 3, 2, 0, 1, 7, 6], [1, 0, 4, 7, 2, 6, 5, 3], [1, 0, 3, 2, 5, 4, 7, 6], [6, 2, 1, 7, 5, 4, 0, 3], [4, 2, 1, 5, 0, 3, 7, 6], [4, 7, 3, 2, 0, 6, 5, 1], [1, 0, 4, 5, 2, 3, 7, 6], [1, 0, 3, 2, 7, 6, 5, 4], [3, 2, 1, 0, 5, 4, 7, 6], [6, 7, 3, 2, 5, 4, 0, 1], [3, 2, 1, 0, 7, 6, 5, 4]]
def bk_M0 (n : Nat) : List Nat := if n = 2 then [2, 3, 0, 1] else if n = 3 then [3, 4, 5, 0, 1, 2] else [4, 5, 6, 7, 0, 1, 2, 3]
theorem bk_n {n : Nat} {P : Nat → Prop} (h2 : 2 ≤ n) (h4 : n ≤ 4) (a : P 2) (b : P 3) (c : P 4) : P n := by
  have h : n = 2 ∨ n = 3 ∨ n = 4 := by omega
  rcases h with rfl | rfl | rfl
  · exact a
  · exact b
  · exact c
theorem bk_t0 {n : Nat} (h2 : 2 ≤ n) (h4 : n ≤ 4) : bk_M0 n ∈ bk_T n :=
  bk_n (P := fun n => bk_M0 n ∈ bk_T n) h2 h4 (by decide +kernel) (by decide +kernel) (by decide +kernel)
theorem bk_tl {n : Nat} (h2 : 2 ≤ n) (h4 : n ≤ 4) : ∀ M ∈ bk_T n, M.length = 2 * n ∧ ∀ e, e < 2 * n → bk_g M e < 2 * n :=
  bk_n (P := fun n => ∀ M ∈ bk_T n, M.length = 2 * n ∧ ∀ e, e < 2 * n → bk_g M e < 2 * n) h2 h4 (by decide +kernel) (by decide +kernel) (by decide +kernel)
theorem bk_tc {n : Nat} (h2 : 2 ≤ n) (h4 : n ≤ 4) : ∀ M ∈ bk_T n, ∀ i, i < n → 1 ≤ i → (bk_sa n M i).1 ∈ bk_T n ∧ (bk_sa n M i).2 ≤ 1 :=
  bk_n (P := fun n => ∀ M ∈ bk_T n, ∀ i, i < n → 1 ≤ i → (bk_sa n M i).1 ∈ bk_T n ∧ (bk_sa n M i).2 ≤ 1) h2 h4 (by decide +kernel) (by decide +kernel) (by decide +kernel)
theorem bk_tz {n : Nat} (h2 : 2 ≤ n) (h4 : n ≤ 4) : ∀ M ∈ bk_T n, ∀ p, p < n + 1 → (bk_cz n (M, 0) p).1.length = 2 * n ∧ ∀ e, e < 2 * n → bk_g (bk_cz n (M, 0) p).1 e < 2 * n :=
  bk_n (P := fun n => ∀ M ∈ bk_T n, ∀ p, p < n + 1 → (bk_cz n (M, 0) p).1.length = 2 * n ∧ ∀ e, e < 2 * n → bk_g (bk_cz n (M, 0) p).1 e < 2 * n) h2 h4 (by decide +kernel) (by decide +kernel) (by decide +kernel)
theorem bk_tz2 {n : Nat} (h2 : 2 ≤ n) (h4 : n ≤ 4) : ∀ M ∈ bk_T n, 1 ≤ (bk_cz n (M, 0) n).2 ∧ (bk_cz n (M, 0) n).2 ≤ n :=
  bk_n (P := fun n => ∀ M ∈ bk_T n, 1 ≤ (bk_cz n (M, 0) n).2 ∧ (bk_cz n (M, 0) n).2 ≤ n) h2 h4 (by decide +kernel) (by decide +kernel) (by decide +kernel)
theorem bk_tz0 {n : Nat} (h2 : 2 ≤ n) (h4 : n ≤ 4) : (bk_cz n (bk_M0 n, 0) n).2 = n :=
  bk_n (P := fun n => (bk_cz n (bk_M0 n, 0) n).2 = n) h2 h4 (by decide +kernel) (by decide +kernel) (by decide +kernel)
theorem bk_czc (n : Nat) (M : List Nat) (c : Nat) : ∀ p, bk_cz n (M, c) p = ((bk_cz n (M, 0) p).1, c + (bk_cz n (M, 0) p).2) := by
  intro p
  induction p with
  | zero => rfl
  | succ p ih =>
    show bk_cs n p (bk_cz n (M, c) p) = _
    rw [ih]
    simp only [bk_cz, bk_cs, bk_cs2, Nat.add_assoc]
def bk_R (M : List Nat) (e : Nat) : Nat := min e (bk_g M e)
def bk_mg (R : Nat → Nat) (a b : Nat) : Nat → Nat := fun e => if R e = R b then R a else R e
def bk_ms (s : (Nat → Nat) × Nat) (a b : Nat) : (Nat → Nat) × Nat := (bk_mg s.1 a b, s.2 + if s.1 a = s.1 b then 1 else 0)
def bk_sk (shut : Bool) (i p : Nat) : Bool := shut && (p + 1 == i || p == i)
def bk_lf (n i : Nat) (shut : Bool) (R : Nat → Nat) : Nat → (Nat → Nat) × Nat
  | 0 => if shut then bk_ms (bk_ms (R, 0) (n + i - 1) (n + i)) (i - 1) i else (R, 0)
  | p + 1 => if bk_sk shut i p then bk_lf n i shut R p else bk_ms (bk_lf n i shut R p) (n + p) p
theorem bk_lt {n : Nat} (h2 : 2 ≤ n) (h4 : n ≤ 4) : ∀ M ∈ bk_T n, ∀ i, i < n → 1 ≤ i → (bk_lf n i true (bk_R M) n).2 = (bk_sa n M i).2 + (bk_cz n ((bk_sa n M i).1, 0) n).2 :=
  bk_n (P := fun n => ∀ M ∈ bk_T n, ∀ i, i < n → 1 ≤ i → (bk_lf n i true (bk_R M) n).2 = (bk_sa n M i).2 + (bk_cz n ((bk_sa n M i).1, 0) n).2) h2 h4 (by decide +kernel) (by decide +kernel) (by decide +kernel)
theorem bk_lo {n : Nat} (h2 : 2 ≤ n) (h4 : n ≤ 4) : ∀ M ∈ bk_T n, ∀ i, i < n → 1 ≤ i → (bk_lf n i false (bk_R M) n).2 = (bk_cz n (M, 0) n).2 :=
  bk_n (P := fun n => ∀ M ∈ bk_T n, ∀ i, i < n → 1 ≤ i → (bk_lf n i false (bk_R M) n).2 = (bk_cz n (M, 0) n).2) h2 h4 (by decide +kernel) (by decide +kernel) (by decide +kernel)
def bk_A (n i e : Nat) : Bool := e == n + i - 1 || e == n + i
def bk_nc (n i : Nat) (R : Nat → Nat) (e f : Nat) : Bool :=
  if bk_A n i e || bk_A n i f then bk_A n i e && bk_A n i f else decide (bk_mg R (n + i - 1) (n + i) e = bk_mg R (n + i - 1) (n + i) f)
theorem bk_nt {n : Nat} (h2 : 2 ≤ n) (h4 : n ≤ 4) : ∀ M ∈ bk_T n, ∀ i, i < n → 1 ≤ i → ∀ e, e < 2 * n → ∀ f, f < 2 * n → bk_nc n i (bk_R M) e f = decide (bk_R (bk_sa n M i).1 e = bk_R (bk_sa n M i).1 f) :=
  bk_n (P := fun n => ∀ M ∈ bk_T n, ∀ i, i < n → 1 ≤ i → ∀ e, e < 2 * n → ∀ f, f < 2 * n → bk_nc n i (bk_R M) e f = decide (bk_R (bk_sa n M i).1 e = bk_R (bk_sa n M i).1 f)) h2 h4 (by decide +kernel) (by decide +kernel) (by decide +kernel)
theorem bk_nq {n : Nat} (h2 : 2 ≤ n) (h4 : n ≤ 4) : ∀ M ∈ bk_T n, ∀ i, i < n → 1 ≤ i → (if bk_R M (n + i - 1) = bk_R M (n + i) then 1 else 0) = (bk_sa n M i).2 :=
  bk_n (P := fun n => ∀ M ∈ bk_T n, ∀ i, i < n → 1 ≤ i → (if bk_R M (n + i - 1) = bk_R M (n + i) then 1 else 0) = (bk_sa n M i).2) h2 h4 (by decide +kernel) (by decide +kernel) (by decide +kernel)
def bk_ns (shut : Bool) (i : Nat) : Nat → Nat
  | 0 => 0
  | p + 1 => if bk_sk shut i p then bk_ns shut i p else bk_ns shut i p + 1
theorem bk_nst {n : Nat} (h2 : 2 ≤ n) (h4 : n ≤ 4) : ∀ i, i < n → 1 ≤ i → bk_ns true i n + 2 = n ∧ bk_ns false i n = n :=
  bk_n (P := fun n => ∀ i, i < n → 1 ≤ i → bk_ns true i n + 2 = n ∧ bk_ns false i n = n) h2 h4 (by decide +kernel) (by decide +kernel) (by decide +kernel)
def bk_fa (n : Nat) (sz : Nat → Nat) (bt : Nat → Bool) : Nat → List Nat × Nat
  | 0 => (bk_M0 n, 0)
  | k + 1 => if bt k then bk_cs2 (bk_fa n sz bt k).2 (bk_sa n (bk_fa n sz bt k).1 (sz k)) else bk_fa n sz bt k
def bk_F (n len : Nat) (sz : Nat → Nat) (bt : Nat → Bool) : Nat := (bk_cz n (bk_fa n sz bt len) n).2
theorem bk_fat {n len : Nat} {sz : Nat → Nat} {bt : Nat → Bool} (h2 : 2 ≤ n) (h4 : n ≤ 4) (hs : ∀ k, k < len → 1 ≤ sz k ∧ sz k < n) : ∀ k, k ≤ len → (bk_fa n sz bt k).1 ∈ bk_T n ∧ (bk_fa n sz bt k).2 ≤ k := by
  intro k
  induction k with
  | zero => exact fun _ => ⟨bk_t0 h2 h4, Nat.le_refl 0⟩
  | succ k ih =>
    intro hk
    obtain ⟨hM, hc⟩ := ih (by omega)
    obtain ⟨s1, s2⟩ := hs k (by omega)
    have ht := bk_tc h2 h4 _ hM _ s2 s1
    show (if bt k then bk_cs2 (bk_fa n sz bt k).2 (bk_sa n (bk_fa n sz bt k).1 (sz k)) else bk_fa n sz bt k).1 ∈ bk_T n ∧ (if bt k then bk_cs2 (bk_fa n sz bt k).2 (bk_sa n (bk_fa n sz bt k).1 (sz k)) else bk_fa n sz bt k).2 ≤ k + 1
    cases hb : bt k with
    | false => exact ⟨hM, Nat.le_succ_of_le hc⟩
    | true => exact ⟨ht.1, Nat.add_le_add hc ht.2⟩
theorem bk_Fr {n len : Nat} {sz : Nat → Nat} {bt : Nat → Bool} (h2 : 2 ≤ n) (h4 : n ≤ 4) (hs : ∀ k, k < len → 1 ≤ sz k ∧ sz k < n) : 1 ≤ bk_F n len sz bt ∧ bk_F n len sz bt ≤ n + len := by
  obtain ⟨hM, hc⟩ := bk_fat (bt := bt) h2 h4 hs len (Nat.le_refl _)
  have h := bk_tz2 h2 h4 _ hM
  have e : bk_F n len sz bt = (bk_fa n sz bt len).2 + (bk_cz n ((bk_fa n sz bt len).1, 0) n).2 := by
    show (bk_cz n ((bk_fa n sz bt len).1, (bk_fa n sz bt len).2) n).2 = _
    rw [bk_czc]
  omega
