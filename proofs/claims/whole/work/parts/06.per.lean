def bk_sw (i v : Nat) : Nat := if v = i then i - 1 else if v + 1 = i then i else v
def bk_en (sz : Nat → Nat) (p : Nat) : Nat → Nat
  | 0 => p
  | k + 1 => bk_sw (sz k) (bk_en sz p k)
def bk_P (n : Nat) : List (List Nat) :=
  if n = 2 then [[0, 1], [1, 0]]
  else if n = 3 then [[0, 1, 2], [0, 2, 1], [1, 0, 2], [1, 2, 0], [2, 0, 1], [2, 1, 0]]
  else [[0, 1, 2, 3], [0, 1, 3, 2], [0, 2, 1, 3], [0, 2, 3, 1], [0, 3, 1, 2], [0, 3, 2, 1], [1, 0, 2, 3], [1, 0, 3, 2], [1, 2, 0, 3], [1, 2, 3, 0], [1, 3, 0, 2], [1, 3, 2, 0], [2, 0, 1, 3], [2, 0, 3, 1], [2, 1, 0, 3], [2, 1, 3, 0], [2, 3, 0, 1], [2, 3, 1, 0], [3, 0, 1, 2], [3, 0, 2, 1], [3, 1, 0, 2], [3, 1, 2, 0], [3, 2, 0, 1], [3, 2, 1, 0]]
def bk_pl (n : Nat) (sz : Nat → Nat) (k : Nat) : List Nat := (List.range n).map (fun p => bk_en sz p k)
theorem bk_p0 {n : Nat} (h2 : 2 ≤ n) (h4 : n ≤ 4) : List.range n ∈ bk_P n :=
  bk_n (P := fun n => List.range n ∈ bk_P n) h2 h4 (by decide +kernel) (by decide +kernel) (by decide +kernel)
theorem bk_pc {n : Nat} (h2 : 2 ≤ n) (h4 : n ≤ 4) : ∀ f ∈ bk_P n, ∀ i, i < n → 1 ≤ i → f.map (bk_sw i) ∈ bk_P n :=
  bk_n (P := fun n => ∀ f ∈ bk_P n, ∀ i, i < n → 1 ≤ i → f.map (bk_sw i) ∈ bk_P n) h2 h4 (by decide +kernel) (by decide +kernel) (by decide +kernel)
theorem bk_ple {n : Nat} (h2 : 2 ≤ n) (h4 : n ≤ 4) : ∀ f ∈ bk_P n, f.length = n ∧ ∀ p, p < n → bk_g f p < n :=
  bk_n (P := fun n => ∀ f ∈ bk_P n, f.length = n ∧ ∀ p, p < n → bk_g f p < n) h2 h4 (by decide +kernel) (by decide +kernel) (by decide +kernel)
theorem bk_pin {n len : Nat} {sz : Nat → Nat} (h2 : 2 ≤ n) (h4 : n ≤ 4) (hs : ∀ k, k < len → 1 ≤ sz k ∧ sz k < n) : ∀ k, k ≤ len → bk_pl n sz k ∈ bk_P n := by
  intro k
  induction k with
  | zero =>
    intro _
    have e : bk_pl n sz 0 = List.range n := List.map_id' _
    rw [e]
    exact bk_p0 h2 h4
  | succ k ih =>
    intro hk
    obtain ⟨s1, s2⟩ := hs k (by omega)
    have e : bk_pl n sz (k + 1) = (bk_pl n sz k).map (bk_sw (sz k)) := by
      unfold bk_pl
      first
        | (rw [List.map_map]; rfl)
        | rw [List.map_map]
    rw [e]
    exact bk_pc h2 h4 _ (ih (by omega)) _ s2 s1
theorem bk_plg {n k p : Nat} {sz : Nat → Nat} (h : p < n) : bk_g (bk_pl n sz k) p = bk_en sz p k := by
  unfold bk_g bk_pl
  rw [List.getD_eq_getElem?_getD, List.getElem?_map, List.getElem?_range h]
  rfl
theorem bk_enl {n len : Nat} {sz : Nat → Nat} (h2 : 2 ≤ n) (h4 : n ≤ 4) (hs : ∀ k, k < len → 1 ≤ sz k ∧ sz k < n) {p : Nat} (hp : p < n) : ∀ k, k ≤ len → bk_en sz p k < n := by
  intro k hk
  rw [← bk_plg hp]
  exact (bk_ple h2 h4 _ (bk_pin h2 h4 hs k hk)).2 p hp
def bk_co1 (f : List Nat) (s : Nat × Nat) : Nat × Nat := (bk_g f s.1, min (bk_g f s.1) s.2)
def bk_co (f : List Nat) (p : Nat) : Nat → Nat × Nat
  | 0 => (p, p)
  | t + 1 => bk_co1 f (bk_co f p t)
def bk_g3 (p q low : Nat) (L : List Nat) : List Nat := (L.set p low).set q low
def bk_g2 (f : List Nat) (p : Nat) (L : List Nat) : List Nat := bk_g3 p (bk_g f p) (min (bk_g L p) (bk_g L (bk_g f p))) L
def bk_gi (f L : List Nat) : Nat → List Nat
  | 0 => L
  | p + 1 => bk_g2 f p (bk_gi f L p)
def bk_gr (n : Nat) (f : List Nat) : Nat → List Nat
  | 0 => List.range n
  | r + 1 => bk_gi f (bk_gr n f r) n
theorem bk_cog {n : Nat} (h2 : 2 ≤ n) (h4 : n ≤ 4) : ∀ f ∈ bk_P n, ∀ p, p < n → (bk_co f p n).2 = bk_g (bk_gr n f n) p ∧ (bk_co f p n).2 < n :=
  bk_n (P := fun n => ∀ f ∈ bk_P n, ∀ p, p < n → (bk_co f p n).2 = bk_g (bk_gr n f n) p ∧ (bk_co f p n).2 < n) h2 h4 (by decide +kernel) (by decide +kernel) (by decide +kernel)
theorem bk_con {n : Nat} {f : List Nat} (hf : ∀ p, p < n → bk_g f p < n) {p : Nat} (hp : p < n) : ∀ t, (bk_co f p t).1 < n ∧ (bk_co f p t).2 < n := by
  intro t
  induction t with
  | zero => exact ⟨hp, hp⟩
  | succ t ih =>
    have h := hf _ ih.1
    show bk_g f (bk_co f p t).1 < n ∧ min (bk_g f (bk_co f p t).1) (bk_co f p t).2 < n
    omega
theorem bk_st {L : List Nat} {x v : Nat} (h : x < L.length) (e : Nat) : bk_g (L.set x v) e = if e = x then v else bk_g L e := by
  unfold bk_g
  rw [List.getD_eq_getElem?_getD, List.getD_eq_getElem?_getD, List.getElem?_set]
  by_cases c : x = e
  · rw [if_pos c, if_pos c.symm, if_pos h]
    rfl
  · rw [if_neg c, if_neg (fun q => c q.symm)]
theorem bk_gr0 {n p : Nat} (h : p < n) : bk_g (List.range n) p = p := by
  unfold bk_g
  rw [List.getD_eq_getElem?_getD, List.getElem?_range h]
  rfl
theorem bk_g2l {n : Nat} {f L : List Nat} {p : Nat} (hf : ∀ p, p < n → bk_g f p < n) (hl : L.length = n) (hb : ∀ e, e < n → bk_g L e < n) (hp : p < n) : (bk_g2 f p L).length = n ∧ ∀ e, e < n → bk_g (bk_g2 f p L) e < n := by
  have h1 := hf p hp
  have h2 := hb p hp
  have h3 := hb _ h1
  constructor
  · show ((L.set _ _).set _ _).length = n
    rw [List.length_set, List.length_set, hl]
  · intro e he
    show bk_g ((L.set p _).set (bk_g f p) _) e < n
    rw [bk_st (by rw [List.length_set, hl]; exact h1), bk_st (by rw [hl]; exact hp)]
    have h4 := hb e he
    split
    · omega
    · split <;> omega
theorem bk_gil {n : Nat} {f L : List Nat} (hf : ∀ p, p < n → bk_g f p < n) (hl : L.length = n) (hb : ∀ e, e < n → bk_g L e < n) : ∀ p, p ≤ n → (bk_gi f L p).length = n ∧ ∀ e, e < n → bk_g (bk_gi f L p) e < n := by
  intro p
  induction p with
  | zero => exact fun _ => ⟨hl, hb⟩
  | succ p ih =>
    intro hp
    obtain ⟨a, b⟩ := ih (by omega)
    exact bk_g2l hf a b (by omega)
theorem bk_grl {n : Nat} {f : List Nat} (hf : ∀ p, p < n → bk_g f p < n) : ∀ r, (bk_gr n f r).length = n ∧ ∀ e, e < n → bk_g (bk_gr n f r) e < n := by
  intro r
  induction r with
  | zero => exact ⟨List.length_range, fun e he => by rw [show bk_gr n f 0 = List.range n from rfl, bk_gr0 he]; exact he⟩
  | succ r ih => exact bk_gil hf ih.1 ih.2 n (Nat.le_refl n)
