def bk_tb : List (List Int) := [[1], [-1, -1], [1, 2, 1], [-1, -3, -3, -1], [1, 4, 6, 4, 1], [-1, -5, -10, -10, -5, -1], [1, 6, 15, 20, 15, 6, 1], [-1, -7, -21, -35, -35, -21, -7, -1], [1, 8, 28, 56, 70, 56, 28, 8, 1], [-1, -9, -36, -84, -126, -126, -84, -36, -9, -1], [1, 10, 45, 120, 210, 252, 210, 120, 45, 10, 1], [-1, -11, -55, -165, -330, -462, -462, -330, -165, -55, -11, -1], [1, 12, 66, 220, 495, 792, 924, 792, 495, 220, 66, 12, 1], [-1, -13, -78, -286, -715, -1287, -1716, -1716, -1287, -715, -286, -78, -13, -1]]
def bk_tm (m j : Nat) : Int := (bk_tb.getD m []).getD j 0
theorem bk_tm0 : ∀ m, m < 14 → Int32.ofInt (bk_tm m 0) = if m % 2 = 0 then 1 else -1 := by decide +kernel
theorem bk_tms : ∀ m, m < 14 → ∀ j, j < m + 1 → Int32.ofInt (bk_tm m j) * (nI m - nI j) / nI (j + 1) = Int32.ofInt (bk_tm m (j + 1)) := by decide +kernel
theorem bk_tmb : ∀ m, m < 14 → ∀ j, j < 14 → -1716 ≤ bk_tm m j ∧ bk_tm m j ≤ 1716 := by decide +kernel
def bk_su (m : Nat) : Nat → Int
  | 0 => 0
  | j + 1 => bk_su m j + bk_tm m j
theorem bk_su3 : ∀ m, m < 14 → bk_su m (m + 1) % 3 = 1 := by decide +kernel
def bk_at (f : Nat → Int) (K m : Nat) : Nat → (Nat → Int)
  | 0 => f
  | j + 1 => fun x => if x = K - 4 * j then bk_at f K m j x + bk_tm m j else bk_at f K m j x
def bk_Bi (K m : Nat → Nat) : Nat → (Nat → Int)
  | 0 => fun _ => 0
  | s + 1 => bk_at (bk_Bi K m s) (K s) (m s) (m s + 1)
theorem bk_atb {f : Nat → Int} {K m : Nat} {b : Int} (hm : m < 14) (x : Nat) (h1 : -b ≤ f x) (h2 : f x ≤ b) : ∀ j : Nat, j ≤ 14 → -(b + 1716 * (j : Int)) ≤ bk_at f K m j x ∧ bk_at f K m j x ≤ b + 1716 * (j : Int) := by
  intro j
  induction j with
  | zero =>
    intro _
    show -(b + 1716 * ((0 : Nat) : Int)) ≤ f x ∧ f x ≤ b + 1716 * ((0 : Nat) : Int)
    omega
  | succ j ih =>
    intro hj
    have h := ih (by omega)
    have t := bk_tmb m hm j (by omega)
    show -(b + 1716 * ((j + 1 : Nat) : Int)) ≤ (if x = K - 4 * j then bk_at f K m j x + bk_tm m j else bk_at f K m j x) ∧ (if x = K - 4 * j then bk_at f K m j x + bk_tm m j else bk_at f K m j x) ≤ b + 1716 * ((j + 1 : Nat) : Int)
    by_cases c : x = K - 4 * j
    · rw [if_pos c]
      omega
    · rw [if_neg c]
      omega
theorem bk_Bib {K m : Nat → Nat} {S : Nat} (hm : ∀ s, s < S → m s < 14) (x : Nat) : ∀ s : Nat, s ≤ S → -(24024 * (s : Int)) ≤ bk_Bi K m s x ∧ bk_Bi K m s x ≤ 24024 * (s : Int) := by
  intro s
  induction s with
  | zero =>
    intro _
    show -(24024 * ((0 : Nat) : Int)) ≤ 0 ∧ 0 ≤ 24024 * ((0 : Nat) : Int)
    omega
  | succ s ih =>
    intro hs
    have h := ih (by omega)
    have hm' := hm s (by omega)
    have t := bk_atb (f := bk_Bi K m s) (K := K s) (m := m s) (b := 24024 * (s : Int)) hm' x (by omega) (by omega) (m s + 1) (by omega)
    show -(24024 * ((s + 1 : Nat) : Int)) ≤ bk_at (bk_Bi K m s) (K s) (m s) (m s + 1) x ∧ bk_at (bk_Bi K m s) (K s) (m s) (m s + 1) x ≤ 24024 * ((s + 1 : Nat) : Int)
    omega
theorem bk_atz {f : Nat → Int} {K m x : Nat} (hx : f x = 0) (ho : x + 4 * m < K ∨ K < x) (hK : 4 * m ≤ K) : ∀ j, j ≤ m + 1 → bk_at f K m j x = 0 := by
  intro j
  induction j with
  | zero => exact fun _ => hx
  | succ j ih =>
    intro hj
    show (if x = K - 4 * j then bk_at f K m j x + bk_tm m j else bk_at f K m j x) = 0
    rw [if_neg (by omega)]
    exact ih (by omega)
theorem bk_Biz {K m : Nat → Nat} {S x : Nat} (hK : ∀ s, s < S → 24 + 4 * m s ≤ K s ∧ K s ≤ 96) (hx : x < 24 ∨ 96 < x) : ∀ s, s ≤ S → bk_Bi K m s x = 0 := by
  intro s
  induction s with
  | zero => exact fun _ => rfl
  | succ s ih =>
    intro hs
    have h := hK s (by omega)
    exact bk_atz (ih (by omega)) (by omega) (by omega) (m s + 1) (Nat.le_refl _)
def bk_sm (f : Nat → Int) : Nat → Int
  | 0 => 0
  | N + 1 => bk_sm f N + f N
theorem bk_smu {f : Nat → Int} {a : Nat} {t : Int} : ∀ N, bk_sm (fun x => if x = a then f x + t else f x) N = bk_sm f N + if a < N then t else 0 := by
  intro N
  induction N with
  | zero => rfl
  | succ N ih =>
    show bk_sm (fun x => if x = a then f x + t else f x) N + (if N = a then f N + t else f N) = bk_sm f N + f N + if a < N + 1 then t else 0
    rw [ih]
    by_cases e : N = a
    · rw [if_pos e, if_neg (by omega), if_pos (by omega)]
      omega
    · rw [if_neg e]
      by_cases c : a < N
      · rw [if_pos c, if_pos (by omega)]
        omega
      · rw [if_neg c, if_neg (by omega)]
        omega
theorem bk_sma {f : Nat → Int} {K m : Nat} (hK : K ≤ 96) : ∀ j, bk_sm (bk_at f K m j) 121 = bk_sm f 121 + bk_su m j := by
  intro j
  induction j with
  | zero =>
    show bk_sm f 121 = bk_sm f 121 + 0
    omega
  | succ j ih =>
    have h := bk_smu (f := bk_at f K m j) (a := K - 4 * j) (t := bk_tm m j) 121
    rw [if_pos (by omega), ih] at h
    show bk_sm (fun x => if x = K - 4 * j then bk_at f K m j x + bk_tm m j else bk_at f K m j x) 121 = bk_sm f 121 + (bk_su m j + bk_tm m j)
    rw [h]
    omega
theorem bk_sm0 : ∀ N, bk_sm (fun _ => 0) N = 0 := by
  intro N
  induction N with
  | zero => rfl
  | succ N ih =>
    show bk_sm (fun _ => 0) N + 0 = 0
    rw [ih]
    rfl
theorem bk_smz {f : Nat → Int} : ∀ N, (∀ x, x < N → f x = 0) → bk_sm f N = 0 := by
  intro N
  induction N with
  | zero => exact fun _ => rfl
  | succ N ih =>
    intro h
    show bk_sm f N + f N = 0
    rw [ih (fun x hx => h x (by omega)), h N (by omega)]
    rfl
theorem bk_Bi3 {K m : Nat → Nat} {S : Nat} (hm : ∀ s, s < S → m s < 14) (hK : ∀ s, s < S → K s ≤ 96) : ∀ s : Nat, s ≤ S → bk_sm (bk_Bi K m s) 121 % 3 = (s : Int) % 3 := by
  intro s
  induction s with
  | zero =>
    intro _
    show bk_sm (fun _ => 0) 121 % 3 = _
    rw [bk_sm0]
    rfl
  | succ s ih =>
    intro hs
    have h := ih (by omega)
    have h1 := bk_sma (f := bk_Bi K m s) (m := m s) (hK s (by omega)) (m s + 1)
    have h2 := bk_su3 (m s) (hm s (by omega))
    show bk_sm (bk_at (bk_Bi K m s) (K s) (m s) (m s + 1)) 121 % 3 = _
    rw [h1]
    omega
theorem bk_p3 : ∀ l, l < 11 → ((2 ^ l : Nat) : Int) % 3 ≠ 0 := by decide +kernel
theorem bk_p10 : ∀ l, l < 11 → 2 ^ l ≤ 1024 := by decide +kernel
theorem bk_Bin {K m : Nat → Nat} {l : Nat} (hl : l < 11) (hm : ∀ s, s < 2 ^ l → m s < 14) (hK : ∀ s, s < 2 ^ l → 24 + 4 * m s ≤ K s ∧ K s ≤ 96) : ∃ x, x < 121 ∧ bk_Bi K m (2 ^ l) x ≠ 0 := by
  by_cases h : ∃ x, x < 121 ∧ bk_Bi K m (2 ^ l) x ≠ 0
  · exact h
  · exfalso
    have h0 : ∀ x, x < 121 → bk_Bi K m (2 ^ l) x = 0 := by
      intro x hx
      by_cases e : bk_Bi K m (2 ^ l) x = 0
      · exact e
      · exact absurd ⟨x, hx, e⟩ h
    have h1 := bk_Bi3 hm (fun s hs => (hK s hs).2) (2 ^ l) (Nat.le_refl _)
    rw [bk_smz 121 h0] at h1
    exact bk_p3 l hl h1.symm
theorem bk_oi {z : Int} (h1 : -2147483648 ≤ z) (h2 : z < 2147483648) : Int32.ofInt z = 0 ↔ z = 0 := by
  constructor
  · intro h
    have h3 := congrArg Int32.toInt h
    rw [Int32.toInt_ofInt_of_le (by omega) (by omega), show (0 : Int32).toInt = 0 by decide] at h3
    exact h3
  · intro h
    rw [h]
    rfl
theorem bk_Bi0 {K m : Nat → Nat} {l : Nat} (hl : l < 11) (hm : ∀ s, s < 2 ^ l → m s < 14) (x : Nat) : Int32.ofInt (bk_Bi K m (2 ^ l) x) = 0 ↔ bk_Bi K m (2 ^ l) x = 0 := by
  have h := bk_Bib (K := K) hm x (2 ^ l) (Nat.le_refl _)
  have h2 := bk_p10 l hl
  generalize 2 ^ l = N at h h2 ⊢
  exact bk_oi (by omega) (by omega)
theorem bk_lohi (c : Nat → Int32) (h : ∃ x, x < 121 ∧ c x ≠ 0) (hz : ∀ x, x < 24 ∨ 96 < x → c x = 0) : ∃ lo hi, 24 ≤ lo ∧ lo ≤ hi ∧ hi ≤ 96 ∧ c lo ≠ 0 ∧ c hi ≠ 0 ∧ (∀ x, x < lo → c x = 0) ∧ (∀ x, hi < x → c x = 0) := by
  obtain ⟨x0, _, hx0⟩ := h
  have inr : ∀ x, c x ≠ 0 → 24 ≤ x ∧ x ≤ 96 := by
    intro x hx
    by_cases e : x < 24 ∨ 96 < x
    · exact absurd (hz x e) hx
    · omega
  obtain ⟨lo, l1, l2⟩ := pk_least (fun x => c x ≠ 0) ⟨x0, hx0⟩
  obtain ⟨t, t1, t2⟩ := pk_least (fun y => y ≤ 96 ∧ c (96 - y) ≠ 0) ⟨96 - x0, by omega, by
    have := inr x0 hx0
    rw [show 96 - (96 - x0) = x0 by omega]
    exact hx0⟩
  have a := inr lo l1
  have zlo : ∀ x, x < lo → c x = 0 := by
    intro x hx
    by_cases e : c x = 0
    · exact e
    · exact absurd e (l2 x hx)
  have zhi : ∀ x, 96 - t < x → c x = 0 := by
    intro x hx
    by_cases e : c x = 0
    · exact e
    · have b := inr x e
      refine absurd ⟨by omega, ?_⟩ (t2 (96 - x) (by omega))
      rw [show 96 - (96 - x) = x by omega]
      exact e
  refine ⟨lo, 96 - t, a.1, ?_, by omega, l1, t1.2, zlo, zhi⟩
  by_cases e : lo ≤ 96 - t
  · exact e
  · exact absurd (zhi lo (by omega)) l1
