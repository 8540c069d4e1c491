def bk_L (n : Nat) (x : Int32) : Prop := ∃ s : Nat, 1 ≤ s ∧ s < n ∧ (x = nI s ∨ x = -nI s)
def bk_z (w : Nat → Int32) (k : Nat) : Nat := if 0 < w k then (w k).toNatClampNeg else (-(w k)).toNatClampNeg
def bk_s (w : Nat → Int32) (k : Nat) : Int32 := if 0 < w k then 1 else -1
theorem bk_i0 : (0 : Int32).toInt = 0 := by decide
theorem bk_nneg {s : Nat} (h1 : 1 ≤ s) (h : s < 2 ^ 31) : -nI s < 0 := by
  rw [Int32.lt_iff_toInt_lt, sb_negT h, bk_i0]
  omega
theorem bk_npos {s : Nat} (h1 : 1 ≤ s) (h : s < 2 ^ 31) : 0 < nI s := by
  rw [Int32.lt_iff_toInt_lt, nI_toInt h, bk_i0]
  omega
theorem bk_nle {x : Int32} (h : x < 0) : ¬ 0 ≤ x ∧ x ≤ 0 ∧ ¬ 0 < x := by
  rw [Int32.lt_iff_toInt_lt, bk_i0] at h
  rw [Int32.le_iff_toInt_le, Int32.le_iff_toInt_le, Int32.lt_iff_toInt_lt, bk_i0]
  omega
theorem bk_ple0 {x : Int32} (h : 0 < x) : 0 ≤ x ∧ ¬ x ≤ 0 ∧ ¬ x < 0 := by
  rw [Int32.lt_iff_toInt_lt, bk_i0] at h
  rw [Int32.le_iff_toInt_le, Int32.le_iff_toInt_le, Int32.lt_iff_toInt_lt, bk_i0]
  omega
theorem bk_zv {n : Nat} {w : Nat → Int32} {k : Nat} (hn : n ≤ 4) (h : bk_L n (w k)) : 1 ≤ bk_z w k ∧ bk_z w k < n ∧ ((0 < w k ∧ ¬ w k < 0 ∧ ¬ w k ≤ 0 ∧ 0 ≤ w k ∧ w k = nI (bk_z w k) ∧ bk_s w k = 1) ∨ (¬ 0 < w k ∧ w k < 0 ∧ w k ≤ 0 ∧ ¬ 0 ≤ w k ∧ -(w k) = nI (bk_z w k) ∧ bk_s w k = -1)) := by
  obtain ⟨s, s1, s2, e | e⟩ := h
  · have h0 : 0 < w k := by
      rw [e]
      exact bk_npos s1 (by omega)
    have ez : bk_z w k = s := by
      unfold bk_z
      rw [if_pos h0, e]
      exact nI_clamp (by omega)
    obtain ⟨a, b, c⟩ := bk_ple0 h0
    rw [ez]
    exact ⟨s1, s2, Or.inl ⟨h0, c, b, a, e, if_pos h0⟩⟩
  · have h0 : w k < 0 := by
      rw [e]
      exact bk_nneg s1 (by omega)
    obtain ⟨a, b, c⟩ := bk_nle h0
    have e2 : -(w k) = nI s := by
      rw [e, Int32.neg_neg]
    have ez : bk_z w k = s := by
      unfold bk_z
      rw [if_neg c, e2]
      exact nI_clamp (by omega)
    rw [ez]
    exact ⟨s1, s2, Or.inr ⟨c, h0, b, a, e2, if_neg c⟩⟩
theorem bk_Lneg {n : Nat} {x : Int32} (h : bk_L n x) : bk_L n (-x) := by
  obtain ⟨s, s1, s2, e | e⟩ := h
  · exact ⟨s, s1, s2, Or.inr (by rw [e])⟩
  · exact ⟨s, s1, s2, Or.inl (by rw [e, Int32.neg_neg])⟩
theorem bk_Lof {n : Nat} {x : Int32} (h4 : n ≤ 4) (h0 : ¬ x = 0) (h1 : x < nI n) (h2 : -nI n < x) : bk_L n x := by
  rw [Int32.lt_iff_toInt_lt, nI_toInt (by omega)] at h1
  rw [Int32.lt_iff_toInt_lt, sb_negT (by omega)] at h2
  have h3 : x.toInt ≠ 0 := fun q => h0 (Int32.toInt_inj.mp (by rw [q, bk_i0]))
  by_cases c : 0 < x.toInt
  · refine ⟨x.toInt.toNat, by omega, by omega, Or.inl (Int32.toInt_inj.mp ?_)⟩
    rw [nI_toInt (by omega)]
    omega
  · refine ⟨(-x.toInt).toNat, by omega, by omega, Or.inr (Int32.toInt_inj.mp ?_)⟩
    rw [sb_negT (by omega)]
    omega
theorem bk_Lin {n : Nat} {x : Int32} (h4 : n ≤ 4) (h : bk_L n x) : ¬ x = 0 ∧ x < nI n ∧ ¬ nI n ≤ x ∧ -nI n < x ∧ ¬ x ≤ -nI n ∧ ¬ x = -1002 := by
  have hm : (-1002 : Int32).toInt = -1002 := by decide
  have key : ∀ t : Int, x.toInt = t → -(n : Int) < t → t < (n : Int) → t ≠ 0 → ¬ x = 0 ∧ x < nI n ∧ ¬ nI n ≤ x ∧ -nI n < x ∧ ¬ x ≤ -nI n ∧ ¬ x = -1002 := by
    intro t ht a b c
    refine ⟨fun q => c (by rw [← ht, q, bk_i0]), ?_, ?_, ?_, ?_, fun q => by rw [q, hm] at ht; omega⟩
    · rw [Int32.lt_iff_toInt_lt, nI_toInt (by omega), ht]; exact b
    · rw [Int32.le_iff_toInt_le, nI_toInt (by omega), ht]; omega
    · rw [Int32.lt_iff_toInt_lt, sb_negT (by omega), ht]; exact a
    · rw [Int32.le_iff_toInt_le, sb_negT (by omega), ht]; omega
  obtain ⟨s, s1, s2, e | e⟩ := h
  · exact key s (by rw [e, nI_toInt (by omega)]) (by omega) (by omega) (by omega)
  · exact key (-(s : Int)) (by rw [e, sb_negT (by omega)]) (by omega) (by omega) (by omega)
def bk_W (n len : Nat) (w : Nat → Int32) : Prop := 2 ≤ n ∧ n ≤ 4 ∧ len ≤ 10 ∧ ∀ k, k < len → bk_L n (w k)
def bk_bt (v : Int32) (k : Nat) : Bool := decide ((v >>> (nI k &&& 31)) &&& 1 = 1)
def bk_Fs (n : Nat) (w : Nat → Int32) (len : Nat) (v : Int32) : Nat := bk_F n len (bk_z w) (bk_bt v)
def bk_up (w : Nat → Int32) (v : Int32) (k : Nat) : Bool := if bk_bt v k then decide (¬ 0 < w k) else decide (0 < w k)
def bk_eu (w : Nat → Int32) (v : Int32) : Nat → Nat
  | 0 => 0
  | k + 1 => bk_eu w v k + if bk_up w v k then 1 else 0
theorem bk_eul (w : Nat → Int32) (v : Int32) : ∀ k, bk_eu w v k ≤ k := by
  intro k
  induction k with
  | zero => exact Nat.le_refl 0
  | succ k ih =>
    show bk_eu w v k + (if bk_up w v k then 1 else 0) ≤ k + 1
    split <;> omega
theorem bk_e1 (u k : Nat) : nI (2 * u) - nI k + 1 = nI (2 * (u + 1)) - nI (k + 1) := by
  rw [show 2 * (u + 1) = 2 * u + 1 + 1 by omega, ← nI_1, ← nI_1, ← nI_1]
  grind
theorem bk_e2 (u k : Nat) : nI (2 * u) - nI k + (-1) = nI (2 * u) - nI (k + 1) := by
  rw [← nI_1]
  grind
theorem bk_e3 (u k : Nat) : nI (2 * u) - nI k - (-1) = nI (2 * (u + 1)) - nI (k + 1) := by
  rw [show 2 * (u + 1) = 2 * u + 1 + 1 by omega, ← nI_1, ← nI_1, ← nI_1]
  grind
theorem bk_e4 (u k : Nat) : nI (2 * u) - nI k - 1 = nI (2 * u) - nI (k + 1) := by
  rw [← nI_1]
  grind
def bk_mm (n : Nat) (w : Nat → Int32) (len s : Nat) : Nat := bk_Fs n w len (nI s) - 1
def bk_KK (n : Nat) (w : Nat → Int32) (len s : Nat) : Nat := 60 + 2 * bk_eu w (nI s) len + 2 * bk_mm n w len s - len
def bk_bi (n : Nat) (w : Nat → Int32) (len s x : Nat) : Int := bk_Bi (bk_KK n w len) (bk_mm n w len) s x
def bk_cf (n : Nat) (w : Nat → Int32) (len x : Nat) : Int32 := Int32.ofInt (bk_bi n w len (2 ^ len) x)
def bk_mn (n : Nat) (w : Nat → Int32) (len l : Nat) : Nat → Nat
  | 0 => 0
  | s + 1 => bk_mn n w len l s + if bk_Fs n w len (nI s) = l then 1 else 0
theorem bk_mnl (n : Nat) (w : Nat → Int32) (len l : Nat) : ∀ s, bk_mn n w len l s ≤ s := by
  intro s
  induction s with
  | zero => exact Nat.le_refl 0
  | succ s ih =>
    show bk_mn n w len l s + (if bk_Fs n w len (nI s) = l then 1 else 0) ≤ s + 1
    split <;> omega
theorem bk_Wz {n len : Nat} {w : Nat → Int32} (h : bk_W n len w) : ∀ k, k < len → 1 ≤ bk_z w k ∧ bk_z w k < n := fun k hk =>
  have a := bk_zv h.2.1 (h.2.2.2 k hk)
  ⟨a.1, a.2.1⟩
theorem bk_FsR {n len : Nat} {w : Nat → Int32} (h : bk_W n len w) (v : Int32) : 1 ≤ bk_Fs n w len v ∧ bk_Fs n w len v ≤ 14 := by
  have a := bk_Fr (bt := bk_bt v) h.1 h.2.1 (bk_Wz h)
  have b := h.2.1
  have c := h.2.2.1
  unfold bk_Fs
  omega
theorem bk_mmR {n len : Nat} {w : Nat → Int32} (h : bk_W n len w) (s : Nat) : bk_mm n w len s < 14 := by
  have a := bk_FsR h (nI s)
  unfold bk_mm
  omega
theorem bk_KKR {n len : Nat} {w : Nat → Int32} (h : bk_W n len w) (s : Nat) : 24 + 4 * bk_mm n w len s ≤ bk_KK n w len s ∧ bk_KK n w len s ≤ 96 := by
  have a := bk_mmR h s
  have b := bk_eul w (nI s) len
  have c := h.2.2.1
  unfold bk_KK
  omega
theorem bk_cfz {n len : Nat} {w : Nat → Int32} (h : bk_W n len w) {x : Nat} (hx : x < 24 ∨ 96 < x) : bk_cf n w len x = 0 := by
  unfold bk_cf bk_bi
  rw [bk_Biz (S := 2 ^ len) (fun s _ => bk_KKR h s) hx (2 ^ len) (Nat.le_refl _)]
  rfl
theorem bk_cfn {n len : Nat} {w : Nat → Int32} (h : bk_W n len w) : ∃ x, x < 121 ∧ bk_cf n w len x ≠ 0 := by
  have hl : len < 11 := by
    have := h.2.2.1
    omega
  obtain ⟨x, hx, e⟩ := bk_Bin (K := bk_KK n w len) (m := bk_mm n w len) hl (fun s _ => bk_mmR h s) (fun s _ => bk_KKR h s)
  exact ⟨x, hx, fun q => e ((bk_Bi0 hl (fun s _ => bk_mmR h s) x).mp q)⟩
theorem bk_cflh {n len : Nat} {w : Nat → Int32} (h : bk_W n len w) : ∃ lo hi, 24 ≤ lo ∧ lo ≤ hi ∧ hi ≤ 96 ∧ bk_cf n w len lo ≠ 0 ∧ bk_cf n w len hi ≠ 0 ∧ (∀ x, x < lo → bk_cf n w len x = 0) ∧ (∀ x, hi < x → bk_cf n w len x = 0) :=
  bk_lohi (bk_cf n w len) (bk_cfn h) (fun _ hx => bk_cfz h hx)
theorem bk_pw : ∀ l, l < 11 → (1 : Int32) <<< (nI l &&& 31) = nI (2 ^ l) := by decide +kernel
