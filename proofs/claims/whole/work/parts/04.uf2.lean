theorem bk_flC {n len k i : Nat} {shut : Bool} {rt : Nat → Nat} (h4 : n ≤ 4) (hk : k + 1 < len) (h1 : ∀ z, z < 4 * k + 4 → bk_fl (4 * k) (4 * k + 4) i shut rt 0 z < 4 * k + 4)
    (h2 : ∀ p, p < 4 → bk_sk shut i p = false → bk_fl (4 * k) (4 * k + 4) i shut rt 0 (4 * k + 4 + p) = 4 * k + 4 + p ∧ ∀ z, bk_fl (4 * k) (4 * k + 4) i shut rt 0 z = 4 * k + 4 + p → z = 4 * k + 4 + p)
    (hU : bk_U (bk_fl (4 * k) (4 * k + 4) i shut rt 0)) (hV : bk_V n (bk_fl (4 * k) (4 * k + 4) i shut rt 0)) :
    ∀ p, p ≤ n → bk_U (bk_fl (4 * k) (4 * k + 4) i shut rt p) ∧ bk_V n (bk_fl (4 * k) (4 * k + 4) i shut rt p) ∧ bk_C n (4 * len) (bk_fl (4 * k) (4 * k + 4) i shut rt p) + bk_ns shut i p = bk_C n (4 * len) (bk_fl (4 * k) (4 * k + 4) i shut rt 0) := by
  intro p
  induction p with
  | zero => exact fun _ => ⟨hU, hV, rfl⟩
  | succ p ih =>
    intro hp
    obtain ⟨iU, iV, iC⟩ := ih (by omega)
    have hq := bk_flf h1 h2 p (by omega)
    have e0 : bk_fl (4 * k) (4 * k + 4) i shut rt (p + 1) = if bk_sk shut i p then bk_fl (4 * k) (4 * k + 4) i shut rt p else bk_mr (bk_fl (4 * k) (4 * k + 4) i shut rt p) (4 * k + p) (4 * k + 4 + p) := rfl
    have e1 : bk_ns shut i (p + 1) = if bk_sk shut i p then bk_ns shut i p else bk_ns shut i p + 1 := rfl
    rw [e0, e1]
    cases hs : bk_sk shut i p with
    | true => exact ⟨iU, iV, iC⟩
    | false =>
      rw [if_neg (by decide), if_neg (by decide)]
      obtain ⟨f1, f2⟩ := h2 p (by omega) hs
      have v3 := h1 (4 * k + p) (by omega)
      have v1 : bk_fl (4 * k) (4 * k + 4) i shut rt p (4 * k + p) = bk_fl (4 * k) (4 * k + 4) i shut rt 0 (4 * k + p) := by
        rw [hq]
        exact if_neg (by omega)
      have v2 : bk_fl (4 * k) (4 * k + 4) i shut rt p (4 * k + 4 + p) = 4 * k + 4 + p := by
        rw [hq]
        unfold bk_q
        rw [if_neg (by omega), f1]
      have hc := bk_C_lt (L := 4 * len) (x := 4 * k + p) (y := 4 * k + 4 + p) iU iV (by omega) (by omega) (by rw [v1, v2]; omega)
      exact ⟨bk_mrU iU _ _, bk_mrV iV (by omega) (by omega), by omega⟩
def bk_H (n len k : Nat) (rt : Nat → Nat) (s : List Nat × Nat) : Prop :=
  bk_U rt ∧ bk_V n rt ∧ (∀ x, 4 * k + 4 ≤ x → rt x = x) ∧ bk_K (bk_E n k) (2 * n) rt (bk_R s.1) ∧ bk_C n (4 * len) rt + n * k = n * len + s.2
theorem bk_midO {n len k i : Nat} {rt : Nat → Nat} {s : List Nat × Nat} (h2 : 2 ≤ n) (h4 : n ≤ 4) (hk : k + 1 < len) (hi : 1 ≤ i) (hin : i < n) (h : bk_H n len k rt s) : bk_H n len (k + 1) (bk_fl (4 * k) (4 * k + 4) i false rt n) s := by
  obtain ⟨hU, hV, hf, hK, hC⟩ := h
  have b1 : ∀ z, z < 4 * k + 4 → bk_fl (4 * k) (4 * k + 4) i false rt 0 z < 4 * k + 4 := fun z hz => Nat.lt_of_le_of_lt (hU z).1 hz
  have b2 : ∀ p, p < 4 → bk_sk false i p = false → bk_fl (4 * k) (4 * k + 4) i false rt 0 (4 * k + 4 + p) = 4 * k + 4 + p ∧ ∀ z, bk_fl (4 * k) (4 * k + 4) i false rt 0 z = 4 * k + 4 + p → z = 4 * k + 4 + p := by
    intro p _ _
    refine ⟨hf _ (by omega), fun z hz => ?_⟩
    have hz' : rt z = 4 * k + 4 + p := hz
    have h3 := (hU z).1
    rw [hf z (by omega)] at hz'
    exact hz'
  obtain ⟨cU, cV, cC⟩ := bk_flC h4 hk b1 b2 hU hV n (Nat.le_refl n)
  have hq := bk_flf b1 b2 n h4
  have hn := (bk_nst h2 h4 i hin hi).2
  have v : ∀ e, e < 2 * n → bk_fl (4 * k) (4 * k + 4) i false rt n (bk_E n (k + 1) e) = rt (bk_E n k e) := by
    intro e he
    rw [hq]
    by_cases c : e < n
    · rw [bk_Elo c, bk_Elo c]
      exact if_neg (by omega)
    · obtain ⟨q, rfl⟩ : ∃ q, e = n + q := ⟨e - n, by omega⟩
      rw [bk_Ehi, bk_Ehi]
      unfold bk_q
      rw [if_pos ⟨by omega, by omega, rfl⟩]
      show rt _ = rt _
      congr 1
      omega
  refine ⟨cU, cV, ?_, ?_, ?_⟩
  · intro x hx
    rw [hq]
    unfold bk_q
    rw [if_neg (by omega)]
    exact hf x (by omega)
  · intro e he f hf'
    rw [v e he, v f hf']
    exact hK e he f hf'
  · have e0 : bk_C n (4 * len) (bk_fl (4 * k) (4 * k + 4) i false rt 0) = bk_C n (4 * len) rt := rfl
    rw [e0] at cC
    rw [Nat.mul_add, Nat.mul_one]
    omega
theorem bk_midS {n len k i : Nat} {rt : Nat → Nat} {s : List Nat × Nat} (h2 : 2 ≤ n) (h4 : n ≤ 4) (hk : k + 1 < len) (hi : 1 ≤ i) (hin : i < n) (hM : s.1 ∈ bk_T n) (h : bk_H n len k rt s) : bk_H n len (k + 1) (bk_fl (4 * k) (4 * k + 4) i true rt n) (bk_cs2 s.2 (bk_sa n s.1 i)) := by
  obtain ⟨hU, hV, hf, hK, hC⟩ := h
  have e1 : bk_E n k (n + i - 1) = 4 * k + i - 1 := by
    have := bk_Ehi n k (i - 1)
    rw [show n + (i - 1) = n + i - 1 by omega] at this
    omega
  have e2 : bk_E n k (n + i) = 4 * k + i := bk_Ehi n k i
  have B0 : bk_B n (4 * len) (bk_C n (4 * len) rt) (bk_E n k) rt (bk_R s.1, 0) 0 := ⟨hU, hV, hK, rfl⟩
  have B1 := bk_Bm B0 (a := n + i - 1) (b := n + i) (by omega) (by omega) (by rw [e1]; omega) (by rw [e1]; omega) (by rw [e2]; omega) (by rw [e2]; omega)
  rw [e1, e2] at B1
  obtain ⟨U1, V1, K1, C1⟩ := B1
  have hnq := bk_nq h2 h4 s.1 hM i hin hi
  have C1' : bk_C n (4 * len) (bk_mr rt (4 * k + i - 1) (4 * k + i)) + (0 + 1) = bk_C n (4 * len) rt + (0 + if bk_R s.1 (n + i - 1) = bk_R s.1 (n + i) then 1 else 0) := C1
  rw [hnq] at C1'
  have K1' : bk_K (bk_E n k) (2 * n) (bk_mr rt (4 * k + i - 1) (4 * k + i)) (bk_mg (bk_R s.1) (n + i - 1) (n + i)) := K1
  have f1 : ∀ x, 4 * k + 4 ≤ x → bk_mr rt (4 * k + i - 1) (4 * k + i) x = x := by
    intro x hx
    have a1 := (hU (4 * k + i - 1)).1
    have a2 := (hU (4 * k + i)).1
    have a3 := hf x hx
    unfold bk_mr
    rw [if_neg (by omega), a3]
  clear C1 K1 B0 hK hf
  generalize hr1 : bk_mr rt (4 * k + i - 1) (4 * k + i) = rt1 at U1 V1 C1' K1' f1
  have g1 : rt1 (4 * k + 4 + i - 1) = 4 * k + 4 + i - 1 := f1 _ (by omega)
  have g2 : rt1 (4 * k + 4 + i) = 4 * k + 4 + i := f1 _ (by omega)
  have r0 : bk_fl (4 * k) (4 * k + 4) i true rt 0 = fun z => if rt1 z = 4 * k + 4 + i then 4 * k + 4 + i - 1 else rt1 z := by
    show bk_mr (bk_mr rt (4 * k + i - 1) (4 * k + i)) (4 * k + 4 + i - 1) (4 * k + 4 + i) = _
    rw [hr1, bk_mr_le (by rw [g1, g2]; omega), g1, g2]
  have r0' : bk_fl (4 * k) (4 * k + 4) i true rt 0 = bk_mr rt1 (4 * k + 4 + i - 1) (4 * k + 4 + i) := by
    show bk_mr (bk_mr rt (4 * k + i - 1) (4 * k + i)) (4 * k + 4 + i - 1) (4 * k + 4 + i) = _
    rw [hr1]
  have U2 : bk_U (bk_fl (4 * k) (4 * k + 4) i true rt 0) := by
    rw [r0']
    exact bk_mrU U1 _ _
  have V2 : bk_V n (bk_fl (4 * k) (4 * k + 4) i true rt 0) := by
    rw [r0']
    exact bk_mrV V1 (by omega) (by omega)
  have C2 : bk_C n (4 * len) (bk_fl (4 * k) (4 * k + 4) i true rt 0) + 1 = bk_C n (4 * len) rt1 := by
    rw [r0']
    exact bk_C_lt U1 V1 (by omega) (by omega) (by rw [g1, g2]; omega)
  have lo : ∀ z, z < 4 * k + 4 → bk_fl (4 * k) (4 * k + 4) i true rt 0 z = rt1 z := by
    intro z hz
    have := (U1 z).1
    rw [r0]
    exact if_neg (by omega)
  have b1 : ∀ z, z < 4 * k + 4 → bk_fl (4 * k) (4 * k + 4) i true rt 0 z < 4 * k + 4 := by
    intro z hz
    rw [lo z hz]
    exact Nat.lt_of_le_of_lt (U1 z).1 hz
  have sk : ∀ p, bk_sk true i p = false ↔ (p + 1 ≠ i ∧ p ≠ i) := by
    intro p
    unfold bk_sk
    simp
  have b2 : ∀ p, p < 4 → bk_sk true i p = false → bk_fl (4 * k) (4 * k + 4) i true rt 0 (4 * k + 4 + p) = 4 * k + 4 + p ∧ ∀ z, bk_fl (4 * k) (4 * k + 4) i true rt 0 z = 4 * k + 4 + p → z = 4 * k + 4 + p := by
    intro p _ hp
    have hp' := (sk p).mp hp
    have a1 := f1 (4 * k + 4 + p) (by omega)
    rw [r0]
    constructor
    · dsimp only
      rw [if_neg (by omega), a1]
    · intro z
      dsimp only
      split
      · intro q
        omega
      · intro q
        have a2 := (U1 z).1
        have a3 := f1 z (by omega)
        omega
  obtain ⟨cU, cV, cC⟩ := bk_flC h4 hk b1 b2 U2 V2 n (Nat.le_refl n)
  have hq := bk_flf b1 b2 n h4
  have hn := (bk_nst h2 h4 i hin hi).1
  have v : ∀ e, e < 2 * n → bk_fl (4 * k) (4 * k + 4) i true rt n (bk_E n (k + 1) e) = if bk_A n i e then 4 * k + 4 + i - 1 else rt1 (bk_E n k e) := by
    intro e he
    rw [hq]
    by_cases c : e < n
    · have hA : bk_A n i e = false := by
        unfold bk_A
        rw [Bool.or_eq_false_iff, beq_eq_false_iff_ne, beq_eq_false_iff_ne]
        omega
      rw [bk_Elo c, bk_Elo c, hA, if_neg (by decide)]
      unfold bk_q
      rw [if_neg (by omega)]
      exact lo e (by omega)
    · obtain ⟨q, rfl⟩ : ∃ q, e = n + q := ⟨e - n, by omega⟩
      rw [bk_Ehi, bk_Ehi]
      cases hsk : bk_sk true i q with
      | true =>
        have hs2 : q + 1 = i ∨ q = i := by
          by_cases c2 : q + 1 ≠ i ∧ q ≠ i
          · have c3 := (sk q).mpr c2
            rw [hsk] at c3
            cases c3
          · omega
        have hA : bk_A n i (n + q) = true := by
          unfold bk_A
          rw [Bool.or_eq_true, beq_iff_eq, beq_iff_eq]
          omega
        rw [hA, if_pos rfl]
        unfold bk_q
        rw [if_neg]
        · rw [r0]
          dsimp only
          rw [f1 _ (by omega)]
          split <;> omega
        · intro c2
          have c3 := c2.2.2
          rw [show 4 * (k + 1) + q - (4 * k + 4) = q by omega, hsk] at c3
          cases c3
      | false =>
        have hs2 := (sk q).mp hsk
        have hA : bk_A n i (n + q) = false := by
          unfold bk_A
          rw [Bool.or_eq_false_iff, beq_eq_false_iff_ne, beq_eq_false_iff_ne]
          omega
        rw [hA, if_neg (by decide)]
        unfold bk_q
        rw [if_pos ⟨by omega, by omega, by rw [show 4 * (k + 1) + q - (4 * k + 4) = q by omega]; exact hsk⟩, lo _ (by omega)]
        congr 1
        omega
  have lt1 : ∀ e, e < 2 * n → rt1 (bk_E n k e) < 4 * k + 4 := by
    intro e he
    have a := (U1 (bk_E n k e)).1
    have b : bk_E n k e < 4 * k + 4 := by
      unfold bk_E
      split <;> omega
    omega
  refine ⟨cU, cV, ?_, ?_, ?_⟩
  · intro x hx
    rw [hq]
    unfold bk_q
    rw [if_neg (by omega), r0]
    dsimp only
    have a := f1 x (by omega)
    rw [if_neg (by omega), a]
  · intro e he f hf'
    rw [v e he, v f hf']
    have ht := bk_nt h2 h4 s.1 hM i hin hi e he f hf'
    have le := lt1 e he
    have lf := lt1 f hf'
    show _ ↔ bk_R (bk_sa n s.1 i).1 e = bk_R (bk_sa n s.1 i).1 f
    unfold bk_nc at ht
    cases ha : bk_A n i e with
    | true =>
      cases hb : bk_A n i f with
      | true =>
        rw [ha, hb] at ht
        have ht' : true = decide (bk_R (bk_sa n s.1 i).1 e = bk_R (bk_sa n s.1 i).1 f) := ht
        have := of_decide_eq_true ht'.symm
        exact ⟨fun _ => this, fun _ => rfl⟩
      | false =>
        rw [ha, hb] at ht
        have ht' : false = decide (bk_R (bk_sa n s.1 i).1 e = bk_R (bk_sa n s.1 i).1 f) := ht
        have := of_decide_eq_false ht'.symm
        rw [if_pos rfl, if_neg (by decide)]
        exact ⟨fun q => by omega, fun q => absurd q this⟩
    | false =>
      cases hb : bk_A n i f with
      | true =>
        rw [ha, hb] at ht
        have ht' : false = decide (bk_R (bk_sa n s.1 i).1 e = bk_R (bk_sa n s.1 i).1 f) := ht
        have := of_decide_eq_false ht'.symm
        rw [if_pos rfl, if_neg (by decide)]
        exact ⟨fun q => by omega, fun q => absurd q this⟩
      | false =>
        rw [ha, hb] at ht
        have ht' : decide (bk_mg (bk_R s.1) (n + i - 1) (n + i) e = bk_mg (bk_R s.1) (n + i - 1) (n + i) f) = decide (bk_R (bk_sa n s.1 i).1 e = bk_R (bk_sa n s.1 i).1 f) := ht
        have := decide_eq_decide.mp ht'
        rw [if_neg (by decide), if_neg (by decide)]
        exact (K1' e he f hf').trans this
  · show _ = n * len + (s.2 + (bk_sa n s.1 i).2)
    rw [Nat.mul_add, Nat.mul_one]
    omega
theorem bk_C0 {n : Nat} (h2 : 2 ≤ n) (h4 : n ≤ 4) : ∀ len, len < 11 → bk_C n (4 * len) (fun x => x) = n * len :=
  bk_n (P := fun n => ∀ len, len < 11 → bk_C n (4 * len) (fun x => x) = n * len) h2 h4 (by decide +kernel) (by decide +kernel) (by decide +kernel)
theorem bk_K0 {n : Nat} (h2 : 2 ≤ n) (h4 : n ≤ 4) : ∀ e, e < 2 * n → ∀ f, f < 2 * n → (bk_E n 0 e = bk_E n 0 f ↔ bk_R (bk_M0 n) e = bk_R (bk_M0 n) f) :=
  bk_n (P := fun n => ∀ e, e < 2 * n → ∀ f, f < 2 * n → (bk_E n 0 e = bk_E n 0 f ↔ bk_R (bk_M0 n) e = bk_R (bk_M0 n) f)) h2 h4 (by decide +kernel) (by decide +kernel) (by decide +kernel)
theorem bk_Hk {n len : Nat} {sz : Nat → Nat} {bt : Nat → Bool} (h2 : 2 ≤ n) (h4 : n ≤ 4) (hl : len < 11) (hs : ∀ k, k < len → 1 ≤ sz k ∧ sz k < n) : ∀ k, k < len → bk_H n len k (bk_rt n len sz bt k) (bk_fa n sz bt k) := by
  intro k
  induction k with
  | zero =>
    intro _
    refine ⟨fun x => ⟨Nat.le_refl x, rfl⟩, fun x hx => hx, fun x _ => rfl, fun e he f hf => bk_K0 h2 h4 e he f hf, ?_⟩
    show bk_C n (4 * len) (fun x => x) + n * 0 = n * len + 0
    have h0 := bk_C0 h2 h4 len hl
    omega
  | succ k ih =>
    intro hk
    have h0 := ih (by omega)
    obtain ⟨s1, s2⟩ := hs k (by omega)
    have hM := (bk_fat (bt := bt) h2 h4 hs k (by omega)).1
    have eb : bk_be len k = 4 * k + 4 := if_neg (by omega)
    have e0 : bk_rt n len sz bt (k + 1) = bk_fl (4 * k) (bk_be len k) (sz k) (bt k) (bk_rt n len sz bt k) n := rfl
    have e1 : bk_fa n sz bt (k + 1) = if bt k then bk_cs2 (bk_fa n sz bt k).2 (bk_sa n (bk_fa n sz bt k).1 (sz k)) else bk_fa n sz bt k := rfl
    rw [e0, e1, eb]
    cases hb : bt k with
    | false => exact bk_midO h2 h4 hk s1 s2 h0
    | true => exact bk_midS h2 h4 hk s1 s2 hM h0
theorem bk_main {n len : Nat} {sz : Nat → Nat} {bt : Nat → Bool} (h2 : 2 ≤ n) (h4 : n ≤ 4) (hl : len < 11) (hs : ∀ k, k < len → 1 ≤ sz k ∧ sz k < n) : bk_cnt n len sz bt = bk_F n len sz bt := by
  cases len with
  | zero => exact (bk_tz0 h2 h4).symm
  | succ k =>
    show (if k + 1 = 0 then n else bk_C n (4 * (k + 1)) (bk_rt n (k + 1) sz bt (k + 1))) = _
    rw [if_neg (by omega)]
    obtain ⟨hU, hV, _, hK, hC⟩ := bk_Hk (bt := bt) h2 h4 hl hs k (by omega)
    obtain ⟨s1, s2⟩ := hs k (by omega)
    have hM := (bk_fat (bt := bt) h2 h4 hs k (by omega)).1
    have B0 : bk_B n (4 * (k + 1)) (bk_C n (4 * (k + 1)) (bk_rt n (k + 1) sz bt k)) (bk_E n k) (bk_rt n (k + 1) sz bt k) (bk_R (bk_fa n sz bt k).1, 0) 0 := ⟨hU, hV, hK, rfl⟩
    have hL := bk_last (shut := bt k) h4 (by omega) s1 s2 B0 n (Nat.le_refl n)
    have e0 : bk_rt n (k + 1) sz bt (k + 1) = bk_fl (4 * k) 0 (sz k) (bt k) (bk_rt n (k + 1) sz bt k) n := by
      show bk_fl (4 * k) (bk_be (k + 1) k) (sz k) (bt k) (bk_rt n (k + 1) sz bt k) n = _
      rw [show bk_be (k + 1) k = 0 from if_pos rfl]
    rw [e0]
    have hc := hL.2.2.2
    have e1 : bk_F n (k + 1) sz bt = (bk_cz n (if bt k then bk_cs2 (bk_fa n sz bt k).2 (bk_sa n (bk_fa n sz bt k).1 (sz k)) else bk_fa n sz bt k) n).2 := rfl
    rw [e1]
    have hnd := bk_ndt h2 h4 (sz k) s2 s1
    have hms : n * (k + 1) = n * k + n := Nat.mul_succ n k
    cases hb : bt k with
    | false =>
      rw [hb, hnd.2, bk_lo h2 h4 _ hM _ s2 s1] at hc
      rw [if_neg (by decide)]
      have e2 := bk_czc n (bk_fa n sz bt k).1 (bk_fa n sz bt k).2 n
      have e3 : (bk_cz n (bk_fa n sz bt k) n).2 = (bk_fa n sz bt k).2 + (bk_cz n ((bk_fa n sz bt k).1, 0) n).2 := congrArg Prod.snd e2
      rw [e3]
      omega
    | true =>
      rw [hb, hnd.1, bk_lt h2 h4 _ hM _ s2 s1] at hc
      rw [if_pos rfl]
      have e2 := bk_czc n (bk_sa n (bk_fa n sz bt k).1 (sz k)).1 ((bk_fa n sz bt k).2 + (bk_sa n (bk_fa n sz bt k).1 (sz k)).2) n
      have e3 : (bk_cz n (bk_cs2 (bk_fa n sz bt k).2 (bk_sa n (bk_fa n sz bt k).1 (sz k))) n).2 = (bk_fa n sz bt k).2 + (bk_sa n (bk_fa n sz bt k).1 (sz k)).2 + (bk_cz n ((bk_sa n (bk_fa n sz bt k).1 (sz k)).1, 0) n).2 := congrArg Prod.snd e2
      rw [e3]
      omega
