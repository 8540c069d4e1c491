section
theorem pk_us {f : Nat → Int32} {k : Nat} {x : Int32} : upd f k x k = x := if_pos rfl
theorem pk_un {f : Nat → Int32} {k j : Nat} {x : Int32} (h : j ≠ k) : upd f k x j = f j := if_neg h
theorem pk_sub {a b : Nat} (h : b ≤ a) : nI a - nI b = nI (a - b) := by
  obtain ⟨c, rfl⟩ : ∃ c, a = c + b := ⟨a - b, by omega⟩
  rw [← nI_add, Int32.add_sub_cancel, Nat.add_sub_cancel]
theorem pk_m1 (n : Nat) : nI (n + 1) + (-1) = nI n := by
  rw [← nI_1, Int32.add_assoc, show (1 : Int32) + (-1) = 0 from rfl, Int32.add_zero]
theorem pk_mul (a b : Nat) : nI a * nI b = nI (a * b) := (Int32.ofNat_mul a b).symm
theorem pk_div {a d : Nat} (ha : a < 2 ^ 31) (h0 : 0 < d) (hd : d < 2 ^ 31) : nI a / nI d = nI (a / d) := by
  apply Int32.toInt_inj.mp
  rw [lg_idiv_nonneg (by rw [nI_toInt ha]; omega) (by rw [nI_toInt hd]; omega), nI_toInt ha, nI_toInt hd, nI_toInt (Nat.lt_of_le_of_lt (Nat.div_le_self a d) ha)]
  first | rfl | exact (Int.natCast_ediv _ _).symm
theorem pk_rem {a d : Nat} (ha : a < 2 ^ 31) (h0 : 0 < d) (hd : d < 2 ^ 31) : nI a - nI a / nI d * nI d = nI (a % d) := by
  rw [pk_div ha h0 hd, pk_mul, pk_sub (Nat.div_mul_le_self a d)]
  exact congrArg nI (by have := Nat.div_add_mod' a d; omega)
theorem pk_sub_toInt {a b : Nat} (ha : a < 2 ^ 30) (hb : b < 2 ^ 30) : (nI a - nI b).toInt = (a : Int) - b := by
  rw [Int32.toInt_sub, nI_toInt (by omega), nI_toInt (by omega)]
  exact Int.bmod_eq_of_le (by omega) (by omega)
theorem pk_sneg {a b : Nat} (hb : b < 2 ^ 30) (h : a < b) : nI a - nI b < 0 := by
  rw [Int32.lt_iff_toInt_lt, pk_sub_toInt (by omega) hb, show (0 : Int32).toInt = 0 from by decide]
  omega
theorem pk_ix (x : Int32) {n : Nat} (hn : n < 2 ^ 31) : x < 0 ∨ nI n ≤ x ∨ ∃ j : Nat, j < n ∧ x = nI j := by
  by_cases h : x < 0
  · exact Or.inl h
  · obtain ⟨j, hj, rfl⟩ := nI_of h
    by_cases h2 : j < n
    · exact Or.inr (Or.inr ⟨j, h2, rfl⟩)
    · exact Or.inr (Or.inl (nI_le (by omega) hj))
theorem pk_le {x y : Int32} {A B : Prop} (a b : Nat) (f : a ≤ b → A) (g : b < a → B) (hx : x = nI a := by rfl) (hy : y = nI b := by rfl) (ha : a < 2 ^ 31 := by omega) (hb : b < 2 ^ 31 := by omega) : (x ≤ y → A) ∧ (¬ x ≤ y → B) := by
  subst hx hy
  rw [nI_leI ha hb]
  exact ⟨f, fun z => g (by omega)⟩
theorem pk_lt {x y : Int32} {A B : Prop} (a b : Nat) (f : a < b → A) (g : b ≤ a → B) (hx : x = nI a := by rfl) (hy : y = nI b := by rfl) (ha : a < 2 ^ 31 := by omega) (hb : b < 2 ^ 31 := by omega) : (x < y → A) ∧ (¬ x < y → B) := by
  subst hx hy
  rw [nI_ltI ha hb]
  exact ⟨f, fun z => g (by omega)⟩
theorem pk_eq {x y : Int32} {A B : Prop} (a b : Nat) (f : a = b → A) (g : a ≠ b → B) (hx : x = nI a := by rfl) (hy : y = nI b := by rfl) (ha : a < 2 ^ 31 := by omega) (hb : b < 2 ^ 31 := by omega) : (x = y → A) ∧ (¬ x = y → B) := by
  subst hx hy
  rw [nI_eq ha hb]
  exact ⟨f, g⟩
theorem pk_in {x : Int32} (n N : Nat) (h : n < N) (hx : x = nI n := by rfl) (hN : N < 2 ^ 31 := by omega) : vp_in x N := by
  subst hx
  exact vp_in_nI h hN
theorem pk_cl {x : Int32} (n : Nat) (hx : x = nI n := by rfl) (h : n < 2 ^ 31 := by omega) : x.toNatClampNeg = n := by
  subst hx
  exact nI_clamp h
theorem pk_tn {n : Nat} (h : n < 2 ^ 32) : (nI n).toBitVec.toNat = n := Nat.mod_eq_of_lt h
theorem pk_and (x : Int32) {m : Int32} (k : Nat) (hm : m.toBitVec.toNat = 2 ^ k - 1) : x &&& m = nI (x.toBitVec.toNat % 2 ^ k) := by
  apply Int32.toBitVec_inj.mp
  apply BitVec.eq_of_toNat_eq
  rw [Int32.toBitVec_and, BitVec.toNat_and, hm, Nat.and_two_pow_sub_one_eq_mod]
  show _ = (BitVec.ofNat 32 _).toNat
  rw [BitVec.toNat_ofNat]
  exact (Nat.mod_eq_of_lt (Nat.lt_of_le_of_lt (Nat.mod_le _ _) x.toBitVec.isLt)).symm
theorem pk_andN {n : Nat} (h : n < 2 ^ 32) {m : Int32} (k : Nat) (hm : m.toBitVec.toNat = 2 ^ k - 1) : nI n &&& m = nI (n % 2 ^ k) := by
  rw [pk_and _ k hm, pk_tn h]
theorem pk_andE (x : Int32) {m : Int32} (k : Nat) (hm : m.toBitVec.toNat = 2 ^ k - 1) : ∃ j : Nat, j < 2 ^ k ∧ x &&& m = nI j := ⟨_, Nat.mod_lt _ (Nat.two_pow_pos k), pk_and x k hm⟩
theorem pk_andIn (x : Int32) {m : Int32} (k : Nat) (hm : m.toBitVec.toNat = 2 ^ k - 1) (hk : k ≤ 30) : vp_in (x &&& m) (2 ^ k) := by
  obtain ⟨j, hj, e⟩ := pk_andE x k hm
  rw [e]
  exact vp_in_nI hj (Nat.lt_of_le_of_lt (Nat.pow_le_pow_right (by decide) hk) (by decide))
theorem pk_shl (a s : Int32) (k : Nat) (hs : (s.toBitVec.smod 32).toNat = k) : (a <<< s).toBitVec.toNat = a.toBitVec.toNat * 2 ^ k % 2 ^ 32 := by
  show (a.toBitVec <<< (s.toBitVec.smod 32).toNat).toNat = _
  rw [hs, BitVec.toNat_shiftLeft, Nat.shiftLeft_eq]
theorem pk_shlN {n : Nat} (s : Int32) (k : Nat) (hs : (s.toBitVec.smod 32).toNat = k) (h : n * 2 ^ k < 2 ^ 32) : nI n <<< s = nI (n * 2 ^ k) := by
  apply Int32.toBitVec_inj.mp
  apply BitVec.eq_of_toNat_eq
  have hn : n < 2 ^ 32 := Nat.lt_of_le_of_lt (Nat.le_mul_of_pos_right n (Nat.two_pow_pos k)) h
  rw [pk_shl _ _ k hs, pk_tn hn, pk_tn h, Nat.mod_eq_of_lt h]
theorem pk_shr (a s : Int32) (k : Nat) (hs : (s.toBitVec.smod 32).toNat = k) : (a >>> s).toInt = a.toInt >>> k := by
  show (a.toBitVec.sshiftRight (s.toBitVec.smod 32).toNat).toInt = _
  rw [hs, BitVec.toInt_sshiftRight]
  rfl
theorem pk_shrN {n : Nat} (h : n < 2 ^ 31) (s : Int32) (k : Nat) (hs : (s.toBitVec.smod 32).toNat = k) : nI n >>> s = nI (n / 2 ^ k) := by
  apply Int32.toInt_inj.mp
  have h2 : n / 2 ^ k ≤ n := Nat.div_le_self _ _
  rw [pk_shr _ _ k hs, nI_toInt h, nI_toInt (by omega), Int.shiftRight_eq_div_pow]
  rfl
theorem pk_loop {σ : Type} (W : Nat → Nat → σ → Prop) (I : Nat → σ → Prop) (e i0 : Nat) (s : σ) (hi : i0 ≤ e) (h0 : I i0 s) (hx : ∀ n s, I e s → W (n + 1) e s)
    (hs : ∀ n i s, i < e → I i s → (∀ s', I (i + 1) s' → W n (i + 1) s') → W (n + 1) i s) : ∃ n, W n i0 s :=
  ⟨e + 1, loop_i W I e hx hs (e + 1) i0 s hi (by omega) h0⟩
theorem pk_loopD {σ : Type} (W : Nat → Nat → σ → Prop) (I : Nat → σ → Prop) (hx : ∀ n s, I 0 s → W (n + 1) 0 s)
    (hs : ∀ n i s, I (i + 1) s → (∀ s', I i s' → W n i s') → W (n + 1) (i + 1) s) : ∀ (e : Nat) (s : σ), I e s → W (e + 1) e s := by
  intro e
  induction e with
  | zero => exact fun s h => hx 0 s h
  | succ e ih => exact fun s h => hs (e + 1) e s h (fun s' h' => ih s' h')
theorem lp1 {A1 : Type} (W : Nat → A1 → Prop) (I : A1 → Prop) (μ : A1 → Nat) (hs : ∀ (n : Nat) (a1 : A1), I a1 → (∀ (b1 : A1), I b1 → μ b1 < μ a1 → W n b1) → W (n + 1) a1) (a1 : A1) (h : I a1) : ∃ n, W n a1 :=
  loop_m (σ := A1) (fun n s => W n s) (fun s => I s) (fun s => μ s) (fun n s hI hk => hs n s hI (fun b1 h9 hm => hk b1 h9 hm)) a1 h
theorem lp2 {A1 A2 : Type} (W : Nat → A1 → A2 → Prop) (I : A1 → A2 → Prop) (μ : A1 → A2 → Nat) (hs : ∀ (n : Nat) (a1 : A1) (a2 : A2), I a1 a2 → (∀ (b1 : A1) (b2 : A2), I b1 b2 → μ b1 b2 < μ a1 a2 → W n b1 b2) → W (n + 1) a1 a2) (a1 : A1) (a2 : A2) (h : I a1 a2) : ∃ n, W n a1 a2 :=
  loop_m (σ := A1 × A2) (fun n s => W n s.1 s.2) (fun s => I s.1 s.2) (fun s => μ s.1 s.2) (fun n s hI hk => hs n s.1 s.2 hI (fun b1 b2 h9 hm => hk (b1, b2) h9 hm)) (a1, a2) h
theorem lp3 {A1 A2 A3 : Type} (W : Nat → A1 → A2 → A3 → Prop) (I : A1 → A2 → A3 → Prop) (μ : A1 → A2 → A3 → Nat) (hs : ∀ (n : Nat) (a1 : A1) (a2 : A2) (a3 : A3), I a1 a2 a3 → (∀ (b1 : A1) (b2 : A2) (b3 : A3), I b1 b2 b3 → μ b1 b2 b3 < μ a1 a2 a3 → W n b1 b2 b3) → W (n + 1) a1 a2 a3) (a1 : A1) (a2 : A2) (a3 : A3) (h : I a1 a2 a3) : ∃ n, W n a1 a2 a3 :=
  loop_m (σ := A1 × A2 × A3) (fun n s => W n s.1 s.2.1 s.2.2) (fun s => I s.1 s.2.1 s.2.2) (fun s => μ s.1 s.2.1 s.2.2) (fun n s hI hk => hs n s.1 s.2.1 s.2.2 hI (fun b1 b2 b3 h9 hm => hk (b1, b2, b3) h9 hm)) (a1, a2, a3) h
theorem lp4 {A1 A2 A3 A4 : Type} (W : Nat → A1 → A2 → A3 → A4 → Prop) (I : A1 → A2 → A3 → A4 → Prop) (μ : A1 → A2 → A3 → A4 → Nat) (hs : ∀ (n : Nat) (a1 : A1) (a2 : A2) (a3 : A3) (a4 : A4), I a1 a2 a3 a4 → (∀ (b1 : A1) (b2 : A2) (b3 : A3) (b4 : A4), I b1 b2 b3 b4 → μ b1 b2 b3 b4 < μ a1 a2 a3 a4 → W n b1 b2 b3 b4) → W (n + 1) a1 a2 a3 a4) (a1 : A1) (a2 : A2) (a3 : A3) (a4 : A4) (h : I a1 a2 a3 a4) : ∃ n, W n a1 a2 a3 a4 :=
  loop_m (σ := A1 × A2 × A3 × A4) (fun n s => W n s.1 s.2.1 s.2.2.1 s.2.2.2) (fun s => I s.1 s.2.1 s.2.2.1 s.2.2.2) (fun s => μ s.1 s.2.1 s.2.2.1 s.2.2.2) (fun n s hI hk => hs n s.1 s.2.1 s.2.2.1 s.2.2.2 hI (fun b1 b2 b3 b4 h9 hm => hk (b1, b2, b3, b4) h9 hm)) (a1, a2, a3, a4) h
theorem lp5 {A1 A2 A3 A4 A5 : Type} (W : Nat → A1 → A2 → A3 → A4 → A5 → Prop) (I : A1 → A2 → A3 → A4 → A5 → Prop) (μ : A1 → A2 → A3 → A4 → A5 → Nat) (hs : ∀ (n : Nat) (a1 : A1) (a2 : A2) (a3 : A3) (a4 : A4) (a5 : A5), I a1 a2 a3 a4 a5 → (∀ (b1 : A1) (b2 : A2) (b3 : A3) (b4 : A4) (b5 : A5), I b1 b2 b3 b4 b5 → μ b1 b2 b3 b4 b5 < μ a1 a2 a3 a4 a5 → W n b1 b2 b3 b4 b5) → W (n + 1) a1 a2 a3 a4 a5) (a1 : A1) (a2 : A2) (a3 : A3) (a4 : A4) (a5 : A5) (h : I a1 a2 a3 a4 a5) : ∃ n, W n a1 a2 a3 a4 a5 :=
  loop_m (σ := A1 × A2 × A3 × A4 × A5) (fun n s => W n s.1 s.2.1 s.2.2.1 s.2.2.2.1 s.2.2.2.2) (fun s => I s.1 s.2.1 s.2.2.1 s.2.2.2.1 s.2.2.2.2) (fun s => μ s.1 s.2.1 s.2.2.1 s.2.2.2.1 s.2.2.2.2) (fun n s hI hk => hs n s.1 s.2.1 s.2.2.1 s.2.2.2.1 s.2.2.2.2 hI (fun b1 b2 b3 b4 b5 h9 hm => hk (b1, b2, b3, b4, b5) h9 hm)) (a1, a2, a3, a4, a5) h
theorem lp6 {A1 A2 A3 A4 A5 A6 : Type} (W : Nat → A1 → A2 → A3 → A4 → A5 → A6 → Prop) (I : A1 → A2 → A3 → A4 → A5 → A6 → Prop) (μ : A1 → A2 → A3 → A4 → A5 → A6 → Nat) (hs : ∀ (n : Nat) (a1 : A1) (a2 : A2) (a3 : A3) (a4 : A4) (a5 : A5) (a6 : A6), I a1 a2 a3 a4 a5 a6 → (∀ (b1 : A1) (b2 : A2) (b3 : A3) (b4 : A4) (b5 : A5) (b6 : A6), I b1 b2 b3 b4 b5 b6 → μ b1 b2 b3 b4 b5 b6 < μ a1 a2 a3 a4 a5 a6 → W n b1 b2 b3 b4 b5 b6) → W (n + 1) a1 a2 a3 a4 a5 a6) (a1 : A1) (a2 : A2) (a3 : A3) (a4 : A4) (a5 : A5) (a6 : A6) (h : I a1 a2 a3 a4 a5 a6) : ∃ n, W n a1 a2 a3 a4 a5 a6 :=
  loop_m (σ := A1 × A2 × A3 × A4 × A5 × A6) (fun n s => W n s.1 s.2.1 s.2.2.1 s.2.2.2.1 s.2.2.2.2.1 s.2.2.2.2.2) (fun s => I s.1 s.2.1 s.2.2.1 s.2.2.2.1 s.2.2.2.2.1 s.2.2.2.2.2) (fun s => μ s.1 s.2.1 s.2.2.1 s.2.2.2.1 s.2.2.2.2.1 s.2.2.2.2.2) (fun n s hI hk => hs n s.1 s.2.1 s.2.2.1 s.2.2.2.1 s.2.2.2.2.1 s.2.2.2.2.2 hI (fun b1 b2 b3 b4 b5 b6 h9 hm => hk (b1, b2, b3, b4, b5, b6) h9 hm)) (a1, a2, a3, a4, a5, a6) h
theorem lp7 {A1 A2 A3 A4 A5 A6 A7 : Type} (W : Nat → A1 → A2 → A3 → A4 → A5 → A6 → A7 → Prop) (I : A1 → A2 → A3 → A4 → A5 → A6 → A7 → Prop) (μ : A1 → A2 → A3 → A4 → A5 → A6 → A7 → Nat) (hs : ∀ (n : Nat) (a1 : A1) (a2 : A2) (a3 : A3) (a4 : A4) (a5 : A5) (a6 : A6) (a7 : A7), I a1 a2 a3 a4 a5 a6 a7 → (∀ (b1 : A1) (b2 : A2) (b3 : A3) (b4 : A4) (b5 : A5) (b6 : A6) (b7 : A7), I b1 b2 b3 b4 b5 b6 b7 → μ b1 b2 b3 b4 b5 b6 b7 < μ a1 a2 a3 a4 a5 a6 a7 → W n b1 b2 b3 b4 b5 b6 b7) → W (n + 1) a1 a2 a3 a4 a5 a6 a7) (a1 : A1) (a2 : A2) (a3 : A3) (a4 : A4) (a5 : A5) (a6 : A6) (a7 : A7) (h : I a1 a2 a3 a4 a5 a6 a7) : ∃ n, W n a1 a2 a3 a4 a5 a6 a7 :=
  loop_m (σ := A1 × A2 × A3 × A4 × A5 × A6 × A7) (fun n s => W n s.1 s.2.1 s.2.2.1 s.2.2.2.1 s.2.2.2.2.1 s.2.2.2.2.2.1 s.2.2.2.2.2.2) (fun s => I s.1 s.2.1 s.2.2.1 s.2.2.2.1 s.2.2.2.2.1 s.2.2.2.2.2.1 s.2.2.2.2.2.2) (fun s => μ s.1 s.2.1 s.2.2.1 s.2.2.2.1 s.2.2.2.2.1 s.2.2.2.2.2.1 s.2.2.2.2.2.2) (fun n s hI hk => hs n s.1 s.2.1 s.2.2.1 s.2.2.2.1 s.2.2.2.2.1 s.2.2.2.2.2.1 s.2.2.2.2.2.2 hI (fun b1 b2 b3 b4 b5 b6 b7 h9 hm => hk (b1, b2, b3, b4, b5, b6, b7) h9 hm)) (a1, a2, a3, a4, a5, a6, a7) h
theorem lp8 {A1 A2 A3 A4 A5 A6 A7 A8 : Type} (W : Nat → A1 → A2 → A3 → A4 → A5 → A6 → A7 → A8 → Prop) (I : A1 → A2 → A3 → A4 → A5 → A6 → A7 → A8 → Prop) (μ : A1 → A2 → A3 → A4 → A5 → A6 → A7 → A8 → Nat) (hs : ∀ (n : Nat) (a1 : A1) (a2 : A2) (a3 : A3) (a4 : A4) (a5 : A5) (a6 : A6) (a7 : A7) (a8 : A8), I a1 a2 a3 a4 a5 a6 a7 a8 → (∀ (b1 : A1) (b2 : A2) (b3 : A3) (b4 : A4) (b5 : A5) (b6 : A6) (b7 : A7) (b8 : A8), I b1 b2 b3 b4 b5 b6 b7 b8 → μ b1 b2 b3 b4 b5 b6 b7 b8 < μ a1 a2 a3 a4 a5 a6 a7 a8 → W n b1 b2 b3 b4 b5 b6 b7 b8) → W (n + 1) a1 a2 a3 a4 a5 a6 a7 a8) (a1 : A1) (a2 : A2) (a3 : A3) (a4 : A4) (a5 : A5) (a6 : A6) (a7 : A7) (a8 : A8) (h : I a1 a2 a3 a4 a5 a6 a7 a8) : ∃ n, W n a1 a2 a3 a4 a5 a6 a7 a8 :=
  loop_m (σ := A1 × A2 × A3 × A4 × A5 × A6 × A7 × A8) (fun n s => W n s.1 s.2.1 s.2.2.1 s.2.2.2.1 s.2.2.2.2.1 s.2.2.2.2.2.1 s.2.2.2.2.2.2.1 s.2.2.2.2.2.2.2) (fun s => I s.1 s.2.1 s.2.2.1 s.2.2.2.1 s.2.2.2.2.1 s.2.2.2.2.2.1 s.2.2.2.2.2.2.1 s.2.2.2.2.2.2.2) (fun s => μ s.1 s.2.1 s.2.2.1 s.2.2.2.1 s.2.2.2.2.1 s.2.2.2.2.2.1 s.2.2.2.2.2.2.1 s.2.2.2.2.2.2.2) (fun n s hI hk => hs n s.1 s.2.1 s.2.2.1 s.2.2.2.1 s.2.2.2.2.1 s.2.2.2.2.2.1 s.2.2.2.2.2.2.1 s.2.2.2.2.2.2.2 hI (fun b1 b2 b3 b4 b5 b6 b7 b8 h9 hm => hk (b1, b2, b3, b4, b5, b6, b7, b8) h9 hm)) (a1, a2, a3, a4, a5, a6, a7, a8) h
theorem pk_least (P : Nat → Prop) (h : ∃ k, P k) : ∃ k, P k ∧ ∀ j, j < k → ¬ P j := by
  obtain ⟨k, hk⟩ := h
  induction k using Nat.strongRecOn with
  | ind k ih =>
    by_cases e : ∃ j, j < k ∧ P j
    · obtain ⟨j, hj, pj⟩ := e
      exact ih j hj pj
    · exact ⟨k, hk, fun j hj pj => e ⟨j, hj, pj⟩⟩
theorem ek_if {c d A B : Prop} (e : c ↔ d) (f : d → A) (g : ¬ d → B) : (c → A) ∧ (¬ c → B) :=
  ⟨fun z => f (e.mp z), fun z => g (fun y => z (e.mpr y))⟩
theorem sb_at {P : Int32 → Prop} {x y : Int32} (e : x = y) (h : P y) : P x := e ▸ h
theorem sb_negT {w : Nat} (h : w < 2 ^ 31) : (-nI w).toInt = -(w : Int) := by
  rw [Int32.toInt_neg, nI_toInt h]
  exact Int.bmod_eq_of_le (by omega) (by omega)
theorem sb_nle {a b : Nat} (ha : a < 2 ^ 31) (hb : b < 2 ^ 31) : -nI a ≤ -nI b ↔ b ≤ a := by
  rw [Int32.le_iff_toInt_le, sb_negT ha, sb_negT hb]
  omega
theorem sb_nlt {a b : Nat} (ha : a < 2 ^ 31) (hb : b < 2 ^ 31) : -nI a < -nI b ↔ b < a := by
  rw [Int32.lt_iff_toInt_lt, sb_negT ha, sb_negT hb]
  omega
end
section
def bk_g (M : List Nat) (e : Nat) : Nat := M.getD e 0
def bk_je (M : List Nat) (a b : Nat) : List Nat × Nat :=
  if bk_g M a = b then (M, 1) else ((M.set (bk_g M a) (bk_g M b)).set (bk_g M b) (bk_g M a), 0)
def bk_sa2 (a b : Nat) (r : List Nat × Nat) : List Nat × Nat := ((r.1.set a b).set b a, r.2)
def bk_sa (n : Nat) (M : List Nat) (i : Nat) : List Nat × Nat := bk_sa2 (n + i - 1) (n + i) (bk_je M (n + i - 1) (n + i))
def bk_cs2 (c : Nat) (r : List Nat × Nat) : List Nat × Nat := (r.1, c + r.2)
def bk_cs (n p : Nat) (s : List Nat × Nat) : List Nat × Nat := bk_cs2 s.2 (bk_je s.1 p (n + p))
def bk_cz (n : Nat) (s : List Nat × Nat) : Nat → List Nat × Nat
  | 0 => s
  | p + 1 => bk_cs n p (bk_cz n s p)
def bk_T (n : Nat) : List (List Nat) :=
  if n = 2 then [[2, 3, 0, 1], [1, 0, 3, 2]]
  else if n = 3 then [[3, 4, 5, 0, 1, 2], [1, 0, 5, 4, 3, 2], [3, 2, 1, 0, 5, 4], [1, 0, 3, 2, 5, 4], [5, 2, 1, 4, 3, 0]]
  else [[4, 5, 6, 7, 0, 1, 2, 3], [1, 0, 6, 7, 5, 4, 2, 3], [4, 2, 1, 7, 0, 6, 5, 3], [4, 5, 3, 2, 0, 1, 7, 6], [1, 0, 4, 7, 2, 6, 5, 3], [1, 0, 3, 2, 5, 4, 7, 6], [6, 2, 1, 7, 5, 4, 0, 3], [4, 2, 1, 5, 0, 3, 7, 6], [4, 7, 3, 2, 0, 6, 5, 1], [1, 0, 4, 5, 2, 3, 7, 6], [1, 0, 3, 2, 7, 6, 5, 4], [3, 2, 1, 0, 5, 4, 7, 6], [6, 7, 3, 2, 5, 4, 0, 1], [3, 2, 1, 0, 7, 6, 5, 4]]
def bk_M0 (n : Nat) : List Nat := if n = 2 then [2, 3, 0, 1] else if n = 3 then [3, 4, 5, 0, 1, 2] else [4, 5, 6, 7, 0, 1, 2, 3]
theorem bk_n {n : Nat} {P : Nat → Prop} (h2 : 2 ≤ n) (h4 : n ≤ 4) (a : P 2) (b : P 3) (c : P 4) : P n := by
  have h : n = 2 ∨ n = 3 ∨ n = 4 := by omega
  rcases h with rfl | rfl | rfl
  · exact a
  · exact b
  · exact c
theorem bk_t0 {n : Nat} (h2 : 2 ≤ n) (h4 : n ≤ 4) : bk_M0 n ∈ bk_T n :=
  bk_n (P := fun n => bk_M0 n ∈ bk_T n) h2 h4 (by decide +kernel) (by decide +kernel) (by decide +kernel)
theorem bk_tl {n : Nat} (h2 : 2 ≤ n) (h4 : n ≤ 4) : ∀ M ∈ bk_T n, M.length = 2 * n ∧ ∀ e, e < 2 * n → bk_g M e < 2 * n :=
  bk_n (P := fun n => ∀ M ∈ bk_T n, M.length = 2 * n ∧ ∀ e, e < 2 * n → bk_g M e < 2 * n) h2 h4 (by decide +kernel) (by decide +kernel) (by decide +kernel)
theorem bk_tc {n : Nat} (h2 : 2 ≤ n) (h4 : n ≤ 4) : ∀ M ∈ bk_T n, ∀ i, i < n → 1 ≤ i → (bk_sa n M i).1 ∈ bk_T n ∧ (bk_sa n M i).2 ≤ 1 :=
  bk_n (P := fun n => ∀ M ∈ bk_T n, ∀ i, i < n → 1 ≤ i → (bk_sa n M i).1 ∈ bk_T n ∧ (bk_sa n M i).2 ≤ 1) h2 h4 (by decide +kernel) (by decide +kernel) (by decide +kernel)
theorem bk_tz {n : Nat} (h2 : 2 ≤ n) (h4 : n ≤ 4) : ∀ M ∈ bk_T n, ∀ p, p < n + 1 → (bk_cz n (M, 0) p).1.length = 2 * n ∧ ∀ e, e < 2 * n → bk_g (bk_cz n (M, 0) p).1 e < 2 * n :=
  bk_n (P := fun n => ∀ M ∈ bk_T n, ∀ p, p < n + 1 → (bk_cz n (M, 0) p).1.length = 2 * n ∧ ∀ e, e < 2 * n → bk_g (bk_cz n (M, 0) p).1 e < 2 * n) h2 h4 (by decide +kernel) (by decide +kernel) (by decide +kernel)
theorem bk_tz2 {n : Nat} (h2 : 2 ≤ n) (h4 : n ≤ 4) : ∀ M ∈ bk_T n, 1 ≤ (bk_cz n (M, 0) n).2 ∧ (bk_cz n (M, 0) n).2 ≤ n :=
  bk_n (P := fun n => ∀ M ∈ bk_T n, 1 ≤ (bk_cz n (M, 0) n).2 ∧ (bk_cz n (M, 0) n).2 ≤ n) h2 h4 (by decide +kernel) (by decide +kernel) (by decide +kernel)
theorem bk_tz0 {n : Nat} (h2 : 2 ≤ n) (h4 : n ≤ 4) : (bk_cz n (bk_M0 n, 0) n).2 = n :=
  bk_n (P := fun n => (bk_cz n (bk_M0 n, 0) n).2 = n) h2 h4 (by decide +kernel) (by decide +kernel) (by decide +kernel)
theorem bk_czc (n : Nat) (M : List Nat) (c : Nat) : ∀ p, bk_cz n (M, c) p = ((bk_cz n (M, 0) p).1, c + (bk_cz n (M, 0) p).2) := by
  intro p
  induction p with
  | zero => rfl
  | succ p ih =>
    show bk_cs n p (bk_cz n (M, c) p) = _
    rw [ih]
    simp only [bk_cz, bk_cs, bk_cs2, Nat.add_assoc]
def bk_R (M : List Nat) (e : Nat) : Nat := min e (bk_g M e)
def bk_mg (R : Nat → Nat) (a b : Nat) : Nat → Nat := fun e => if R e = R b then R a else R e
def bk_ms (s : (Nat → Nat) × Nat) (a b : Nat) : (Nat → Nat) × Nat := (bk_mg s.1 a b, s.2 + if s.1 a = s.1 b then 1 else 0)
def bk_sk (shut : Bool) (i p : Nat) : Bool := shut && (p + 1 == i || p == i)
def bk_lf (n i : Nat) (shut : Bool) (R : Nat → Nat) : Nat → (Nat → Nat) × Nat
  | 0 => if shut then bk_ms (bk_ms (R, 0) (n + i - 1) (n + i)) (i - 1) i else (R, 0)
  | p + 1 => if bk_sk shut i p then bk_lf n i shut R p else bk_ms (bk_lf n i shut R p) (n + p) p
theorem bk_lt {n : Nat} (h2 : 2 ≤ n) (h4 : n ≤ 4) : ∀ M ∈ bk_T n, ∀ i, i < n → 1 ≤ i → (bk_lf n i true (bk_R M) n).2 = (bk_sa n M i).2 + (bk_cz n ((bk_sa n M i).1, 0) n).2 :=
  bk_n (P := fun n => ∀ M ∈ bk_T n, ∀ i, i < n → 1 ≤ i → (bk_lf n i true (bk_R M) n).2 = (bk_sa n M i).2 + (bk_cz n ((bk_sa n M i).1, 0) n).2) h2 h4 (by decide +kernel) (by decide +kernel) (by decide +kernel)
theorem bk_lo {n : Nat} (h2 : 2 ≤ n) (h4 : n ≤ 4) : ∀ M ∈ bk_T n, ∀ i, i < n → 1 ≤ i → (bk_lf n i false (bk_R M) n).2 = (bk_cz n (M, 0) n).2 :=
  bk_n (P := fun n => ∀ M ∈ bk_T n, ∀ i, i < n → 1 ≤ i → (bk_lf n i false (bk_R M) n).2 = (bk_cz n (M, 0) n).2) h2 h4 (by decide +kernel) (by decide +kernel) (by decide +kernel)
def bk_A (n i e : Nat) : Bool := e == n + i - 1 || e == n + i
def bk_nc (n i : Nat) (R : Nat → Nat) (e f : Nat) : Bool :=
  if bk_A n i e || bk_A n i f then bk_A n i e && bk_A n i f else decide (bk_mg R (n + i - 1) (n + i) e = bk_mg R (n + i - 1) (n + i) f)
theorem bk_nt {n : Nat} (h2 : 2 ≤ n) (h4 : n ≤ 4) : ∀ M ∈ bk_T n, ∀ i, i < n → 1 ≤ i → ∀ e, e < 2 * n → ∀ f, f < 2 * n → bk_nc n i (bk_R M) e f = decide (bk_R (bk_sa n M i).1 e = bk_R (bk_sa n M i).1 f) :=
  bk_n (P := fun n => ∀ M ∈ bk_T n, ∀ i, i < n → 1 ≤ i → ∀ e, e < 2 * n → ∀ f, f < 2 * n → bk_nc n i (bk_R M) e f = decide (bk_R (bk_sa n M i).1 e = bk_R (bk_sa n M i).1 f)) h2 h4 (by decide +kernel) (by decide +kernel) (by decide +kernel)
theorem bk_nq {n : Nat} (h2 : 2 ≤ n) (h4 : n ≤ 4) : ∀ M ∈ bk_T n, ∀ i, i < n → 1 ≤ i → (if bk_R M (n + i - 1) = bk_R M (n + i) then 1 else 0) = (bk_sa n M i).2 :=
  bk_n (P := fun n => ∀ M ∈ bk_T n, ∀ i, i < n → 1 ≤ i → (if bk_R M (n + i - 1) = bk_R M (n + i) then 1 else 0) = (bk_sa n M i).2) h2 h4 (by decide +kernel) (by decide +kernel) (by decide +kernel)
def bk_ns (shut : Bool) (i : Nat) : Nat → Nat
  | 0 => 0
  | p + 1 => if bk_sk shut i p then bk_ns shut i p else bk_ns shut i p + 1
theorem bk_nst {n : Nat} (h2 : 2 ≤ n) (h4 : n ≤ 4) : ∀ i, i < n → 1 ≤ i → bk_ns true i n + 2 = n ∧ bk_ns false i n = n :=
  bk_n (P := fun n => ∀ i, i < n → 1 ≤ i → bk_ns true i n + 2 = n ∧ bk_ns false i n = n) h2 h4 (by decide +kernel) (by decide +kernel) (by decide +kernel)
def bk_fa (n : Nat) (sz : Nat → Nat) (bt : Nat → Bool) : Nat → List Nat × Nat
  | 0 => (bk_M0 n, 0)
  | k + 1 => if bt k then bk_cs2 (bk_fa n sz bt k).2 (bk_sa n (bk_fa n sz bt k).1 (sz k)) else bk_fa n sz bt k
def bk_F (n len : Nat) (sz : Nat → Nat) (bt : Nat → Bool) : Nat := (bk_cz n (bk_fa n sz bt len) n).2
theorem bk_fat {n len : Nat} {sz : Nat → Nat} {bt : Nat → Bool} (h2 : 2 ≤ n) (h4 : n ≤ 4) (hs : ∀ k, k < len → 1 ≤ sz k ∧ sz k < n) : ∀ k, k ≤ len → (bk_fa n sz bt k).1 ∈ bk_T n ∧ (bk_fa n sz bt k).2 ≤ k := by
  intro k
  induction k with
  | zero => exact fun _ => ⟨bk_t0 h2 h4, Nat.le_refl 0⟩
  | succ k ih =>
    intro hk
    obtain ⟨hM, hc⟩ := ih (by omega)
    obtain ⟨s1, s2⟩ := hs k (by omega)
    have ht := bk_tc h2 h4 _ hM _ s2 s1
    show (if bt k then bk_cs2 (bk_fa n sz bt k).2 (bk_sa n (bk_fa n sz bt k).1 (sz k)) else bk_fa n sz bt k).1 ∈ bk_T n ∧ (if bt k then bk_cs2 (bk_fa n sz bt k).2 (bk_sa n (bk_fa n sz bt k).1 (sz k)) else bk_fa n sz bt k).2 ≤ k + 1
    cases hb : bt k with
    | false => exact ⟨hM, Nat.le_succ_of_le hc⟩
    | true => exact ⟨ht.1, Nat.add_le_add hc ht.2⟩
theorem bk_Fr {n len : Nat} {sz : Nat → Nat} {bt : Nat → Bool} (h2 : 2 ≤ n) (h4 : n ≤ 4) (hs : ∀ k, k < len → 1 ≤ sz k ∧ sz k < n) : 1 ≤ bk_F n len sz bt ∧ bk_F n len sz bt ≤ n + len := by
  obtain ⟨hM, hc⟩ := bk_fat (bt := bt) h2 h4 hs len (Nat.le_refl _)
  have h := bk_tz2 h2 h4 _ hM
  have e : bk_F n len sz bt = (bk_fa n sz bt len).2 + (bk_cz n ((bk_fa n sz bt len).1, 0) n).2 := by
    show (bk_cz n ((bk_fa n sz bt len).1, (bk_fa n sz bt len).2) n).2 = _
    rw [bk_czc]
  omega
end
section
def bk_mr (rt : Nat → Nat) (x y : Nat) : Nat → Nat := fun z => if rt z = max (rt x) (rt y) then min (rt x) (rt y) else rt z
def bk_U (rt : Nat → Nat) : Prop := ∀ x, rt x ≤ x ∧ rt (rt x) = rt x
def bk_V (n : Nat) (rt : Nat → Nat) : Prop := ∀ x, x % 4 < n → rt x % 4 < n
theorem bk_mr_le {rt : Nat → Nat} {x y : Nat} (h : rt x ≤ rt y) : bk_mr rt x y = fun z => if rt z = rt y then rt x else rt z := by
  funext z
  unfold bk_mr
  rw [Nat.max_eq_right h, Nat.min_eq_left h]
theorem bk_mr_cm (rt : Nat → Nat) (x y : Nat) : bk_mr rt x y = bk_mr rt y x := by
  funext z
  unfold bk_mr
  rw [Nat.max_comm, Nat.min_comm]
theorem bk_mrU0 {rt : Nat → Nat} {x y : Nat} (h : bk_U rt) (hl : rt x ≤ rt y) : bk_U (bk_mr rt x y) := by
  rw [bk_mr_le hl]
  intro z
  have hz := h z
  have hx := h x
  have hy := h y
  by_cases e : rt z = rt y
  · dsimp only
    rw [if_pos e, hx.2]
    refine ⟨by omega, ?_⟩
    split <;> rfl
  · dsimp only
    rw [if_neg e, hz.2, if_neg e]
    exact ⟨hz.1, rfl⟩
theorem bk_mrU {rt : Nat → Nat} (h : bk_U rt) (x y : Nat) : bk_U (bk_mr rt x y) := by
  rcases Nat.le_total (rt x) (rt y) with hl | hl
  · exact bk_mrU0 h hl
  · rw [bk_mr_cm]
    exact bk_mrU0 h hl
theorem bk_mrV {n : Nat} {rt : Nat → Nat} {x y : Nat} (h : bk_V n rt) (hx : x % 4 < n) (hy : y % 4 < n) : bk_V n (bk_mr rt x y) := by
  intro z hz
  have a := h x hx
  have b := h y hy
  have c := h z hz
  rcases Nat.le_total (rt x) (rt y) with hl | hl
  · rw [bk_mr_le hl]
    dsimp only
    split <;> assumption
  · rw [bk_mr_cm, bk_mr_le hl]
    dsimp only
    split <;> assumption
def bk_ct (P : Nat → Bool) : Nat → Nat
  | 0 => 0
  | N + 1 => bk_ct P N + if P N then 1 else 0
theorem bk_ct_cg {P Q : Nat → Bool} : ∀ N, (∀ z, z < N → P z = Q z) → bk_ct P N = bk_ct Q N := by
  intro N
  induction N with
  | zero => exact fun _ => rfl
  | succ N ih =>
    intro h
    show bk_ct P N + (if P N then 1 else 0) = bk_ct Q N + (if Q N then 1 else 0)
    rw [ih (fun z hz => h z (by omega)), h N (by omega)]
theorem bk_ct_rm {P Q : Nat → Bool} {a : Nat} (hp : P a = true) (hq : ∀ z, Q z = (P z && decide (z ≠ a))) : ∀ N, a < N → bk_ct Q N + 1 = bk_ct P N := by
  intro N
  induction N with
  | zero => intro h; omega
  | succ N ih =>
    intro h
    show bk_ct Q N + (if Q N then 1 else 0) + 1 = bk_ct P N + (if P N then 1 else 0)
    by_cases e : a = N
    · subst e
      have h1 : bk_ct Q a = bk_ct P a := bk_ct_cg a (fun z hz => by
        rw [hq z, decide_eq_true (show z ≠ a by omega), Bool.and_true])
      have h2 : Q a = false := by
        rw [hq a, decide_eq_false (show ¬ a ≠ a from fun q => q rfl), Bool.and_false]
      rw [h1, h2, hp]
      rfl
    · have h1 := ih (by omega)
      have h2 : Q N = P N := by
        rw [hq N, decide_eq_true (show N ≠ a by omega), Bool.and_true]
      rw [h2]
      omega
def bk_C (n L : Nat) (rt : Nat → Nat) : Nat := bk_ct (fun x => decide (x % 4 < n) && decide (rt x = x)) L
theorem bk_mr_eq {rt : Nat → Nat} {x y : Nat} (h : rt x = rt y) : bk_mr rt x y = rt := by
  rw [bk_mr_le (Nat.le_of_eq h)]
  funext z
  split
  · rename_i e
    rw [e, h]
  · rfl
theorem bk_C_lt {n L : Nat} {rt : Nat → Nat} {x y : Nat} (hU : bk_U rt) (hV : bk_V n rt) (hy : y < L) (hm : y % 4 < n) (hl : rt x < rt y) : bk_C n L (bk_mr rt x y) + 1 = bk_C n L rt := by
  rw [bk_mr_le (Nat.le_of_lt hl)]
  unfold bk_C
  have ux := hU x
  have uy := hU y
  refine bk_ct_rm (a := rt y) ?_ ?_ L (by omega)
  · show (decide (rt y % 4 < n) && decide (rt (rt y) = rt y)) = true
    rw [decide_eq_true (hV y hm), decide_eq_true uy.2]
    rfl
  · intro z
    dsimp only
    rw [Bool.and_assoc]
    refine congrArg (fun b => decide (z % 4 < n) && b) ?_
    rw [Bool.eq_iff_iff, Bool.and_eq_true, decide_eq_true_eq, decide_eq_true_eq, decide_eq_true_eq]
    by_cases e : rt z = rt y
    · rw [if_pos e]
      constructor
      · intro q
        rw [← q, ux.2] at e
        omega
      · intro q
        omega
    · rw [if_neg e]
      constructor
      · intro q
        refine ⟨q, fun q2 => e ?_⟩
        rw [q2, uy.2]
      · exact fun q => q.1
theorem bk_C_mr {n L : Nat} {rt : Nat → Nat} {x y : Nat} (hU : bk_U rt) (hV : bk_V n rt) (hx : x < L) (hxm : x % 4 < n) (hy : y < L) (hym : y % 4 < n) : bk_C n L (bk_mr rt x y) + (if rt x = rt y then 0 else 1) = bk_C n L rt := by
  by_cases e : rt x = rt y
  · rw [if_pos e, bk_mr_eq e]
    rfl
  · rw [if_neg e]
    rcases Nat.lt_or_ge (rt x) (rt y) with hl | hl
    · exact bk_C_lt hU hV hy hym hl
    · rw [bk_mr_cm]
      exact bk_C_lt hU hV hx hxm (by omega)
def bk_K (E : Nat → Nat) (N : Nat) (rt R : Nat → Nat) : Prop := ∀ e, e < N → ∀ f, f < N → (rt (E e) = rt (E f) ↔ R e = R f)
theorem bk_mg_cm (R : Nat → Nat) (a b e f : Nat) : (bk_mg R a b e = bk_mg R a b f) ↔ (bk_mg R b a e = bk_mg R b a f) := by
  unfold bk_mg
  repeat' split
  all_goals omega
theorem bk_K_le {E : Nat → Nat} {N : Nat} {rt R : Nat → Nat} {a b : Nat} (h : bk_K E N rt R) (ha : a < N) (hb : b < N) (hl : rt (E a) ≤ rt (E b)) : bk_K E N (bk_mr rt (E a) (E b)) (bk_mg R a b) := by
  intro e he f hf
  rw [bk_mr_le hl]
  dsimp only
  unfold bk_mg
  have h1 := h e he b hb
  have h2 := h f hf b hb
  have h3 := h e he f hf
  have h4 := h e he a ha
  have h5 := h a ha f hf
  have h6 := h f hf a ha
  by_cases c1 : rt (E e) = rt (E b)
  · by_cases c2 : rt (E f) = rt (E b)
    · rw [if_pos c1, if_pos c2, if_pos (h1.mp c1), if_pos (h2.mp c2)]
      exact ⟨fun _ => rfl, fun _ => rfl⟩
    · rw [if_pos c1, if_neg c2, if_pos (h1.mp c1), if_neg (fun q => c2 (h2.mpr q))]
      exact h5
  · by_cases c2 : rt (E f) = rt (E b)
    · rw [if_neg c1, if_pos c2, if_neg (fun q => c1 (h1.mpr q)), if_pos (h2.mp c2)]
      exact h4
    · rw [if_neg c1, if_neg c2, if_neg (fun q => c1 (h1.mpr q)), if_neg (fun q => c2 (h2.mpr q))]
      exact h3
theorem bk_K_mr {E : Nat → Nat} {N : Nat} {rt R : Nat → Nat} {a b : Nat} (h : bk_K E N rt R) (ha : a < N) (hb : b < N) : bk_K E N (bk_mr rt (E a) (E b)) (bk_mg R a b) := by
  rcases Nat.le_total (rt (E a)) (rt (E b)) with hl | hl
  · exact bk_K_le h ha hb hl
  · rw [bk_mr_cm]
    intro e he f hf
    rw [bk_mg_cm]
    exact bk_K_le h hb ha hl e he f hf
def bk_B (n L X : Nat) (E rt : Nat → Nat) (s : (Nat → Nat) × Nat) (d : Nat) : Prop :=
  bk_U rt ∧ bk_V n rt ∧ bk_K E (2 * n) rt s.1 ∧ bk_C n L rt + d = X + s.2
theorem bk_Bm {n L X d : Nat} {E rt : Nat → Nat} {s : (Nat → Nat) × Nat} (h : bk_B n L X E rt s d) {a b : Nat} (ha : a < 2 * n) (hb : b < 2 * n) (h1 : E a < L) (h2 : E a % 4 < n) (h3 : E b < L) (h4 : E b % 4 < n) : bk_B n L X E (bk_mr rt (E a) (E b)) (bk_ms s a b) (d + 1) := by
  obtain ⟨hU, hV, hK, hC⟩ := h
  refine ⟨bk_mrU hU _ _, bk_mrV hV h2 h4, bk_K_mr hK ha hb, ?_⟩
  have hc := bk_C_mr (L := L) hU hV h1 h2 h3 h4
  have hk := hK a ha b hb
  show _ = X + (s.2 + if s.1 a = s.1 b then 1 else 0)
  by_cases e : rt (E a) = rt (E b)
  · rw [if_pos e] at hc
    rw [if_pos (hk.mp e)]
    omega
  · rw [if_neg e] at hc
    rw [if_neg (fun q => e (hk.mpr q))]
    omega
def bk_fl (above below i : Nat) (shut : Bool) (rt : Nat → Nat) : Nat → (Nat → Nat)
  | 0 => if shut then bk_mr (bk_mr rt (above + i - 1) (above + i)) (below + i - 1) (below + i) else rt
  | p + 1 => if bk_sk shut i p then bk_fl above below i shut rt p else bk_mr (bk_fl above below i shut rt p) (above + p) (below + p)
def bk_be (len k : Nat) : Nat := if k + 1 = len then 0 else 4 * k + 4
def bk_rt (n len : Nat) (sz : Nat → Nat) (bt : Nat → Bool) : Nat → (Nat → Nat)
  | 0 => fun x => x
  | k + 1 => bk_fl (4 * k) (bk_be len k) (sz k) (bt k) (bk_rt n len sz bt k) n
def bk_cnt (n len : Nat) (sz : Nat → Nat) (bt : Nat → Bool) : Nat := if len = 0 then n else bk_C n (4 * len) (bk_rt n len sz bt len)
def bk_E (n k e : Nat) : Nat := if e < n then e else 4 * k + (e - n)
theorem bk_Elo {n k e : Nat} (h : e < n) : bk_E n k e = e := if_pos h
theorem bk_Ehi (n k q : Nat) : bk_E n k (n + q) = 4 * k + q := by
  unfold bk_E
  rw [if_neg (by omega)]
  omega
def bk_nd (shut : Bool) (i : Nat) : Nat → Nat
  | 0 => if shut then 2 else 0
  | p + 1 => if bk_sk shut i p then bk_nd shut i p else bk_nd shut i p + 1
theorem bk_ndt {n : Nat} (h2 : 2 ≤ n) (h4 : n ≤ 4) : ∀ i, i < n → 1 ≤ i → bk_nd true i n = n ∧ bk_nd false i n = n :=
  bk_n (P := fun n => ∀ i, i < n → 1 ≤ i → bk_nd true i n = n ∧ bk_nd false i n = n) h2 h4 (by decide +kernel) (by decide +kernel) (by decide +kernel)
theorem bk_last {n len k i X : Nat} {shut : Bool} {rt R : Nat → Nat} (h4 : n ≤ 4) (hk : k < len) (hi : 1 ≤ i) (hin : i < n) (h : bk_B n (4 * len) X (bk_E n k) rt (R, 0) 0) : ∀ p, p ≤ n → bk_B n (4 * len) X (bk_E n k) (bk_fl (4 * k) 0 i shut rt p) (bk_lf n i shut R p) (bk_nd shut i p) := by
  intro p
  induction p with
  | zero =>
    intro _
    cases shut with
    | false => exact h
    | true =>
      have e1 : bk_E n k (n + i - 1) = 4 * k + i - 1 := by
        have := bk_Ehi n k (i - 1)
        rw [show n + (i - 1) = n + i - 1 by omega] at this
        omega
      have e2 : bk_E n k (n + i) = 4 * k + i := bk_Ehi n k i
      have e3 : bk_E n k (i - 1) = 0 + i - 1 := by
        rw [bk_Elo (by omega)]
        omega
      have e4 : bk_E n k i = 0 + i := by
        rw [bk_Elo hin]
        omega
      have s1 := bk_Bm h (a := n + i - 1) (b := n + i) (by omega) (by omega) (by rw [e1]; omega) (by rw [e1]; omega) (by rw [e2]; omega) (by rw [e2]; omega)
      have s2 := bk_Bm s1 (a := i - 1) (b := i) (by omega) (by omega) (by rw [e3]; omega) (by rw [e3]; omega) (by rw [e4]; omega) (by rw [e4]; omega)
      rw [e1, e2, e3, e4] at s2
      exact s2
  | succ p ih =>
    intro hp
    have h0 := ih (by omega)
    show bk_B n (4 * len) X (bk_E n k) (if bk_sk shut i p then bk_fl (4 * k) 0 i shut rt p else bk_mr (bk_fl (4 * k) 0 i shut rt p) (4 * k + p) (0 + p)) (if bk_sk shut i p then bk_lf n i shut R p else bk_ms (bk_lf n i shut R p) (n + p) p) (if bk_sk shut i p then bk_nd shut i p else bk_nd shut i p + 1)
    cases hs : bk_sk shut i p with
    | true => exact h0
    | false =>
      have e1 : bk_E n k (n + p) = 4 * k + p := bk_Ehi n k p
      have e2 : bk_E n k p = 0 + p := by
        rw [bk_Elo (by omega)]
        omega
      have s1 := bk_Bm h0 (a := n + p) (b := p) (by omega) (by omega) (by rw [e1]; omega) (by rw [e1]; omega) (by rw [e2]; omega) (by rw [e2]; omega)
      rw [e1, e2] at s1
      exact s1
def bk_q (k i : Nat) (shut : Bool) (rt2 : Nat → Nat) (p z : Nat) : Nat :=
  if 4 * k + 4 ≤ z ∧ z < 4 * k + 4 + p ∧ bk_sk shut i (z - (4 * k + 4)) = false then rt2 (z - 4) else rt2 z
theorem bk_flf {k i : Nat} {shut : Bool} {rt : Nat → Nat} (h1 : ∀ z, z < 4 * k + 4 → bk_fl (4 * k) (4 * k + 4) i shut rt 0 z < 4 * k + 4)
    (h2 : ∀ p, p < 4 → bk_sk shut i p = false → bk_fl (4 * k) (4 * k + 4) i shut rt 0 (4 * k + 4 + p) = 4 * k + 4 + p ∧ ∀ z, bk_fl (4 * k) (4 * k + 4) i shut rt 0 z = 4 * k + 4 + p → z = 4 * k + 4 + p) :
    ∀ p, p ≤ 4 → bk_fl (4 * k) (4 * k + 4) i shut rt p = bk_q k i shut (bk_fl (4 * k) (4 * k + 4) i shut rt 0) p := by
  intro p
  generalize hr : bk_fl (4 * k) (4 * k + 4) i shut rt 0 = rt2 at h1 h2 ⊢
  induction p with
  | zero =>
    intro _
    rw [hr]
    funext z
    unfold bk_q
    rw [if_neg (by omega)]
  | succ p ih =>
    intro hp
    have h0 := ih (by omega)
    show (if bk_sk shut i p then bk_fl (4 * k) (4 * k + 4) i shut rt p else bk_mr (bk_fl (4 * k) (4 * k + 4) i shut rt p) (4 * k + p) (4 * k + 4 + p)) = _
    rw [h0]
    cases hs : bk_sk shut i p with
    | true =>
      rw [if_pos rfl]
      funext z
      unfold bk_q
      by_cases e : z = 4 * k + 4 + p
      · rw [if_neg (by omega), if_neg]
        intro q
        have q3 := q.2.2
        rw [show z - (4 * k + 4) = p by omega, hs] at q3
        cases q3
      · by_cases c : 4 * k + 4 ≤ z ∧ z < 4 * k + 4 + p ∧ bk_sk shut i (z - (4 * k + 4)) = false
        · rw [if_pos c, if_pos ⟨c.1, by omega, c.2.2⟩]
        · rw [if_neg c, if_neg (fun q => c ⟨q.1, by omega, q.2.2⟩)]
    | false =>
      rw [if_neg (by decide)]
      obtain ⟨f1, f2⟩ := h2 p (by omega) hs
      have v1 : bk_q k i shut rt2 p (4 * k + p) = rt2 (4 * k + p) := if_neg (by omega)
      have v2 : bk_q k i shut rt2 p (4 * k + 4 + p) = 4 * k + 4 + p := by
        unfold bk_q
        rw [if_neg (by omega), f1]
      have v3 := h1 (4 * k + p) (by omega)
      rw [bk_mr_le (by rw [v1, v2]; omega), v1, v2]
      funext z
      by_cases e : z = 4 * k + 4 + p
      · subst e
        rw [if_pos v2]
        unfold bk_q
        rw [if_pos ⟨by omega, by omega, by rw [show 4 * k + 4 + p - (4 * k + 4) = p by omega]; exact hs⟩]
        congr 1
        omega
      · have hz : ¬ bk_q k i shut rt2 p z = 4 * k + 4 + p := by
          unfold bk_q
          split
          · rename_i c
            have := h1 (z - 4) (by omega)
            omega
          · exact fun q => e (f2 z q)
        rw [if_neg hz]
        unfold bk_q
        by_cases c : 4 * k + 4 ≤ z ∧ z < 4 * k + 4 + p ∧ bk_sk shut i (z - (4 * k + 4)) = false
        · rw [if_pos c, if_pos ⟨c.1, by omega, c.2.2⟩]
        · rw [if_neg c, if_neg (fun q => c ⟨q.1, by omega, q.2.2⟩)]
end
section
theorem bk_flC {n len k i : Nat} {shut : Bool} {rt : Nat → Nat} (h4 : n ≤ 4) (hk : k + 1 < len) (h1 : ∀ z, z < 4 * k + 4 → bk_fl (4 * k) (4 * k + 4) i shut rt 0 z < 4 * k + 4)
    (h2 : ∀ p, p < 4 → bk_sk shut i p = false → bk_fl (4 * k) (4 * k + 4) i shut rt 0 (4 * k + 4 + p) = 4 * k + 4 + p ∧ ∀ z, bk_fl (4 * k) (4 * k + 4) i shut rt 0 z = 4 * k + 4 + p → z = 4 * k + 4 + p)
    (hU : bk_U (bk_fl (4 * k) (4 * k + 4) i shut rt 0)) (hV : bk_V n (bk_fl (4 * k) (4 * k + 4) i shut rt 0)) :
    ∀ p, p ≤ n → bk_U (bk_fl (4 * k) (4 * k + 4) i shut rt p) ∧ bk_V n (bk_fl (4 * k) (4 * k + 4) i shut rt p) ∧ bk_C n (4 * len) (bk_fl (4 * k) (4 * k + 4) i shut rt p) + bk_ns shut i p = bk_C n (4 * len) (bk_fl (4 * k) (4 * k + 4) i shut rt 0) := by
  intro p
  induction p with
  | zero => exact fun _ => ⟨hU, hV, rfl⟩
  | succ p ih =>
    intro hp
    obtain ⟨iU, iV, iC⟩ := ih (by omega)
    have hq := bk_flf h1 h2 p (by omega)
    have e0 : bk_fl (4 * k) (4 * k + 4) i shut rt (p + 1) = if bk_sk shut i p then bk_fl (4 * k) (4 * k + 4) i shut rt p else bk_mr (bk_fl (4 * k) (4 * k + 4) i shut rt p) (4 * k + p) (4 * k + 4 + p) := rfl
    have e1 : bk_ns shut i (p + 1) = if bk_sk shut i p then bk_ns shut i p else bk_ns shut i p + 1 := rfl
    rw [e0, e1]
    cases hs : bk_sk shut i p with
    | true => exact ⟨iU, iV, iC⟩
    | false =>
      rw [if_neg (by decide), if_neg (by decide)]
      obtain ⟨f1, f2⟩ := h2 p (by omega) hs
      have v3 := h1 (4 * k + p) (by omega)
      have v1 : bk_fl (4 * k) (4 * k + 4) i shut rt p (4 * k + p) = bk_fl (4 * k) (4 * k + 4) i shut rt 0 (4 * k + p) := by
        rw [hq]
        exact if_neg (by omega)
      have v2 : bk_fl (4 * k) (4 * k + 4) i shut rt p (4 * k + 4 + p) = 4 * k + 4 + p := by
        rw [hq]
        unfold bk_q
        rw [if_neg (by omega), f1]
      have hc := bk_C_lt (L := 4 * len) (x := 4 * k + p) (y := 4 * k + 4 + p) iU iV (by omega) (by omega) (by rw [v1, v2]; omega)
      exact ⟨bk_mrU iU _ _, bk_mrV iV (by omega) (by omega), by omega⟩
def bk_H (n len k : Nat) (rt : Nat → Nat) (s : List Nat × Nat) : Prop :=
  bk_U rt ∧ bk_V n rt ∧ (∀ x, 4 * k + 4 ≤ x → rt x = x) ∧ bk_K (bk_E n k) (2 * n) rt (bk_R s.1) ∧ bk_C n (4 * len) rt + n * k = n * len + s.2
theorem bk_midO {n len k i : Nat} {rt : Nat → Nat} {s : List Nat × Nat} (h2 : 2 ≤ n) (h4 : n ≤ 4) (hk : k + 1 < len) (hi : 1 ≤ i) (hin : i < n) (h : bk_H n len k rt s) : bk_H n len (k + 1) (bk_fl (4 * k) (4 * k + 4) i false rt n) s := by
  obtain ⟨hU, hV, hf, hK, hC⟩ := h
  have b1 : ∀ z, z < 4 * k + 4 → bk_fl (4 * k) (4 * k + 4) i false rt 0 z < 4 * k + 4 := fun z hz => Nat.lt_of_le_of_lt (hU z).1 hz
  have b2 : ∀ p, p < 4 → bk_sk false i p = false → bk_fl (4 * k) (4 * k + 4) i false rt 0 (4 * k + 4 + p) = 4 * k + 4 + p ∧ ∀ z, bk_fl (4 * k) (4 * k + 4) i false rt 0 z = 4 * k + 4 + p → z = 4 * k + 4 + p := by
    intro p _ _
    refine ⟨hf _ (by omega), fun z hz => ?_⟩
    have hz' : rt z = 4 * k + 4 + p := hz
    have h3 := (hU z).1
    rw [hf z (by omega)] at hz'
    exact hz'
  obtain ⟨cU, cV, cC⟩ := bk_flC h4 hk b1 b2 hU hV n (Nat.le_refl n)
  have hq := bk_flf b1 b2 n h4
  have hn := (bk_nst h2 h4 i hin hi).2
  have v : ∀ e, e < 2 * n → bk_fl (4 * k) (4 * k + 4) i false rt n (bk_E n (k + 1) e) = rt (bk_E n k e) := by
    intro e he
    rw [hq]
    by_cases c : e < n
    · rw [bk_Elo c, bk_Elo c]
      exact if_neg (by omega)
    · obtain ⟨q, rfl⟩ : ∃ q, e = n + q := ⟨e - n, by omega⟩
      rw [bk_Ehi, bk_Ehi]
      unfold bk_q
      rw [if_pos ⟨by omega, by omega, rfl⟩]
      show rt _ = rt _
      congr 1
      omega
  refine ⟨cU, cV, ?_, ?_, ?_⟩
  · intro x hx
    rw [hq]
    unfold bk_q
    rw [if_neg (by omega)]
    exact hf x (by omega)
  · intro e he f hf'
    rw [v e he, v f hf']
    exact hK e he f hf'
  · have e0 : bk_C n (4 * len) (bk_fl (4 * k) (4 * k + 4) i false rt 0) = bk_C n (4 * len) rt := rfl
    rw [e0] at cC
    rw [Nat.mul_add, Nat.mul_one]
    omega
theorem bk_midS {n len k i : Nat} {rt : Nat → Nat} {s : List Nat × Nat} (h2 : 2 ≤ n) (h4 : n ≤ 4) (hk : k + 1 < len) (hi : 1 ≤ i) (hin : i < n) (hM : s.1 ∈ bk_T n) (h : bk_H n len k rt s) : bk_H n len (k + 1) (bk_fl (4 * k) (4 * k + 4) i true rt n) (bk_cs2 s.2 (bk_sa n s.1 i)) := by
  obtain ⟨hU, hV, hf, hK, hC⟩ := h
  have e1 : bk_E n k (n + i - 1) = 4 * k + i - 1 := by
    have := bk_Ehi n k (i - 1)
    rw [show n + (i - 1) = n + i - 1 by omega] at this
    omega
  have e2 : bk_E n k (n + i) = 4 * k + i := bk_Ehi n k i
  have B0 : bk_B n (4 * len) (bk_C n (4 * len) rt) (bk_E n k) rt (bk_R s.1, 0) 0 := ⟨hU, hV, hK, rfl⟩
  have B1 := bk_Bm B0 (a := n + i - 1) (b := n + i) (by omega) (by omega) (by rw [e1]; omega) (by rw [e1]; omega) (by rw [e2]; omega) (by rw [e2]; omega)
  rw [e1, e2] at B1
  obtain ⟨U1, V1, K1, C1⟩ := B1
  have hnq := bk_nq h2 h4 s.1 hM i hin hi
  have C1' : bk_C n (4 * len) (bk_mr rt (4 * k + i - 1) (4 * k + i)) + (0 + 1) = bk_C n (4 * len) rt + (0 + if bk_R s.1 (n + i - 1) = bk_R s.1 (n + i) then 1 else 0) := C1
  rw [hnq] at C1'
  have K1' : bk_K (bk_E n k) (2 * n) (bk_mr rt (4 * k + i - 1) (4 * k + i)) (bk_mg (bk_R s.1) (n + i - 1) (n + i)) := K1
  have f1 : ∀ x, 4 * k + 4 ≤ x → bk_mr rt (4 * k + i - 1) (4 * k + i) x = x := by
    intro x hx
    have a1 := (hU (4 * k + i - 1)).1
    have a2 := (hU (4 * k + i)).1
    have a3 := hf x hx
    unfold bk_mr
    rw [if_neg (by omega), a3]
  clear C1 K1 B0 hK hf
  generalize hr1 : bk_mr rt (4 * k + i - 1) (4 * k + i) = rt1 at U1 V1 C1' K1' f1
  have g1 : rt1 (4 * k + 4 + i - 1) = 4 * k + 4 + i - 1 := f1 _ (by omega)
  have g2 : rt1 (4 * k + 4 + i) = 4 * k + 4 + i := f1 _ (by omega)
  have r0 : bk_fl (4 * k) (4 * k + 4) i true rt 0 = fun z => if rt1 z = 4 * k + 4 + i then 4 * k + 4 + i - 1 else rt1 z := by
    show bk_mr (bk_mr rt (4 * k + i - 1) (4 * k + i)) (4 * k + 4 + i - 1) (4 * k + 4 + i) = _
    rw [hr1, bk_mr_le (by rw [g1, g2]; omega), g1, g2]
  have r0' : bk_fl (4 * k) (4 * k + 4) i true rt 0 = bk_mr rt1 (4 * k + 4 + i - 1) (4 * k + 4 + i) := by
    show bk_mr (bk_mr rt (4 * k + i - 1) (4 * k + i)) (4 * k + 4 + i - 1) (4 * k + 4 + i) = _
    rw [hr1]
  have U2 : bk_U (bk_fl (4 * k) (4 * k + 4) i true rt 0) := by
    rw [r0']
    exact bk_mrU U1 _ _
  have V2 : bk_V n (bk_fl (4 * k) (4 * k + 4) i true rt 0) := by
    rw [r0']
    exact bk_mrV V1 (by omega) (by omega)
  have C2 : bk_C n (4 * len) (bk_fl (4 * k) (4 * k + 4) i true rt 0) + 1 = bk_C n (4 * len) rt1 := by
    rw [r0']
    exact bk_C_lt U1 V1 (by omega) (by omega) (by rw [g1, g2]; omega)
  have lo : ∀ z, z < 4 * k + 4 → bk_fl (4 * k) (4 * k + 4) i true rt 0 z = rt1 z := by
    intro z hz
    have := (U1 z).1
    rw [r0]
    exact if_neg (by omega)
  have b1 : ∀ z, z < 4 * k + 4 → bk_fl (4 * k) (4 * k + 4) i true rt 0 z < 4 * k + 4 := by
    intro z hz
    rw [lo z hz]
    exact Nat.lt_of_le_of_lt (U1 z).1 hz
  have sk : ∀ p, bk_sk true i p = false ↔ (p + 1 ≠ i ∧ p ≠ i) := by
    intro p
    unfold bk_sk
    simp
  have b2 : ∀ p, p < 4 → bk_sk true i p = false → bk_fl (4 * k) (4 * k + 4) i true rt 0 (4 * k + 4 + p) = 4 * k + 4 + p ∧ ∀ z, bk_fl (4 * k) (4 * k + 4) i true rt 0 z = 4 * k + 4 + p → z = 4 * k + 4 + p := by
    intro p _ hp
    have hp' := (sk p).mp hp
    have a1 := f1 (4 * k + 4 + p) (by omega)
    rw [r0]
    constructor
    · dsimp only
      rw [if_neg (by omega), a1]
    · intro z
      dsimp only
      split
      · intro q
        omega
      · intro q
        have a2 := (U1 z).1
        have a3 := f1 z (by omega)
        omega
  obtain ⟨cU, cV, cC⟩ := bk_flC h4 hk b1 b2 U2 V2 n (Nat.le_refl n)
  have hq := bk_flf b1 b2 n h4
  have hn := (bk_nst h2 h4 i hin hi).1
  have v : ∀ e, e < 2 * n → bk_fl (4 * k) (4 * k + 4) i true rt n (bk_E n (k + 1) e) = if bk_A n i e then 4 * k + 4 + i - 1 else rt1 (bk_E n k e) := by
    intro e he
    rw [hq]
    by_cases c : e < n
    · have hA : bk_A n i e = false := by
        unfold bk_A
        rw [Bool.or_eq_false_iff, beq_eq_false_iff_ne, beq_eq_false_iff_ne]
        omega
      rw [bk_Elo c, bk_Elo c, hA, if_neg (by decide)]
      unfold bk_q
      rw [if_neg (by omega)]
      exact lo e (by omega)
    · obtain ⟨q, rfl⟩ : ∃ q, e = n + q := ⟨e - n, by omega⟩
      rw [bk_Ehi, bk_Ehi]
      cases hsk : bk_sk true i q with
      | true =>
        have hs2 : q + 1 = i ∨ q = i := by
          by_cases c2 : q + 1 ≠ i ∧ q ≠ i
          · have c3 := (sk q).mpr c2
            rw [hsk] at c3
            cases c3
          · omega
        have hA : bk_A n i (n + q) = true := by
          unfold bk_A
          rw [Bool.or_eq_true, beq_iff_eq, beq_iff_eq]
          omega
        rw [hA, if_pos rfl]
        unfold bk_q
        rw [if_neg]
        · rw [r0]
          dsimp only
          rw [f1 _ (by omega)]
          split <;> omega
        · intro c2
          have c3 := c2.2.2
          rw [show 4 * (k + 1) + q - (4 * k + 4) = q by omega, hsk] at c3
          cases c3
      | false =>
        have hs2 := (sk q).mp hsk
        have hA : bk_A n i (n + q) = false := by
          unfold bk_A
          rw [Bool.or_eq_false_iff, beq_eq_false_iff_ne, beq_eq_false_iff_ne]
          omega
        rw [hA, if_neg (by decide)]
        unfold bk_q
        rw [if_pos ⟨by omega, by omega, by rw [show 4 * (k + 1) + q - (4 * k + 4) = q by omega]; exact hsk⟩, lo _ (by omega)]
        congr 1
        omega
  have lt1 : ∀ e, e < 2 * n → rt1 (bk_E n k e) < 4 * k + 4 := by
    intro e he
    have a := (U1 (bk_E n k e)).1
    have b : bk_E n k e < 4 * k + 4 := by
      unfold bk_E
      split <;> omega
    omega
  refine ⟨cU, cV, ?_, ?_, ?_⟩
  · intro x hx
    rw [hq]
    unfold bk_q
    rw [if_neg (by omega), r0]
    dsimp only
    have a := f1 x (by omega)
    rw [if_neg (by omega), a]
  · intro e he f hf'
    rw [v e he, v f hf']
    have ht := bk_nt h2 h4 s.1 hM i hin hi e he f hf'
    have le := lt1 e he
    have lf := lt1 f hf'
    show _ ↔ bk_R (bk_sa n s.1 i).1 e = bk_R (bk_sa n s.1 i).1 f
    unfold bk_nc at ht
    cases ha : bk_A n i e with
    | true =>
      cases hb : bk_A n i f with
      | true =>
        rw [ha, hb] at ht
        have ht' : true = decide (bk_R (bk_sa n s.1 i).1 e = bk_R (bk_sa n s.1 i).1 f) := ht
        have := of_decide_eq_true ht'.symm
        exact ⟨fun _ => this, fun _ => rfl⟩
      | false =>
        rw [ha, hb] at ht
        have ht' : false = decide (bk_R (bk_sa n s.1 i).1 e = bk_R (bk_sa n s.1 i).1 f) := ht
        have := of_decide_eq_false ht'.symm
        rw [if_pos rfl, if_neg (by decide)]
        exact ⟨fun q => by omega, fun q => absurd q this⟩
    | false =>
      cases hb : bk_A n i f with
      | true =>
        rw [ha, hb] at ht
        have ht' : false = decide (bk_R (bk_sa n s.1 i).1 e = bk_R (bk_sa n s.1 i).1 f) := ht
        have := of_decide_eq_false ht'.symm
        rw [if_pos rfl, if_neg (by decide)]
        exact ⟨fun q => by omega, fun q => absurd q this⟩
      | false =>
        rw [ha, hb] at ht
        have ht' : decide (bk_mg (bk_R s.1) (n + i - 1) (n + i) e = bk_mg (bk_R s.1) (n + i - 1) (n + i) f) = decide (bk_R (bk_sa n s.1 i).1 e = bk_R (bk_sa n s.1 i).1 f) := ht
        have := decide_eq_decide.mp ht'
        rw [if_neg (by decide), if_neg (by decide)]
        exact (K1' e he f hf').trans this
  · show _ = n * len + (s.2 + (bk_sa n s.1 i).2)
    rw [Nat.mul_add, Nat.mul_one]
    omega
theorem bk_C0 {n : Nat} (h2 : 2 ≤ n) (h4 : n ≤ 4) : ∀ len, len < 11 → bk_C n (4 * len) (fun x => x) = n * len :=
  bk_n (P := fun n => ∀ len, len < 11 → bk_C n (4 * len) (fun x => x) = n * len) h2 h4 (by decide +kernel) (by decide +kernel) (by decide +kernel)
theorem bk_K0 {n : Nat} (h2 : 2 ≤ n) (h4 : n ≤ 4) : ∀ e, e < 2 * n → ∀ f, f < 2 * n → (bk_E n 0 e = bk_E n 0 f ↔ bk_R (bk_M0 n) e = bk_R (bk_M0 n) f) :=
  bk_n (P := fun n => ∀ e, e < 2 * n → ∀ f, f < 2 * n → (bk_E n 0 e = bk_E n 0 f ↔ bk_R (bk_M0 n) e = bk_R (bk_M0 n) f)) h2 h4 (by decide +kernel) (by decide +kernel) (by decide +kernel)
theorem bk_Hk {n len : Nat} {sz : Nat → Nat} {bt : Nat → Bool} (h2 : 2 ≤ n) (h4 : n ≤ 4) (hl : len < 11) (hs : ∀ k, k < len → 1 ≤ sz k ∧ sz k < n) : ∀ k, k < len → bk_H n len k (bk_rt n len sz bt k) (bk_fa n sz bt k) := by
  intro k
  induction k with
  | zero =>
    intro _
    refine ⟨fun x => ⟨Nat.le_refl x, rfl⟩, fun x hx => hx, fun x _ => rfl, fun e he f hf => bk_K0 h2 h4 e he f hf, ?_⟩
    show bk_C n (4 * len) (fun x => x) + n * 0 = n * len + 0
    have h0 := bk_C0 h2 h4 len hl
    omega
  | succ k ih =>
    intro hk
    have h0 := ih (by omega)
    obtain ⟨s1, s2⟩ := hs k (by omega)
    have hM := (bk_fat (bt := bt) h2 h4 hs k (by omega)).1
    have eb : bk_be len k = 4 * k + 4 := if_neg (by omega)
    have e0 : bk_rt n len sz bt (k + 1) = bk_fl (4 * k) (bk_be len k) (sz k) (bt k) (bk_rt n len sz bt k) n := rfl
    have e1 : bk_fa n sz bt (k + 1) = if bt k then bk_cs2 (bk_fa n sz bt k).2 (bk_sa n (bk_fa n sz bt k).1 (sz k)) else bk_fa n sz bt k := rfl
    rw [e0, e1, eb]
    cases hb : bt k with
    | false => exact bk_midO h2 h4 hk s1 s2 h0
    | true => exact bk_midS h2 h4 hk s1 s2 hM h0
theorem bk_main {n len : Nat} {sz : Nat → Nat} {bt : Nat → Bool} (h2 : 2 ≤ n) (h4 : n ≤ 4) (hl : len < 11) (hs : ∀ k, k < len → 1 ≤ sz k ∧ sz k < n) : bk_cnt n len sz bt = bk_F n len sz bt := by
  cases len with
  | zero => exact (bk_tz0 h2 h4).symm
  | succ k =>
    show (if k + 1 = 0 then n else bk_C n (4 * (k + 1)) (bk_rt n (k + 1) sz bt (k + 1))) = _
    rw [if_neg (by omega)]
    obtain ⟨hU, hV, _, hK, hC⟩ := bk_Hk (bt := bt) h2 h4 hl hs k (by omega)
    obtain ⟨s1, s2⟩ := hs k (by omega)
    have hM := (bk_fat (bt := bt) h2 h4 hs k (by omega)).1
    have B0 : bk_B n (4 * (k + 1)) (bk_C n (4 * (k + 1)) (bk_rt n (k + 1) sz bt k)) (bk_E n k) (bk_rt n (k + 1) sz bt k) (bk_R (bk_fa n sz bt k).1, 0) 0 := ⟨hU, hV, hK, rfl⟩
    have hL := bk_last (shut := bt k) h4 (by omega) s1 s2 B0 n (Nat.le_refl n)
    have e0 : bk_rt n (k + 1) sz bt (k + 1) = bk_fl (4 * k) 0 (sz k) (bt k) (bk_rt n (k + 1) sz bt k) n := by
      show bk_fl (4 * k) (bk_be (k + 1) k) (sz k) (bt k) (bk_rt n (k + 1) sz bt k) n = _
      rw [show bk_be (k + 1) k = 0 from if_pos rfl]
    rw [e0]
    have hc := hL.2.2.2
    have e1 : bk_F n (k + 1) sz bt = (bk_cz n (if bt k then bk_cs2 (bk_fa n sz bt k).2 (bk_sa n (bk_fa n sz bt k).1 (sz k)) else bk_fa n sz bt k) n).2 := rfl
    rw [e1]
    have hnd := bk_ndt h2 h4 (sz k) s2 s1
    have hms : n * (k + 1) = n * k + n := Nat.mul_succ n k
    cases hb : bt k with
    | false =>
      rw [hb, hnd.2, bk_lo h2 h4 _ hM _ s2 s1] at hc
      rw [if_neg (by decide)]
      have e2 := bk_czc n (bk_fa n sz bt k).1 (bk_fa n sz bt k).2 n
      have e3 : (bk_cz n (bk_fa n sz bt k) n).2 = (bk_fa n sz bt k).2 + (bk_cz n ((bk_fa n sz bt k).1, 0) n).2 := congrArg Prod.snd e2
      rw [e3]
      omega
    | true =>
      rw [hb, hnd.1, bk_lt h2 h4 _ hM _ s2 s1] at hc
      rw [if_pos rfl]
      have e2 := bk_czc n (bk_sa n (bk_fa n sz bt k).1 (sz k)).1 ((bk_fa n sz bt k).2 + (bk_sa n (bk_fa n sz bt k).1 (sz k)).2) n
      have e3 : (bk_cz n (bk_cs2 (bk_fa n sz bt k).2 (bk_sa n (bk_fa n sz bt k).1 (sz k))) n).2 = (bk_fa n sz bt k).2 + (bk_sa n (bk_fa n sz bt k).1 (sz k)).2 + (bk_cz n ((bk_sa n (bk_fa n sz bt k).1 (sz k)).1, 0) n).2 := congrArg Prod.snd e2
      rw [e3]
      omega
end
section
def bk_tb : List (List Int) := [[1], [-1, -1], [1, 2, 1], [-1, -3, -3, -1], [1, 4, 6, 4, 1], [-1, -5, -10, -10, -5, -1], [1, 6, 15, 20, 15, 6, 1], [-1, -7, -21, -35, -35, -21, -7, -1], [1, 8, 28, 56, 70, 56, 28, 8, 1], [-1, -9, -36, -84, -126, -126, -84, -36, -9, -1], [1, 10, 45, 120, 210, 252, 210, 120, 45, 10, 1], [-1, -11, -55, -165, -330, -462, -462, -330, -165, -55, -11, -1], [1, 12, 66, 220, 495, 792, 924, 792, 495, 220, 66, 12, 1], [-1, -13, -78, -286, -715, -1287, -1716, -1716, -1287, -715, -286, -78, -13, -1]]
def bk_tm (m j : Nat) : Int := (bk_tb.getD m []).getD j 0
theorem bk_tm0 : ∀ m, m < 14 → Int32.ofInt (bk_tm m 0) = if m % 2 = 0 then 1 else -1 := by decide +kernel
theorem bk_tms : ∀ m, m < 14 → ∀ j, j < m + 1 → Int32.ofInt (bk_tm m j) * (nI m - nI j) / nI (j + 1) = Int32.ofInt (bk_tm m (j + 1)) := by decide +kernel
theorem bk_tmb : ∀ m, m < 14 → ∀ j, j < 14 → -1716 ≤ bk_tm m j ∧ bk_tm m j ≤ 1716 := by decide +kernel
def bk_su (m : Nat) : Nat → Int
  | 0 => 0
  | j + 1 => bk_su m j + bk_tm m j
theorem bk_su3 : ∀ m, m < 14 → bk_su m (m + 1) % 3 = 1 := by decide +kernel
def bk_at (f : Nat → Int) (K m : Nat) : Nat → (Nat → Int)
  | 0 => f
  | j + 1 => fun x => if x = K - 4 * j then bk_at f K m j x + bk_tm m j else bk_at f K m j x
def bk_Bi (K m : Nat → Nat) : Nat → (Nat → Int)
  | 0 => fun _ => 0
  | s + 1 => bk_at (bk_Bi K m s) (K s) (m s) (m s + 1)
theorem bk_atb {f : Nat → Int} {K m : Nat} {b : Int} (hm : m < 14) (x : Nat) (h1 : -b ≤ f x) (h2 : f x ≤ b) : ∀ j : Nat, j ≤ 14 → -(b + 1716 * (j : Int)) ≤ bk_at f K m j x ∧ bk_at f K m j x ≤ b + 1716 * (j : Int) := by
  intro j
  induction j with
  | zero =>
    intro _
    show -(b + 1716 * ((0 : Nat) : Int)) ≤ f x ∧ f x ≤ b + 1716 * ((0 : Nat) : Int)
    omega
  | succ j ih =>
    intro hj
    have h := ih (by omega)
    have t := bk_tmb m hm j (by omega)
    show -(b + 1716 * ((j + 1 : Nat) : Int)) ≤ (if x = K - 4 * j then bk_at f K m j x + bk_tm m j else bk_at f K m j x) ∧ (if x = K - 4 * j then bk_at f K m j x + bk_tm m j else bk_at f K m j x) ≤ b + 1716 * ((j + 1 : Nat) : Int)
    by_cases c : x = K - 4 * j
    · rw [if_pos c]
      omega
    · rw [if_neg c]
      omega
theorem bk_Bib {K m : Nat → Nat} {S : Nat} (hm : ∀ s, s < S → m s < 14) (x : Nat) : ∀ s : Nat, s ≤ S → -(24024 * (s : Int)) ≤ bk_Bi K m s x ∧ bk_Bi K m s x ≤ 24024 * (s : Int) := by
  intro s
  induction s with
  | zero =>
    intro _
    show -(24024 * ((0 : Nat) : Int)) ≤ 0 ∧ 0 ≤ 24024 * ((0 : Nat) : Int)
    omega
  | succ s ih =>
    intro hs
    have h := ih (by omega)
    have hm' := hm s (by omega)
    have t := bk_atb (f := bk_Bi K m s) (K := K s) (m := m s) (b := 24024 * (s : Int)) hm' x (by omega) (by omega) (m s + 1) (by omega)
    show -(24024 * ((s + 1 : Nat) : Int)) ≤ bk_at (bk_Bi K m s) (K s) (m s) (m s + 1) x ∧ bk_at (bk_Bi K m s) (K s) (m s) (m s + 1) x ≤ 24024 * ((s + 1 : Nat) : Int)
    omega
theorem bk_atz {f : Nat → Int} {K m x : Nat} (hx : f x = 0) (ho : x + 4 * m < K ∨ K < x) (hK : 4 * m ≤ K) : ∀ j, j ≤ m + 1 → bk_at f K m j x = 0 := by
  intro j
  induction j with
  | zero => exact fun _ => hx
  | succ j ih =>
    intro hj
    show (if x = K - 4 * j then bk_at f K m j x + bk_tm m j else bk_at f K m j x) = 0
    rw [if_neg (by omega)]
    exact ih (by omega)
theorem bk_Biz {K m : Nat → Nat} {S x : Nat} (hK : ∀ s, s < S → 24 + 4 * m s ≤ K s ∧ K s ≤ 96) (hx : x < 24 ∨ 96 < x) : ∀ s, s ≤ S → bk_Bi K m s x = 0 := by
  intro s
  induction s with
  | zero => exact fun _ => rfl
  | succ s ih =>
    intro hs
    have h := hK s (by omega)
    exact bk_atz (ih (by omega)) (by omega) (by omega) (m s + 1) (Nat.le_refl _)
def bk_sm (f : Nat → Int) : Nat → Int
  | 0 => 0
  | N + 1 => bk_sm f N + f N
theorem bk_smu {f : Nat → Int} {a : Nat} {t : Int} : ∀ N, bk_sm (fun x => if x = a then f x + t else f x) N = bk_sm f N + if a < N then t else 0 := by
  intro N
  induction N with
  | zero => rfl
  | succ N ih =>
    show bk_sm (fun x => if x = a then f x + t else f x) N + (if N = a then f N + t else f N) = bk_sm f N + f N + if a < N + 1 then t else 0
    rw [ih]
    by_cases e : N = a
    · rw [if_pos e, if_neg (by omega), if_pos (by omega)]
      omega
    · rw [if_neg e]
      by_cases c : a < N
      · rw [if_pos c, if_pos (by omega)]
        omega
      · rw [if_neg c, if_neg (by omega)]
        omega
theorem bk_sma {f : Nat → Int} {K m : Nat} (hK : K ≤ 96) : ∀ j, bk_sm (bk_at f K m j) 121 = bk_sm f 121 + bk_su m j := by
  intro j
  induction j with
  | zero =>
    show bk_sm f 121 = bk_sm f 121 + 0
    omega
  | succ j ih =>
    have h := bk_smu (f := bk_at f K m j) (a := K - 4 * j) (t := bk_tm m j) 121
    rw [if_pos (by omega), ih] at h
    show bk_sm (fun x => if x = K - 4 * j then bk_at f K m j x + bk_tm m j else bk_at f K m j x) 121 = bk_sm f 121 + (bk_su m j + bk_tm m j)
    rw [h]
    omega
theorem bk_sm0 : ∀ N, bk_sm (fun _ => 0) N = 0 := by
  intro N
  induction N with
  | zero => rfl
  | succ N ih =>
    show bk_sm (fun _ => 0) N + 0 = 0
    rw [ih]
    rfl
theorem bk_smz {f : Nat → Int} : ∀ N, (∀ x, x < N → f x = 0) → bk_sm f N = 0 := by
  intro N
  induction N with
  | zero => exact fun _ => rfl
  | succ N ih =>
    intro h
    show bk_sm f N + f N = 0
    rw [ih (fun x hx => h x (by omega)), h N (by omega)]
    rfl
theorem bk_Bi3 {K m : Nat → Nat} {S : Nat} (hm : ∀ s, s < S → m s < 14) (hK : ∀ s, s < S → K s ≤ 96) : ∀ s : Nat, s ≤ S → bk_sm (bk_Bi K m s) 121 % 3 = (s : Int) % 3 := by
  intro s
  induction s with
  | zero =>
    intro _
    show bk_sm (fun _ => 0) 121 % 3 = _
    rw [bk_sm0]
    rfl
  | succ s ih =>
    intro hs
    have h := ih (by omega)
    have h1 := bk_sma (f := bk_Bi K m s) (m := m s) (hK s (by omega)) (m s + 1)
    have h2 := bk_su3 (m s) (hm s (by omega))
    show bk_sm (bk_at (bk_Bi K m s) (K s) (m s) (m s + 1)) 121 % 3 = _
    rw [h1]
    omega
theorem bk_p3 : ∀ l, l < 11 → ((2 ^ l : Nat) : Int) % 3 ≠ 0 := by decide +kernel
theorem bk_p10 : ∀ l, l < 11 → 2 ^ l ≤ 1024 := by decide +kernel
theorem bk_Bin {K m : Nat → Nat} {l : Nat} (hl : l < 11) (hm : ∀ s, s < 2 ^ l → m s < 14) (hK : ∀ s, s < 2 ^ l → 24 + 4 * m s ≤ K s ∧ K s ≤ 96) : ∃ x, x < 121 ∧ bk_Bi K m (2 ^ l) x ≠ 0 := by
  by_cases h : ∃ x, x < 121 ∧ bk_Bi K m (2 ^ l) x ≠ 0
  · exact h
  · exfalso
    have h0 : ∀ x, x < 121 → bk_Bi K m (2 ^ l) x = 0 := by
      intro x hx
      by_cases e : bk_Bi K m (2 ^ l) x = 0
      · exact e
      · exact absurd ⟨x, hx, e⟩ h
    have h1 := bk_Bi3 hm (fun s hs => (hK s hs).2) (2 ^ l) (Nat.le_refl _)
    rw [bk_smz 121 h0] at h1
    exact bk_p3 l hl h1.symm
theorem bk_oi {z : Int} (h1 : -2147483648 ≤ z) (h2 : z < 2147483648) : Int32.ofInt z = 0 ↔ z = 0 := by
  constructor
  · intro h
    have h3 := congrArg Int32.toInt h
    rw [Int32.toInt_ofInt_of_le (by omega) (by omega), show (0 : Int32).toInt = 0 by decide] at h3
    exact h3
  · intro h
    rw [h]
    rfl
theorem bk_Bi0 {K m : Nat → Nat} {l : Nat} (hl : l < 11) (hm : ∀ s, s < 2 ^ l → m s < 14) (x : Nat) : Int32.ofInt (bk_Bi K m (2 ^ l) x) = 0 ↔ bk_Bi K m (2 ^ l) x = 0 := by
  have h := bk_Bib (K := K) hm x (2 ^ l) (Nat.le_refl _)
  have h2 := bk_p10 l hl
  generalize 2 ^ l = N at h h2 ⊢
  exact bk_oi (by omega) (by omega)
theorem bk_lohi (c : Nat → Int32) (h : ∃ x, x < 121 ∧ c x ≠ 0) (hz : ∀ x, x < 24 ∨ 96 < x → c x = 0) : ∃ lo hi, 24 ≤ lo ∧ lo ≤ hi ∧ hi ≤ 96 ∧ c lo ≠ 0 ∧ c hi ≠ 0 ∧ (∀ x, x < lo → c x = 0) ∧ (∀ x, hi < x → c x = 0) := by
  obtain ⟨x0, _, hx0⟩ := h
  have inr : ∀ x, c x ≠ 0 → 24 ≤ x ∧ x ≤ 96 := by
    intro x hx
    by_cases e : x < 24 ∨ 96 < x
    · exact absurd (hz x e) hx
    · omega
  obtain ⟨lo, l1, l2⟩ := pk_least (fun x => c x ≠ 0) ⟨x0, hx0⟩
  obtain ⟨t, t1, t2⟩ := pk_least (fun y => y ≤ 96 ∧ c (96 - y) ≠ 0) ⟨96 - x0, by omega, by
    have := inr x0 hx0
    rw [show 96 - (96 - x0) = x0 by omega]
    exact hx0⟩
  have a := inr lo l1
  have zlo : ∀ x, x < lo → c x = 0 := by
    intro x hx
    by_cases e : c x = 0
    · exact e
    · exact absurd e (l2 x hx)
  have zhi : ∀ x, 96 - t < x → c x = 0 := by
    intro x hx
    by_cases e : c x = 0
    · exact e
    · have b := inr x e
      refine absurd ⟨by omega, ?_⟩ (t2 (96 - x) (by omega))
      rw [show 96 - (96 - x) = x by omega]
      exact e
  refine ⟨lo, 96 - t, a.1, ?_, by omega, l1, t1.2, zlo, zhi⟩
  by_cases e : lo ≤ 96 - t
  · exact e
  · exact absurd (zhi lo (by omega)) l1
end
section
def bk_sw (i v : Nat) : Nat := if v = i then i - 1 else if v + 1 = i then i else v
def bk_en (sz : Nat → Nat) (p : Nat) : Nat → Nat
  | 0 => p
  | k + 1 => bk_sw (sz k) (bk_en sz p k)
def bk_P (n : Nat) : List (List Nat) :=
  if n = 2 then [[0, 1], [1, 0]]
  else if n = 3 then [[0, 1, 2], [0, 2, 1], [1, 0, 2], [1, 2, 0], [2, 0, 1], [2, 1, 0]]
  else [[0, 1, 2, 3], [0, 1, 3, 2], [0, 2, 1, 3], [0, 2, 3, 1], [0, 3, 1, 2], [0, 3, 2, 1], [1, 0, 2, 3], [1, 0, 3, 2], [1, 2, 0, 3], [1, 2, 3, 0], [1, 3, 0, 2], [1, 3, 2, 0], [2, 0, 1, 3], [2, 0, 3, 1], [2, 1, 0, 3], [2, 1, 3, 0], [2, 3, 0, 1], [2, 3, 1, 0], [3, 0, 1, 2], [3, 0, 2, 1], [3, 1, 0, 2], [3, 1, 2, 0], [3, 2, 0, 1], [3, 2, 1, 0]]
def bk_pl (n : Nat) (sz : Nat → Nat) (k : Nat) : List Nat := (List.range n).map (fun p => bk_en sz p k)
theorem bk_p0 {n : Nat} (h2 : 2 ≤ n) (h4 : n ≤ 4) : List.range n ∈ bk_P n :=
  bk_n (P := fun n => List.range n ∈ bk_P n) h2 h4 (by decide +kernel) (by decide +kernel) (by decide +kernel)
theorem bk_pc {n : Nat} (h2 : 2 ≤ n) (h4 : n ≤ 4) : ∀ f ∈ bk_P n, ∀ i, i < n → 1 ≤ i → f.map (bk_sw i) ∈ bk_P n :=
  bk_n (P := fun n => ∀ f ∈ bk_P n, ∀ i, i < n → 1 ≤ i → f.map (bk_sw i) ∈ bk_P n) h2 h4 (by decide +kernel) (by decide +kernel) (by decide +kernel)
theorem bk_ple {n : Nat} (h2 : 2 ≤ n) (h4 : n ≤ 4) : ∀ f ∈ bk_P n, f.length = n ∧ ∀ p, p < n → bk_g f p < n :=
  bk_n (P := fun n => ∀ f ∈ bk_P n, f.length = n ∧ ∀ p, p < n → bk_g f p < n) h2 h4 (by decide +kernel) (by decide +kernel) (by decide +kernel)
theorem bk_pin {n len : Nat} {sz : Nat → Nat} (h2 : 2 ≤ n) (h4 : n ≤ 4) (hs : ∀ k, k < len → 1 ≤ sz k ∧ sz k < n) : ∀ k, k ≤ len → bk_pl n sz k ∈ bk_P n := by
  intro k
  induction k with
  | zero =>
    intro _
    have e : bk_pl n sz 0 = List.range n := List.map_id' _
    rw [e]
    exact bk_p0 h2 h4
  | succ k ih =>
    intro hk
    obtain ⟨s1, s2⟩ := hs k (by omega)
    have e : bk_pl n sz (k + 1) = (bk_pl n sz k).map (bk_sw (sz k)) := by
      unfold bk_pl
      first
        | (rw [List.map_map]; rfl)
        | rw [List.map_map]
    rw [e]
    exact bk_pc h2 h4 _ (ih (by omega)) _ s2 s1
theorem bk_plg {n k p : Nat} {sz : Nat → Nat} (h : p < n) : bk_g (bk_pl n sz k) p = bk_en sz p k := by
  unfold bk_g bk_pl
  rw [List.getD_eq_getElem?_getD, List.getElem?_map, List.getElem?_range h]
  rfl
theorem bk_enl {n len : Nat} {sz : Nat → Nat} (h2 : 2 ≤ n) (h4 : n ≤ 4) (hs : ∀ k, k < len → 1 ≤ sz k ∧ sz k < n) {p : Nat} (hp : p < n) : ∀ k, k ≤ len → bk_en sz p k < n := by
  intro k hk
  rw [← bk_plg hp]
  exact (bk_ple h2 h4 _ (bk_pin h2 h4 hs k hk)).2 p hp
def bk_co1 (f : List Nat) (s : Nat × Nat) : Nat × Nat := (bk_g f s.1, min (bk_g f s.1) s.2)
def bk_co (f : List Nat) (p : Nat) : Nat → Nat × Nat
  | 0 => (p, p)
  | t + 1 => bk_co1 f (bk_co f p t)
def bk_g3 (p q low : Nat) (L : List Nat) : List Nat := (L.set p low).set q low
def bk_g2 (f : List Nat) (p : Nat) (L : List Nat) : List Nat := bk_g3 p (bk_g f p) (min (bk_g L p) (bk_g L (bk_g f p))) L
def bk_gi (f L : List Nat) : Nat → List Nat
  | 0 => L
  | p + 1 => bk_g2 f p (bk_gi f L p)
def bk_gr (n : Nat) (f : List Nat) : Nat → List Nat
  | 0 => List.range n
  | r + 1 => bk_gi f (bk_gr n f r) n
theorem bk_cog {n : Nat} (h2 : 2 ≤ n) (h4 : n ≤ 4) : ∀ f ∈ bk_P n, ∀ p, p < n → (bk_co f p n).2 = bk_g (bk_gr n f n) p ∧ (bk_co f p n).2 < n :=
  bk_n (P := fun n => ∀ f ∈ bk_P n, ∀ p, p < n → (bk_co f p n).2 = bk_g (bk_gr n f n) p ∧ (bk_co f p n).2 < n) h2 h4 (by decide +kernel) (by decide +kernel) (by decide +kernel)
theorem bk_con {n : Nat} {f : List Nat} (hf : ∀ p, p < n → bk_g f p < n) {p : Nat} (hp : p < n) : ∀ t, (bk_co f p t).1 < n ∧ (bk_co f p t).2 < n := by
  intro t
  induction t with
  | zero => exact ⟨hp, hp⟩
  | succ t ih =>
    have h := hf _ ih.1
    show bk_g f (bk_co f p t).1 < n ∧ min (bk_g f (bk_co f p t).1) (bk_co f p t).2 < n
    omega
theorem bk_st {L : List Nat} {x v : Nat} (h : x < L.length) (e : Nat) : bk_g (L.set x v) e = if e = x then v else bk_g L e := by
  unfold bk_g
  rw [List.getD_eq_getElem?_getD, List.getD_eq_getElem?_getD, List.getElem?_set]
  by_cases c : x = e
  · rw [if_pos c, if_pos c.symm, if_pos h]
    rfl
  · rw [if_neg c, if_neg (fun q => c q.symm)]
theorem bk_gr0 {n p : Nat} (h : p < n) : bk_g (List.range n) p = p := by
  unfold bk_g
  rw [List.getD_eq_getElem?_getD, List.getElem?_range h]
  rfl
theorem bk_g2l {n : Nat} {f L : List Nat} {p : Nat} (hf : ∀ p, p < n → bk_g f p < n) (hl : L.length = n) (hb : ∀ e, e < n → bk_g L e < n) (hp : p < n) : (bk_g2 f p L).length = n ∧ ∀ e, e < n → bk_g (bk_g2 f p L) e < n := by
  have h1 := hf p hp
  have h2 := hb p hp
  have h3 := hb _ h1
  constructor
  · show ((L.set _ _).set _ _).length = n
    rw [List.length_set, List.length_set, hl]
  · intro e he
    show bk_g ((L.set p _).set (bk_g f p) _) e < n
    rw [bk_st (by rw [List.length_set, hl]; exact h1), bk_st (by rw [hl]; exact hp)]
    have h4 := hb e he
    split
    · omega
    · split <;> omega
theorem bk_gil {n : Nat} {f L : List Nat} (hf : ∀ p, p < n → bk_g f p < n) (hl : L.length = n) (hb : ∀ e, e < n → bk_g L e < n) : ∀ p, p ≤ n → (bk_gi f L p).length = n ∧ ∀ e, e < n → bk_g (bk_gi f L p) e < n := by
  intro p
  induction p with
  | zero => exact fun _ => ⟨hl, hb⟩
  | succ p ih =>
    intro hp
    obtain ⟨a, b⟩ := ih (by omega)
    exact bk_g2l hf a b (by omega)
theorem bk_grl {n : Nat} {f : List Nat} (hf : ∀ p, p < n → bk_g f p < n) : ∀ r, (bk_gr n f r).length = n ∧ ∀ e, e < n → bk_g (bk_gr n f r) e < n := by
  intro r
  induction r with
  | zero => exact ⟨List.length_range, fun e he => by rw [show bk_gr n f 0 = List.range n from rfl, bk_gr0 he]; exact he⟩
  | succ r ih => exact bk_gil hf ih.1 ih.2 n (Nat.le_refl n)
end
section
def bk_L (n : Nat) (x : Int32) : Prop := ∃ s : Nat, 1 ≤ s ∧ s < n ∧ (x = nI s ∨ x = -nI s)
def bk_z (w : Nat → Int32) (k : Nat) : Nat := if 0 < w k then (w k).toNatClampNeg else (-(w k)).toNatClampNeg
def bk_s (w : Nat → Int32) (k : Nat) : Int32 := if 0 < w k then 1 else -1
theorem bk_i0 : (0 : Int32).toInt = 0 := by decide
theorem bk_nneg {s : Nat} (h1 : 1 ≤ s) (h : s < 2 ^ 31) : -nI s < 0 := by
  rw [Int32.lt_iff_toInt_lt, sb_negT h, bk_i0]
  omega
theorem bk_npos {s : Nat} (h1 : 1 ≤ s) (h : s < 2 ^ 31) : 0 < nI s := by
  rw [Int32.lt_iff_toInt_lt, nI_toInt h, bk_i0]
  omega
theorem bk_nle {x : Int32} (h : x < 0) : ¬ 0 ≤ x ∧ x ≤ 0 ∧ ¬ 0 < x := by
  rw [Int32.lt_iff_toInt_lt, bk_i0] at h
  rw [Int32.le_iff_toInt_le, Int32.le_iff_toInt_le, Int32.lt_iff_toInt_lt, bk_i0]
  omega
theorem bk_ple0 {x : Int32} (h : 0 < x) : 0 ≤ x ∧ ¬ x ≤ 0 ∧ ¬ x < 0 := by
  rw [Int32.lt_iff_toInt_lt, bk_i0] at h
  rw [Int32.le_iff_toInt_le, Int32.le_iff_toInt_le, Int32.lt_iff_toInt_lt, bk_i0]
  omega
theorem bk_zv {n : Nat} {w : Nat → Int32} {k : Nat} (hn : n ≤ 4) (h : bk_L n (w k)) : 1 ≤ bk_z w k ∧ bk_z w k < n ∧ ((0 < w k ∧ ¬ w k < 0 ∧ ¬ w k ≤ 0 ∧ 0 ≤ w k ∧ w k = nI (bk_z w k) ∧ bk_s w k = 1) ∨ (¬ 0 < w k ∧ w k < 0 ∧ w k ≤ 0 ∧ ¬ 0 ≤ w k ∧ -(w k) = nI (bk_z w k) ∧ bk_s w k = -1)) := by
  obtain ⟨s, s1, s2, e | e⟩ := h
  · have h0 : 0 < w k := by
      rw [e]
      exact bk_npos s1 (by omega)
    have ez : bk_z w k = s := by
      unfold bk_z
      rw [if_pos h0, e]
      exact nI_clamp (by omega)
    obtain ⟨a, b, c⟩ := bk_ple0 h0
    rw [ez]
    exact ⟨s1, s2, Or.inl ⟨h0, c, b, a, e, if_pos h0⟩⟩
  · have h0 : w k < 0 := by
      rw [e]
      exact bk_nneg s1 (by omega)
    obtain ⟨a, b, c⟩ := bk_nle h0
    have e2 : -(w k) = nI s := by
      rw [e, Int32.neg_neg]
    have ez : bk_z w k = s := by
      unfold bk_z
      rw [if_neg c, e2]
      exact nI_clamp (by omega)
    rw [ez]
    exact ⟨s1, s2, Or.inr ⟨c, h0, b, a, e2, if_neg c⟩⟩
theorem bk_Lneg {n : Nat} {x : Int32} (h : bk_L n x) : bk_L n (-x) := by
  obtain ⟨s, s1, s2, e | e⟩ := h
  · exact ⟨s, s1, s2, Or.inr (by rw [e])⟩
  · exact ⟨s, s1, s2, Or.inl (by rw [e, Int32.neg_neg])⟩
theorem bk_Lof {n : Nat} {x : Int32} (h4 : n ≤ 4) (h0 : ¬ x = 0) (h1 : x < nI n) (h2 : -nI n < x) : bk_L n x := by
  rw [Int32.lt_iff_toInt_lt, nI_toInt (by omega)] at h1
  rw [Int32.lt_iff_toInt_lt, sb_negT (by omega)] at h2
  have h3 : x.toInt ≠ 0 := fun q => h0 (Int32.toInt_inj.mp (by rw [q, bk_i0]))
  by_cases c : 0 < x.toInt
  · refine ⟨x.toInt.toNat, by omega, by omega, Or.inl (Int32.toInt_inj.mp ?_)⟩
    rw [nI_toInt (by omega)]
    omega
  · refine ⟨(-x.toInt).toNat, by omega, by omega, Or.inr (Int32.toInt_inj.mp ?_)⟩
    rw [sb_negT (by omega)]
    omega
theorem bk_Lin {n : Nat} {x : Int32} (h4 : n ≤ 4) (h : bk_L n x) : ¬ x = 0 ∧ x < nI n ∧ ¬ nI n ≤ x ∧ -nI n < x ∧ ¬ x ≤ -nI n ∧ ¬ x = -1002 := by
  have hm : (-1002 : Int32).toInt = -1002 := by decide
  have key : ∀ t : Int, x.toInt = t → -(n : Int) < t → t < (n : Int) → t ≠ 0 → ¬ x = 0 ∧ x < nI n ∧ ¬ nI n ≤ x ∧ -nI n < x ∧ ¬ x ≤ -nI n ∧ ¬ x = -1002 := by
    intro t ht a b c
    refine ⟨fun q => c (by rw [← ht, q, bk_i0]), ?_, ?_, ?_, ?_, fun q => by rw [q, hm] at ht; omega⟩
    · rw [Int32.lt_iff_toInt_lt, nI_toInt (by omega), ht]; exact b
    · rw [Int32.le_iff_toInt_le, nI_toInt (by omega), ht]; omega
    · rw [Int32.lt_iff_toInt_lt, sb_negT (by omega), ht]; exact a
    · rw [Int32.le_iff_toInt_le, sb_negT (by omega), ht]; omega
  obtain ⟨s, s1, s2, e | e⟩ := h
  · exact key s (by rw [e, nI_toInt (by omega)]) (by omega) (by omega) (by omega)
  · exact key (-(s : Int)) (by rw [e, sb_negT (by omega)]) (by omega) (by omega) (by omega)
def bk_W (n len : Nat) (w : Nat → Int32) : Prop := 2 ≤ n ∧ n ≤ 4 ∧ len ≤ 10 ∧ ∀ k, k < len → bk_L n (w k)
def bk_bt (v : Int32) (k : Nat) : Bool := decide ((v >>> (nI k &&& 31)) &&& 1 = 1)
def bk_Fs (n : Nat) (w : Nat → Int32) (len : Nat) (v : Int32) : Nat := bk_F n len (bk_z w) (bk_bt v)
def bk_up (w : Nat → Int32) (v : Int32) (k : Nat) : Bool := if bk_bt v k then decide (¬ 0 < w k) else decide (0 < w k)
def bk_eu (w : Nat → Int32) (v : Int32) : Nat → Nat
  | 0 => 0
  | k + 1 => bk_eu w v k + if bk_up w v k then 1 else 0
theorem bk_eul (w : Nat → Int32) (v : Int32) : ∀ k, bk_eu w v k ≤ k := by
  intro k
  induction k with
  | zero => exact Nat.le_refl 0
  | succ k ih =>
    show bk_eu w v k + (if bk_up w v k then 1 else 0) ≤ k + 1
    split <;> omega
theorem bk_e1 (u k : Nat) : nI (2 * u) - nI k + 1 = nI (2 * (u + 1)) - nI (k + 1) := by
  rw [show 2 * (u + 1) = 2 * u + 1 + 1 by omega, ← nI_1, ← nI_1, ← nI_1]
  grind
theorem bk_e2 (u k : Nat) : nI (2 * u) - nI k + (-1) = nI (2 * u) - nI (k + 1) := by
  rw [← nI_1]
  grind
theorem bk_e3 (u k : Nat) : nI (2 * u) - nI k - (-1) = nI (2 * (u + 1)) - nI (k + 1) := by
  rw [show 2 * (u + 1) = 2 * u + 1 + 1 by omega, ← nI_1, ← nI_1, ← nI_1]
  grind
theorem bk_e4 (u k : Nat) : nI (2 * u) - nI k - 1 = nI (2 * u) - nI (k + 1) := by
  rw [← nI_1]
  grind
def bk_mm (n : Nat) (w : Nat → Int32) (len s : Nat) : Nat := bk_Fs n w len (nI s) - 1
def bk_KK (n : Nat) (w : Nat → Int32) (len s : Nat) : Nat := 60 + 2 * bk_eu w (nI s) len + 2 * bk_mm n w len s - len
def bk_bi (n : Nat) (w : Nat → Int32) (len s x : Nat) : Int := bk_Bi (bk_KK n w len) (bk_mm n w len) s x
def bk_cf (n : Nat) (w : Nat → Int32) (len x : Nat) : Int32 := Int32.ofInt (bk_bi n w len (2 ^ len) x)
def bk_mn (n : Nat) (w : Nat → Int32) (len l : Nat) : Nat → Nat
  | 0 => 0
  | s + 1 => bk_mn n w len l s + if bk_Fs n w len (nI s) = l then 1 else 0
theorem bk_mnl (n : Nat) (w : Nat → Int32) (len l : Nat) : ∀ s, bk_mn n w len l s ≤ s := by
  intro s
  induction s with
  | zero => exact Nat.le_refl 0
  | succ s ih =>
    show bk_mn n w len l s + (if bk_Fs n w len (nI s) = l then 1 else 0) ≤ s + 1
    split <;> omega
theorem bk_Wz {n len : Nat} {w : Nat → Int32} (h : bk_W n len w) : ∀ k, k < len → 1 ≤ bk_z w k ∧ bk_z w k < n := fun k hk =>
  have a := bk_zv h.2.1 (h.2.2.2 k hk)
  ⟨a.1, a.2.1⟩
theorem bk_FsR {n len : Nat} {w : Nat → Int32} (h : bk_W n len w) (v : Int32) : 1 ≤ bk_Fs n w len v ∧ bk_Fs n w len v ≤ 14 := by
  have a := bk_Fr (bt := bk_bt v) h.1 h.2.1 (bk_Wz h)
  have b := h.2.1
  have c := h.2.2.1
  unfold bk_Fs
  omega
theorem bk_mmR {n len : Nat} {w : Nat → Int32} (h : bk_W n len w) (s : Nat) : bk_mm n w len s < 14 := by
  have a := bk_FsR h (nI s)
  unfold bk_mm
  omega
theorem bk_KKR {n len : Nat} {w : Nat → Int32} (h : bk_W n len w) (s : Nat) : 24 + 4 * bk_mm n w len s ≤ bk_KK n w len s ∧ bk_KK n w len s ≤ 96 := by
  have a := bk_mmR h s
  have b := bk_eul w (nI s) len
  have c := h.2.2.1
  unfold bk_KK
  omega
theorem bk_cfz {n len : Nat} {w : Nat → Int32} (h : bk_W n len w) {x : Nat} (hx : x < 24 ∨ 96 < x) : bk_cf n w len x = 0 := by
  unfold bk_cf bk_bi
  rw [bk_Biz (S := 2 ^ len) (fun s _ => bk_KKR h s) hx (2 ^ len) (Nat.le_refl _)]
  rfl
theorem bk_cfn {n len : Nat} {w : Nat → Int32} (h : bk_W n len w) : ∃ x, x < 121 ∧ bk_cf n w len x ≠ 0 := by
  have hl : len < 11 := by
    have := h.2.2.1
    omega
  obtain ⟨x, hx, e⟩ := bk_Bin (K := bk_KK n w len) (m := bk_mm n w len) hl (fun s _ => bk_mmR h s) (fun s _ => bk_KKR h s)
  exact ⟨x, hx, fun q => e ((bk_Bi0 hl (fun s _ => bk_mmR h s) x).mp q)⟩
theorem bk_cflh {n len : Nat} {w : Nat → Int32} (h : bk_W n len w) : ∃ lo hi, 24 ≤ lo ∧ lo ≤ hi ∧ hi ≤ 96 ∧ bk_cf n w len lo ≠ 0 ∧ bk_cf n w len hi ≠ 0 ∧ (∀ x, x < lo → bk_cf n w len x = 0) ∧ (∀ x, hi < x → bk_cf n w len x = 0) :=
  bk_lohi (bk_cf n w len) (bk_cfn h) (fun _ hx => bk_cfz h hx)
theorem bk_pw : ∀ l, l < 11 → (1 : Int32) <<< (nI l &&& 31) = nI (2 ^ l) := by decide +kernel
end
section
def bk_rp (N : Nat) (a : Nat → Int32) (M : List Nat) : Prop := ∀ e, e < N → a e = nI (bk_g M e)
theorem bk_rps {N : Nat} {a : Nat → Int32} {M : List Nat} {x v : Nat} (h : bk_rp N a M) (hx : x < M.length) : bk_rp N (upd a x (nI v)) (M.set x v) := by
  intro e he
  rw [bk_st hx]
  unfold upd
  by_cases c : e = x
  · rw [if_pos c, if_pos c]
  · rw [if_neg c, if_neg c]
    exact h e he
theorem bk_jel (M : List Nat) (a b : Nat) : (bk_je M a b).1.length = M.length := by
  unfold bk_je
  split
  · rfl
  · show ((M.set _ _).set _ _).length = _
    rw [List.length_set, List.length_set]
theorem bk_M0g {n : Nat} (h2 : 2 ≤ n) (h4 : n ≤ 4) : ∀ e, e < 2 * n → bk_g (bk_M0 n) e = if e < n then n + e else e - n :=
  bk_n (P := fun n => ∀ e, e < 2 * n → bk_g (bk_M0 n) e = if e < n then n + e else e - n) h2 h4 (by decide +kernel) (by decide +kernel) (by decide +kernel)
theorem bk_Fe (n len : Nat) (sz : Nat → Nat) (bt : Nat → Bool) : bk_F n len sz bt = (bk_fa n sz bt len).2 + (bk_cz n ((bk_fa n sz bt len).1, 0) n).2 :=
  congrArg Prod.snd (bk_czc n (bk_fa n sz bt len).1 (bk_fa n sz bt len).2 n)
section
variable {n len : Nat} {w pa co ow ch cl : Nat → Int32}
theorem xk_sign (hW : bk_W n len w) {k : Nat} (hk : k < len) (post : Int32 → Prop) (h : post (bk_s w k)) : wpX_signOf post (nI n, nI len, w, pa, co, ow, ch, cl) (nI k) := by
  have hz := bk_zv hW.2.1 (hW.2.2.2 k hk)
  have hl := hW.2.2.1
  unfold wpX_signOf
  dsimp only
  rw [nI_clamp (show k < 2 ^ 31 by omega)]
  refine ⟨vp_in_nI (by omega) (by omega), ?_⟩
  rcases hz.2.2 with ⟨a1, a2, a3, a4, a5, a6⟩ | ⟨a1, a2, a3, a4, a5, a6⟩
  · rw [a6] at h
    exact br_f a3 h
  · rw [a6] at h
    exact br_t a3 h
theorem xk_right (hW : bk_W n len w) {k : Nat} (hk : k < len) (post : Int32 → Prop) (h : post (nI (bk_z w k))) : wpX_rightOf post (nI n, nI len, w, pa, co, ow, ch, cl) (nI k) := by
  have hz := bk_zv hW.2.1 (hW.2.2.2 k hk)
  have hl := hW.2.2.1
  unfold wpX_rightOf
  dsimp only
  rw [nI_clamp (show k < 2 ^ 31 by omega)]
  refine ⟨vp_in_nI (by omega) (by omega), ?_⟩
  rcases hz.2.2 with ⟨a1, a2, a3, a4, a5, a6⟩ | ⟨a1, a2, a3, a4, a5, a6⟩
  · rw [← a5] at h
    exact br_f a3 ⟨vp_in_nI (by omega) (by omega), h⟩
  · rw [← a5] at h
    exact br_t a3 ⟨vp_in_nI (by omega) (by omega), h⟩
theorem xk_isShut {v : Int32} {k : Nat} (post : Int32 → Prop) (h1 : bk_bt v k = true → post 1) (h0 : bk_bt v k = false → post 0) : wpX_isShut post (nI n, nI len, w, pa, co, ow, ch, cl) v (nI k) :=
  br_c (fun h => h1 (decide_eq_true h)) (fun h => h0 (decide_eq_false h))
theorem xk_sa2 (h2 : 2 ≤ n) (h4 : n ≤ 4) (post : SX → Prop) (h : ∀ pa', bk_rp (2 * n) pa' (bk_M0 n) → post (nI n, nI len, w, pa', co, ow, ch, cl)) : ∀ d p pa, p + d = n → (∀ q, q < p → pa q = nI (n + q) ∧ pa (n + q) = nI q) → wX_startArcs_2 post (nI n) (nI len) (d + 1) (nI p) w pa co ow ch cl := by
  intro d
  induction d with
  | zero =>
    intro p pa hp hi
    refine br_t (nI_le (by omega) (by omega)) (h pa ?_)
    intro e he
    rw [bk_M0g h2 h4 e he]
    by_cases c : e < n
    · rw [if_pos c]
      exact (hi e (by omega)).1
    · rw [if_neg c]
      have := (hi (e - n) (by omega)).2
      rw [show n + (e - n) = e by omega] at this
      exact this
  | succ d ih =>
    intro p pa hp hi
    refine br_f (nI_ge (by omega) (by omega)) ⟨vp_in_nI (by omega) (by omega), ?_⟩
    intro a3 e3
    rw [nI_clamp (by omega), nI_add] at e3
    refine ⟨by rw [nI_add]; exact vp_in_nI (by omega) (by omega), ?_⟩
    intro a5 e5
    rw [nI_add, nI_clamp (by omega)] at e5
    refine nm_r (nI_1 p) (ih (p + 1) a5 (by omega) ?_)
    subst e3
    subst e5
    intro q hq
    by_cases e : q = p
    · subst e
      exact ⟨by rw [pk_un (by omega), pk_us], pk_us⟩
    · have hq' := hi q (by omega)
      exact ⟨by rw [pk_un (by omega), pk_un (by omega)]; exact hq'.1, by rw [pk_un (by omega), pk_un (by omega)]; exact hq'.2⟩
theorem xk_start (h2 : 2 ≤ n) (h4 : n ≤ 4) (post : SX → Prop) (h : ∀ pa', bk_rp (2 * n) pa' (bk_M0 n) → post (nI n, nI len, w, pa', co, ow, ch, cl)) : wpX_startArcs post (nI n, nI len, w, pa, co, ow, ch, cl) :=
  ⟨n + 1, xk_sa2 h2 h4 post h n 0 pa (by omega) (fun q hq => absurd hq (by omega))⟩
theorem xk_join {M : List Nat} (h4 : n ≤ 4) (hl : M.length = 2 * n) (hM : ∀ e, e < 2 * n → bk_g M e < 2 * n) (hr : bk_rp (2 * n) pa M) {a b : Nat} (ha : a < 2 * n) (hb : b < 2 * n) (post : Int32 → SX → Prop) (h : ∀ pa', bk_rp (2 * n) pa' (bk_je M a b).1 → post (nI (bk_je M a b).2) (nI n, nI len, w, pa', co, ow, ch, cl)) : wpX_joinEnds post (nI n, nI len, w, pa, co, ow, ch, cl) (nI a) (nI b) := by
  have ga := hM a ha
  have gb := hM b hb
  unfold wpX_joinEnds
  dsimp only
  rw [nI_clamp (show a < 2 ^ 31 by omega), nI_clamp (show b < 2 ^ 31 by omega), hr a ha, hr b hb]
  refine ⟨vp_in_nI (by omega) (by omega), pk_eq (bk_g M a) b (fun e => ?_) (fun e => ?_) rfl rfl (by omega) (by omega)⟩
  · have hj : bk_je M a b = (M, 1) := if_pos e
    rw [hj] at h
    exact h pa hr
  · have hj : bk_je M a b = ((M.set (bk_g M a) (bk_g M b)).set (bk_g M b) (bk_g M a), 0) := if_neg e
    rw [hj] at h
    refine ⟨vp_in_nI (by omega) (by omega), nm_e ⟨vp_in_nI (by omega) (by omega), nm_e ⟨vp_in_nI (by omega) (by omega), ?_⟩⟩⟩
    intro a8 e8
    rw [nI_clamp (by omega)] at e8
    refine ⟨vp_in_nI (by omega) (by omega), ?_⟩
    intro a10 e10
    rw [nI_clamp (by omega)] at e10
    subst e8
    subst e10
    exact h _ (bk_rps (bk_rps hr (by omega)) (by rw [List.length_set]; omega))
theorem xk_shut {M : List Nat} (h4 : n ≤ 4) (hl : M.length = 2 * n) (hM : ∀ e, e < 2 * n → bk_g M e < 2 * n) (hr : bk_rp (2 * n) pa M) {i : Nat} (hi : 1 ≤ i) (hin : i < n) (post : Int32 → SX → Prop) (h : ∀ pa', bk_rp (2 * n) pa' (bk_sa n M i).1 → post (nI (bk_sa n M i).2) (nI n, nI len, w, pa', co, ow, ch, cl)) : wpX_shutAt post (nI n, nI len, w, pa, co, ow, ch, cl) (nI i) := by
  have e1 : nI n + nI i - 1 = nI (n + i - 1) := by
    rw [nI_add]
    exact pk_sub (a := n + i) (b := 1) (by omega)
  refine nm_r e1 (nm_r (nI_add n i) ?_)
  refine xk_join h4 hl hM hr (by omega) (by omega) _ (fun pa' hp => ?_)
  refine ⟨vp_in_nI (by omega) (by omega), ?_⟩
  intro a13 e13
  rw [nI_clamp (by omega)] at e13
  refine ⟨vp_in_nI (by omega) (by omega), ?_⟩
  intro a15 e15
  rw [nI_clamp (by omega)] at e15
  subst e13
  subst e15
  have hj := bk_jel M (n + i - 1) (n + i)
  exact h _ (bk_rps (bk_rps hp (by omega)) (by rw [List.length_set]; omega))
theorem xk_l49 {M : List Nat} (h2 : 2 ≤ n) (h4 : n ≤ 4) (hM : M ∈ bk_T n) {c : Nat} (post : Int32 → SX → Prop) (h : ∀ pa', post (nI (c + (bk_cz n (M, 0) n).2)) (nI n, nI len, w, pa', co, ow, ch, cl)) : ∀ d p pa, p + d = n → bk_rp (2 * n) pa (bk_cz n (M, 0) p).1 → wX_loops_49 post (d + 1) (nI (c + (bk_cz n (M, 0) p).2)) (nI p) (nI n) (nI len) w pa co ow ch cl := by
  intro d
  induction d with
  | zero =>
    intro p pa hp hr
    have e : p = n := by omega
    rw [e]
    exact br_t (nI_le (by omega) (by omega)) (h pa)
  | succ d ih =>
    intro p pa hp hr
    have hz := bk_tz h2 h4 M hM p (by omega)
    refine br_f (nI_ge (by omega) (by omega)) ?_
    rw [nI_add n p]
    refine xk_join h4 hz.1 hz.2 hr (by omega) (by omega) _ (fun pa' hp' => ?_)
    refine nm_r ?_ (nm_r (nI_1 p) (ih (p + 1) pa' (by omega) hp'))
    rw [nI_add, Nat.add_assoc]
    rfl
theorem xk_l8 (hW : bk_W n len w) (v : Int32) (post : Int32 → SX → Prop) (h : ∀ pa', post (nI (bk_Fs n w len v)) (nI n, nI len, w, pa', co, ow, ch, cl)) : ∀ d k pa, k + d = len → bk_rp (2 * n) pa (bk_fa n (bk_z w) (bk_bt v) k).1 → wX_loops_8 post v (d + 1) (nI (bk_fa n (bk_z w) (bk_bt v) k).2) (nI k) (nI n) (nI len) w pa co ow ch cl := by
  intro d
  have h2 := hW.1
  have h4 := hW.2.1
  have hl := hW.2.2.1
  induction d with
  | zero =>
    intro k pa hk hr
    have e : k = len := by omega
    subst e
    have hM := (bk_fat (bt := bk_bt v) h2 h4 (bk_Wz hW) k (by omega)).1
    refine br_t (nI_le (by omega) (by omega)) ⟨n + 1, xk_l49 h2 h4 hM post (fun pa' => ?_) n 0 pa (by omega) hr⟩
    rw [← bk_Fe]
    exact h pa'
  | succ d ih =>
    intro k pa hk hr
    have hM := (bk_fat (bt := bk_bt v) h2 h4 (bk_Wz hW) k (by omega)).1
    have hz := bk_Wz hW k (by omega)
    have ht := bk_tl h2 h4 _ hM
    have e1 : bk_fa n (bk_z w) (bk_bt v) (k + 1) = if bk_bt v k then bk_cs2 (bk_fa n (bk_z w) (bk_bt v) k).2 (bk_sa n (bk_fa n (bk_z w) (bk_bt v) k).1 (bk_z w k)) else bk_fa n (bk_z w) (bk_bt v) k := rfl
    refine br_f (nI_ge (by omega) (by omega)) (xk_isShut _ (fun hb => ?_) (fun hb => ?_))
    · refine br_f (by decide) (xk_right hW (by omega) _ ?_)
      rw [hb, if_pos rfl] at e1
      refine xk_shut h4 ht.1 ht.2 hr hz.1 hz.2 _ (fun pa' hp => ?_)
      have ih' := ih (k + 1) pa' (by omega) (by rw [e1]; exact hp)
      rw [e1] at ih'
      refine nm_r ?_ (nm_r (nI_1 k) ih')
      rw [nI_add]
      rfl
    · rw [hb, if_neg (by decide)] at e1
      have ih' := ih (k + 1) pa (by omega) (by rw [e1]; exact hr)
      rw [e1] at ih'
      exact br_t rfl (nm_r (nI_1 k) ih')
theorem xk_loops (hW : bk_W n len w) (v : Int32) (post : Int32 → SX → Prop) (h : ∀ pa', post (nI (bk_Fs n w len v)) (nI n, nI len, w, pa', co, ow, ch, cl)) : wpX_loops post (nI n, nI len, w, pa, co, ow, ch, cl) v :=
  xk_start hW.1 hW.2.1 _ (fun pa' hp => ⟨len + 1, xk_l8 hW v post h len 0 pa' (by omega) hp⟩)
end
end
section
def bk_b (b : Bool) : Int32 := if b then 1 else 0
def bk_J (j : Nat → Int32) (rt : Nat → Nat) : Prop := ∀ x, x < 40 → ∃ y, y ≤ x ∧ j x = nI y ∧ rt y = rt x ∧ (y = x → rt x = x)
theorem bk_pd {i : Nat} (h : 1 ≤ i) : nI i - 1 = nI (i - 1) := pk_sub (a := i) (b := 1) h
theorem bk_am (a : Nat) {i : Nat} (h : 1 ≤ i) : nI a + nI i - 1 = nI (a + i - 1) := by
  rw [nI_add]
  exact bk_pd (by omega)
theorem bk_flU {A B i : Nat} {shut : Bool} {rt : Nat → Nat} (h : bk_U rt) : ∀ p, bk_U (bk_fl A B i shut rt p) := by
  intro p
  induction p with
  | zero =>
    cases shut with
    | false => exact h
    | true => exact bk_mrU (bk_mrU h _ _) _ _
  | succ p ih =>
    show bk_U (if bk_sk shut i p then bk_fl A B i shut rt p else bk_mr (bk_fl A B i shut rt p) (A + p) (B + p))
    split
    · exact ih
    · exact bk_mrU ih _ _
theorem bk_rtU (n len : Nat) (sz : Nat → Nat) (bt : Nat → Bool) : ∀ k, bk_U (bk_rt n len sz bt k) := by
  intro k
  induction k with
  | zero => exact fun x => ⟨Nat.le_refl x, rfl⟩
  | succ k ih => exact bk_flU ih n
theorem bk_Ju0 {j : Nat → Int32} {rt : Nat → Nat} (hJ : bk_J j rt) (hU : bk_U rt) {x y : Nat} (hl : rt x ≤ rt y) : bk_J (upd j (rt y) (nI (rt x))) (bk_mr rt x y) := by
  rw [bk_mr_le hl]
  intro z hz
  dsimp only
  have ux := (hU x).2
  have uy := (hU y).2
  by_cases e : z = rt y
  · have v1 : (if rt (rt x) = rt y then rt x else rt (rt x)) = rt x := by
      rw [ux]
      split <;> rfl
    have v2 : (if rt z = rt y then rt x else rt z) = rt x := by
      rw [e, uy]
      exact if_pos rfl
    refine ⟨rt x, by omega, by rw [e]; exact pk_us, ?_, ?_⟩
    · rw [v1, v2]
    · intro q
      rw [v2]
      exact q
  · obtain ⟨t, t1, t2, t3, t4⟩ := hJ z hz
    refine ⟨t, t1, by rw [pk_un e]; exact t2, by rw [t3], fun q => ?_⟩
    have t5 := t4 q
    rw [if_neg (by omega)]
    exact t5
section
variable {n len : Nat} {kn : Int32} {w j mn cf cy cm : Nat → Int32} {rt : Nat → Nat}
theorem yk_size (hW : bk_W n len w) {k : Nat} (hk : k < len) (post : Int32 → Prop) (h : post (nI (bk_z w k))) : wpY_size post (nI n, nI len, kn, w, j, mn, cf, cy, cm) (w k) := by
  have hz := bk_zv hW.2.1 (hW.2.2.2 k hk)
  rcases hz.2.2 with ⟨a1, a2, a3, a4, a5, a6⟩ | ⟨a1, a2, a3, a4, a5, a6⟩
  · rw [← a5] at h
    exact br_t a4 h
  · rw [← a5] at h
    exact br_f a4 h
theorem yk_sign (hW : bk_W n len w) {k : Nat} (hk : k < len) (post : Int32 → Prop) (h : post (bk_s w k)) : wpY_sign post (nI n, nI len, kn, w, j, mn, cf, cy, cm) (w k) := by
  have hz := bk_zv hW.2.1 (hW.2.2.2 k hk)
  rcases hz.2.2 with ⟨a1, a2, a3, a4, a5, a6⟩ | ⟨a1, a2, a3, a4, a5, a6⟩
  · rw [a6] at h
    exact br_t a4 h
  · rw [a6] at h
    exact br_f a4 h
theorem yk_l2 (hJ : bk_J j rt) {r : Nat} (post : Int32 → Prop) (h : post (nI r)) : ∀ N x, x < N → x < 40 → rt x = r → wY_least_2 post (nI n) (nI len) kn w j mn cf cy cm N (nI x) := by
  intro N
  induction N with
  | zero => intro x hx; omega
  | succ N ih =>
    intro x hx hx4 hr
    obtain ⟨y, y1, y2, y3, y4⟩ := hJ x hx4
    refine ⟨vp_in_nI (by omega) (by omega), ?_⟩
    rw [nI_clamp (show x < 2 ^ 31 by omega), y2]
    refine pk_eq y x (fun e => ?_) (fun e => ⟨vp_in_nI (by omega) (by omega), nm_e (ih y (by omega) (by omega) (by rw [y3]; exact hr))⟩) rfl rfl (by omega) (by omega)
    have := y4 e
    rw [← hr, this] at h
    exact h
theorem yk_least (hJ : bk_J j rt) {x : Nat} (hx : x < 40) (post : Int32 → Prop) (h : post (nI (rt x))) : wpY_least post (nI n, nI len, kn, w, j, mn, cf, cy, cm) (nI x) :=
  ⟨x + 1, yk_l2 hJ post h (x + 1) x (by omega) hx rfl⟩
theorem yk_join (hJ : bk_J j rt) (hU : bk_U rt) {x y : Nat} (hx : x < 40) (hy : y < 40) (post : SY → Prop) (h : ∀ j', bk_J j' (bk_mr rt x y) → post (nI n, nI len, kn, w, j', mn, cf, cy, cm)) : wpY_join post (nI n, nI len, kn, w, j, mn, cf, cy, cm) (nI x) (nI y) := by
  have ux := (hU x).1
  have uy := (hU y).1
  refine yk_least hJ hx _ (yk_least hJ hy _ ?_)
  refine pk_le (rt y) (rt x) (fun c => ⟨vp_in_nI (by omega) (by omega), ?_⟩) (fun c => ⟨vp_in_nI (by omega) (by omega), ?_⟩) rfl rfl (by omega) (by omega)
  · intro a ea
    rw [nI_clamp (by omega)] at ea
    subst ea
    refine h _ ?_
    rw [bk_mr_cm]
    exact bk_Ju0 hJ hU c
  · intro a ea
    rw [nI_clamp (by omega)] at ea
    subst ea
    exact h _ (bk_Ju0 hJ hU (by omega))
theorem yk_p74 (h4 : n ≤ 4) {A B i : Nat} {shut : Bool} (hA : A + 4 ≤ 40) (hB : B + 4 ≤ 40) (hi : 1 ≤ i) (hin : i < n) (hU : bk_U rt) (post : SY → Prop) (h : ∀ j', bk_J j' (bk_fl A B i shut rt n) → post (nI n, nI len, kn, w, j', mn, cf, cy, cm)) : ∀ d p j, p + d = n → bk_J j (bk_fl A B i shut rt p) → wY_pass_74 post (bk_b shut) (nI A) (nI B) (nI i) (d + 1) (nI p) (nI n) (nI len) kn w j mn cf cy cm := by
  intro d
  induction d with
  | zero =>
    intro p j hp hj
    have e : p = n := by omega
    rw [e] at hj ⊢
    exact br_t (nI_le (by omega) (by omega)) (h j hj)
  | succ d ih =>
    intro p j hp hj
    have hu := bk_flU (A := A) (B := B) (i := i) (shut := shut) hU p
    have J : bk_sk shut i p = false → wY_pass_103 post (wY_pass_74 post (bk_b shut) (nI A) (nI B) (nI i) (d + 1)) (bk_b shut) (nI A) (nI B) (nI i) (nI p) (nI n) (nI len) kn w j mn cf cy cm := by
      intro hs
      have e : bk_fl A B i shut rt (p + 1) = bk_mr (bk_fl A B i shut rt p) (A + p) (B + p) := if_neg (by rw [hs]; decide)
      unfold wY_pass_103
      rw [nI_add A p, nI_add B p]
      refine yk_join hj hu (by omega) (by omega) _ (fun j' hj' => ?_)
      exact nm_r (nI_1 p) (ih (p + 1) j' (by omega) (by rw [e]; exact hj'))
    refine br_f (nI_ge (by omega) (by omega)) ?_
    cases shut with
    | false => exact br_t rfl (J rfl)
    | true =>
      refine br_f (by decide) (pk_eq p (i - 1) (fun c => ?_) (fun c => pk_eq p i (fun c2 => ?_) (fun c2 => ?_) rfl rfl (by omega) (by omega)) rfl (bk_pd hi) (by omega) (by omega))
      · have hs : bk_sk true i p = true := by
          unfold bk_sk
          rw [show (p + 1 == i) = true from beq_iff_eq.mpr (by omega)]
          rfl
        have e : bk_fl A B i true rt (p + 1) = bk_fl A B i true rt p := if_pos hs
        exact nm_r (nI_1 p) (ih (p + 1) j (by omega) (by rw [e]; exact hj))
      · have hs : bk_sk true i p = true := by
          unfold bk_sk
          rw [show (p == i) = true from beq_iff_eq.mpr c2, Bool.or_true]
          rfl
        have e : bk_fl A B i true rt (p + 1) = bk_fl A B i true rt p := if_pos hs
        exact nm_r (nI_1 p) (ih (p + 1) j (by omega) (by rw [e]; exact hj))
      · refine J ?_
        unfold bk_sk
        rw [show (p + 1 == i) = false from beq_eq_false_iff_ne.mpr (by omega), show (p == i) = false from beq_eq_false_iff_ne.mpr c2]
        rfl
theorem yk_p23 (hW : bk_W n len w) {k : Nat} (hk : k < len) {A B : Nat} {shut : Bool} (hA : A + 4 ≤ 40) (hB : B + 4 ≤ 40) (hU : bk_U rt) (hJ : bk_J j rt) (post : SY → Prop) (h : ∀ j', bk_J j' (bk_fl A B (bk_z w k) shut rt n) → post (nI n, nI len, kn, w, j', mn, cf, cy, cm)) : wY_pass_23 post (nI k) (bk_b shut) (nI A) (nI B) (nI n) (nI len) kn w j mn cf cy cm := by
  have h4 := hW.2.1
  have hl := hW.2.2.1
  have hz := bk_Wz hW k hk
  have main := yk_p74 (len := len) (kn := kn) (w := w) (mn := mn) (cf := cf) (cy := cy) (cm := cm) h4 (shut := shut) hA hB hz.1 hz.2 hU post h n 0
  unfold wY_pass_23
  rw [nI_clamp (show k < 2 ^ 31 by omega)]
  refine ⟨vp_in_nI (by omega) (by omega), yk_size hW hk _ ?_⟩
  cases shut with
  | false => exact br_t rfl ⟨n + 1, main j (by omega) hJ⟩
  | true =>
    refine br_f (by decide) ?_
    dsimp only
    rw [bk_am A hz.1, bk_am B hz.1, nI_add A, nI_add B]
    refine yk_join hJ hU (by omega) (by omega) _ (fun j1 hj1 => ?_)
    refine yk_join hj1 (bk_mrU hU _ _) (by omega) (by omega) _ (fun j2 hj2 => ?_)
    exact ⟨n + 1, main j2 (by omega) hj2⟩
theorem yk_pass (hW : bk_W n len w) {k : Nat} (hk : k < len) {shut : Bool} (hU : bk_U rt) (hJ : bk_J j rt) (post : SY → Prop) (h : ∀ j', bk_J j' (bk_fl (4 * k) (bk_be len k) (bk_z w k) shut rt n) → post (nI n, nI len, kn, w, j', mn, cf, cy, cm)) : wpY_pass post (nI n, nI len, kn, w, j, mn, cf, cy, cm) (nI k) (bk_b shut) := by
  have hl := hW.2.2.1
  have e4 : (4 : Int32) * nI k = nI (4 * k) := pk_mul 4 k
  refine nm_r e4 (pk_eq k (len - 1) (fun c => ?_) (fun c => ?_) rfl (bk_pd (by omega)) (by omega) (by omega))
  · have eb : bk_be len k = 0 := if_pos (by omega)
    rw [eb] at h
    exact yk_p23 hW hk (A := 4 * k) (B := 0) (by omega) (by omega) hU hJ post h
  · have eb : bk_be len k = 4 * k + 4 := if_neg (by omega)
    rw [eb] at h
    have e5 : (4 : Int32) * nI k + 4 = nI (4 * k + 4) := by
      rw [e4]
      exact nI_add (4 * k) 4
    rw [e5]
    exact yk_p23 hW hk (A := 4 * k) (B := 4 * k + 4) (by omega) (by omega) hU hJ post h
theorem yk_c72 (h4 : n ≤ 4) (hl : len ≤ 10) (hU : bk_U rt) (hJ : bk_J j rt) (post : Int32 → SY → Prop) (h : post (nI (bk_C n (4 * len) rt)) (nI n, nI len, kn, w, j, mn, cf, cy, cm)) : ∀ d x, x + d = 4 * len → wY_count_72 post (nI n) (nI len) kn w j mn cf cy cm (d + 1) (nI (bk_ct (fun x => decide (x % 4 < n) && decide (rt x = x)) x)) (nI x) := by
  have e4 : (4 : Int32) * nI len = nI (4 * len) := pk_mul 4 len
  intro d
  induction d with
  | zero =>
    intro x hx
    have e : x = 4 * len := by omega
    refine br_t (by rw [e4]; exact nI_le (by omega) (by omega)) ?_
    rw [e]
    exact h
  | succ d ih =>
    intro x hx
    have ih' := ih (x + 1) (by omega)
    have ec : bk_ct (fun x => decide (x % 4 < n) && decide (rt x = x)) (x + 1) = bk_ct (fun x => decide (x % 4 < n) && decide (rt x = x)) x + if (decide (x % 4 < n) && decide (rt x = x)) then 1 else 0 := rfl
    have er : nI x - nI x / 4 * 4 = nI (x % 4) := pk_rem (a := x) (d := 4) (by omega) (by decide) (by decide)
    refine br_f (by rw [e4]; exact nI_ge (by omega) (by omega)) ⟨by decide, pk_le n (x % 4) (fun c => ?_) (fun c => ⟨vp_in_nI (by omega) (by omega), ?_⟩) rfl er (by omega) (by omega)⟩
    · rw [ec, decide_eq_false (show ¬ x % 4 < n by omega), Bool.false_and, if_neg (by decide)] at ih'
      exact nm_r (nI_1 x) ih'
    · obtain ⟨y, y1, y2, y3, y4⟩ := hJ x (by omega)
      rw [nI_clamp (show x < 2 ^ 31 by omega), y2]
      refine pk_eq y x (fun e => ?_) (fun e => ?_) rfl rfl (by omega) (by omega)
      · rw [ec, decide_eq_true c, decide_eq_true (y4 e), Bool.true_and, if_pos rfl] at ih'
        exact nm_r (nI_1 _) (nm_r (nI_1 x) ih')
      · have ne : ¬ rt x = x := by
          intro q
          have := (hU y).1
          omega
        rw [ec, decide_eq_false ne, Bool.and_false, if_neg (by decide)] at ih'
        exact nm_r (nI_1 x) ih'
theorem yk_c35 (hW : bk_W n len w) (v : Int32) (post : Int32 → SY → Prop) (h : ∀ j', post (nI (bk_C n (4 * len) (bk_rt n len (bk_z w) (bk_bt v) len))) (nI n, nI len, kn, w, j', mn, cf, cy, cm)) : ∀ d k j, k + d = len → bk_J j (bk_rt n len (bk_z w) (bk_bt v) k) → wY_count_35 post v (d + 1) (nI k) (nI n) (nI len) kn w j mn cf cy cm := by
  have h4 := hW.2.1
  have hl := hW.2.2.1
  intro d
  induction d with
  | zero =>
    intro k j hk hj
    have e : k = len := by omega
    rw [e] at hj ⊢
    exact br_t (nI_le (by omega) (by omega)) ⟨4 * len + 1, yk_c72 h4 hl (bk_rtU _ _ _ _ _) hj post (h j) (4 * len) 0 (by omega)⟩
  | succ d ih =>
    intro k j hk hj
    have st : wY_count_59 post (wY_count_35 post v (d + 1)) v (nI k) (bk_b (bk_bt v k)) (nI k) (nI n) (nI len) kn w j mn cf cy cm := by
      refine yk_pass hW (by omega) (bk_rtU _ _ _ _ _) hj _ (fun j' hj' => ?_)
      exact nm_r (nI_1 k) (ih (k + 1) j' (by omega) hj')
    refine br_f (nI_ge (by omega) (by omega)) (br_c (fun hb => ?_) (fun hb => ?_))
    · have e : bk_bt v k = true := decide_eq_true hb
      rw [e] at st
      exact st
    · have e : bk_bt v k = false := decide_eq_false hb
      rw [e] at st
      exact st
theorem yk_c14 (v : Int32) (post : Int32 → SY → Prop) (h : ∀ j', bk_J j' (fun x => x) → ∃ n35, wY_count_35 post v n35 (nI 0) (nI n) (nI len) kn w j' mn cf cy cm) : ∀ d p j, p + d = 40 → (∀ x, x < p → j x = nI x) → wY_count_14 post v (nI n) (nI len) kn (d + 1) (nI p) w j mn cf cy cm := by
  intro d
  induction d with
  | zero =>
    intro p j hp hj
    exact br_t (nI_le (a := 40) (by omega) (by omega)) (h j (fun x hx => ⟨x, Nat.le_refl x, hj x (by omega), rfl, fun _ => rfl⟩))
  | succ d ih =>
    intro p j hp hj
    refine br_f (nI_ge (b := 40) (by omega) (by decide)) ⟨vp_in_nI (by omega) (by omega), ?_⟩
    intro a ea
    rw [nI_clamp (by omega)] at ea
    subst ea
    refine nm_r (nI_1 p) (ih (p + 1) _ (by omega) ?_)
    intro x hx
    by_cases e : x = p
    · rw [e]
      exact pk_us
    · rw [pk_un e]
      exact hj x (by omega)
theorem yk_count (hW : bk_W n len w) (v : Int32) (post : Int32 → SY → Prop) (h : ∀ j', post (nI (bk_Fs n w len v)) (nI n, nI len, kn, w, j', mn, cf, cy, cm)) : wpY_count post (nI n, nI len, kn, w, j, mn, cf, cy, cm) v := by
  have hl := hW.2.2.1
  have hm : bk_cnt n len (bk_z w) (bk_bt v) = bk_Fs n w len v := bk_main hW.1 hW.2.1 (by omega) (bk_Wz hW)
  refine pk_eq len 0 (fun e => ?_) (fun e => ⟨41, ?_⟩) rfl rfl (by omega) (by omega)
  · have h' := h j
    rw [← hm, show bk_cnt n len (bk_z w) (bk_bt v) = n from if_pos e] at h'
    exact h'
  · refine yk_c14 v post (fun j' hj' => ⟨len + 1, yk_c35 hW v post (fun j'' => ?_) len 0 j' (by omega) hj'⟩) 40 0 j (by omega) (fun x hx => absurd hx (by omega))
    have h' := h j''
    rw [← hm, show bk_cnt n len (bk_z w) (bk_bt v) = bk_C n (4 * len) (bk_rt n len (bk_z w) (bk_bt v) len) from if_neg e] at h'
    exact h'
theorem yk_loops (hW : bk_W n len w) (v : Int32) (post : Int32 → SY → Prop) (h : ∀ j', post (nI (bk_Fs n w len v)) (nI n, nI len, kn, w, j', mn, cf, cy, cm)) : wpY_loops post (nI n, nI len, kn, w, j, mn, cf, cy, cm) v :=
  yk_count hW v _ h
end
end
section
theorem bk_ix {a u l m j c : Nat} (h : a + l + 4 * j = c + 2 * u + 2 * m) : nI c + (nI (2 * u) - nI l) + nI 2 * nI m - nI 4 * nI j = nI a := by
  have e : nI a + nI l + nI 4 * nI j = nI c + nI (2 * u) + nI 2 * nI m := by
    rw [pk_mul 4 j, pk_mul 2 m, nI_add, nI_add, nI_add, nI_add, h]
  grind
theorem bk_i36 {a u l m j : Nat} (h : a + l + 4 * j = 36 + 2 * u + 2 * m) : (36 : Int32) + (nI (2 * u) - nI l) + 2 * nI m - 4 * nI j = nI a := bk_ix (c := 36) h
theorem bk_i60 {a u l m j : Nat} (h : a + l + 4 * j = 60 + 2 * u + 2 * m) : (60 : Int32) + (nI (2 * u) - nI l) + 2 * nI m - 4 * nI j = nI a := bk_ix (c := 60) h
theorem bk_exT {w : Nat → Int32} {v : Int32} {k : Nat} (hb : bk_bt v k = true) : nI (2 * bk_eu w v k) - nI k - bk_s w k = nI (2 * bk_eu w v (k + 1)) - nI (k + 1) := by
  have e : bk_eu w v (k + 1) = bk_eu w v k + if bk_up w v k then 1 else 0 := rfl
  by_cases c : 0 < w k
  · have hu : bk_up w v k = false := by
      unfold bk_up
      rw [hb, if_pos rfl]
      exact decide_eq_false (fun q => q c)
    rw [hu, if_neg (by decide), Nat.add_zero] at e
    rw [e, show bk_s w k = 1 from if_pos c]
    exact bk_e4 _ _
  · have hu : bk_up w v k = true := by
      unfold bk_up
      rw [hb, if_pos rfl]
      exact decide_eq_true c
    rw [hu, if_pos rfl] at e
    rw [e, show bk_s w k = -1 from if_neg c]
    exact bk_e3 _ _
theorem bk_exF {w : Nat → Int32} {v : Int32} {k : Nat} (hb : bk_bt v k = false) : nI (2 * bk_eu w v k) - nI k + bk_s w k = nI (2 * bk_eu w v (k + 1)) - nI (k + 1) := by
  have e : bk_eu w v (k + 1) = bk_eu w v k + if bk_up w v k then 1 else 0 := rfl
  by_cases c : 0 < w k
  · have hu : bk_up w v k = true := by
      unfold bk_up
      rw [hb, if_neg (by decide)]
      exact decide_eq_true c
    rw [hu, if_pos rfl] at e
    rw [e, show bk_s w k = 1 from if_pos c]
    exact bk_e1 _ _
  · have hu : bk_up w v k = false := by
      unfold bk_up
      rw [hb, if_neg (by decide)]
      exact decide_eq_false c
    rw [hu, if_neg (by decide), Nat.add_zero] at e
    rw [e, show bk_s w k = -1 from if_neg c]
    exact bk_e2 _ _
def bk_rc (co : Nat → Int32) (f : Nat → Int) : Prop := ∀ y, y < 73 → co y = Int32.ofInt (f (y + 24))
def bk_rd (cf : Nat → Int32) (f : Nat → Int) : Prop := ∀ x, x < 121 → cf x = Int32.ofInt (f x)
theorem bk_rcs {co : Nat → Int32} {f : Nat → Int} {K m j : Nat} (h : bk_rc co (bk_at f K m j)) (hK : 24 + 4 * j ≤ K) (hK2 : K ≤ 96) : bk_rc (upd co (K - 24 - 4 * j) (co (K - 24 - 4 * j) + Int32.ofInt (bk_tm m j))) (bk_at f K m (j + 1)) := by
  intro y hy
  have e : bk_at f K m (j + 1) (y + 24) = if y + 24 = K - 4 * j then bk_at f K m j (y + 24) + bk_tm m j else bk_at f K m j (y + 24) := rfl
  rw [e]
  by_cases c : y = K - 24 - 4 * j
  · rw [if_pos (by omega), Int32.ofInt_add, ← h y hy, ← c]
    exact pk_us
  · rw [if_neg (by omega), pk_un c]
    exact h y hy
theorem bk_rds {cf : Nat → Int32} {f : Nat → Int} {K m j : Nat} (h : bk_rd cf (bk_at f K m j)) (hK2 : K ≤ 96) : bk_rd (upd cf (K - 4 * j) (cf (K - 4 * j) + Int32.ofInt (bk_tm m j))) (bk_at f K m (j + 1)) := by
  intro y hy
  have e : bk_at f K m (j + 1) y = if y = K - 4 * j then bk_at f K m j y + bk_tm m j else bk_at f K m j y := rfl
  rw [e]
  by_cases c : y = K - 4 * j
  · rw [if_pos c, Int32.ofInt_add, ← h y hy, ← c]
    exact pk_us
  · rw [if_neg c, pk_un c]
    exact h y hy
section
variable {n len : Nat} {w pa co ow ch cl : Nat → Int32}
theorem xk_e4 (hW : bk_W n len w) (v : Int32) (post : Int32 → Prop) (h : post (nI (2 * bk_eu w v len) - nI len)) : ∀ d k, k + d = len → wX_exponentOf_4 post v (nI n) (nI len) w pa co ow ch cl (d + 1) (nI (2 * bk_eu w v k) - nI k) (nI k) := by
  have hl := hW.2.2.1
  intro d
  induction d with
  | zero =>
    intro k hk
    have e : k = len := by omega
    rw [e]
    exact br_t (nI_le (by omega) (by omega)) h
  | succ d ih =>
    intro k hk
    have ih' := ih (k + 1) (by omega)
    refine br_f (nI_ge (by omega) (by omega)) (xk_isShut _ (fun hb => ?_) (fun hb => ?_))
    · exact br_f (by decide) (xk_sign hW (by omega) _ (nm_r (bk_exT hb) (nm_r (nI_1 k) ih')))
    · exact br_t rfl (xk_sign hW (by omega) _ (nm_r (bk_exF hb) (nm_r (nI_1 k) ih')))
theorem xk_exp (hW : bk_W n len w) (v : Int32) (post : Int32 → Prop) (h : post (nI (2 * bk_eu w v len) - nI len)) : wpX_exponentOf post (nI n, nI len, w, pa, co, ow, ch, cl) v := by
  have m := xk_e4 (pa := pa) (co := co) (ow := ow) (ch := ch) (cl := cl) hW v post h len 0 (by omega)
  have e : bk_eu w v 0 = 0 := rfl
  have e2 : nI (2 * 0) - nI 0 = 0 := by decide
  rw [e, e2] at m
  exact ⟨len + 1, m⟩
theorem xk_a15 {f : Nat → Int} {u m : Nat} (hm : m < 14) (hK : 24 + 4 * m ≤ 60 + 2 * u + 2 * m - len) (hK2 : 60 + 2 * u + 2 * m - len ≤ 96) (hl : len ≤ 10) (post : SX → Prop) (h : ∀ co', bk_rc co' (bk_at f (60 + 2 * u + 2 * m - len) m (m + 1)) → post (nI n, nI len, w, pa, co', ow, ch, cl)) : ∀ d j co, j + d = m + 1 → bk_rc co (bk_at f (60 + 2 * u + 2 * m - len) m j) → wX_addTerm_15 post (nI (2 * u) - nI len) (nI m) (nI n) (nI len) (d + 1) (Int32.ofInt (bk_tm m j)) (nI j) w pa co ow ch cl := by
  intro d
  induction d with
  | zero =>
    intro j co hj hr
    have e : j = m + 1 := by omega
    rw [e] at hr
    exact br_t (nI_lt (by omega) (by omega)) (h co hr)
  | succ d ih =>
    intro j co hj hr
    refine br_f (nI_nlt (by omega) (by omega)) ?_
    rw [bk_i36 (a := 60 + 2 * u + 2 * m - len - 24 - 4 * j) (by omega), nI_clamp (show 60 + 2 * u + 2 * m - len - 24 - 4 * j < 2 ^ 31 by omega)]
    refine ⟨vp_in_nI (by omega) (by omega), vp_in_nI (by omega) (by omega), ?_⟩
    intro a6 e6
    subst e6
    rw [nI_1 j]
    exact ⟨nI_ne0 (by omega) (by omega), nm_r (bk_tms m hm j (by omega)) (nm_e (ih (j + 1) _ (by omega) (bk_rcs hr (by omega) hK2)))⟩
theorem xk_add {f : Nat → Int} {u m : Nat} (hm : m < 14) (hK : 24 + 4 * m ≤ 60 + 2 * u + 2 * m - len) (hK2 : 60 + 2 * u + 2 * m - len ≤ 96) (hl : len ≤ 10) (hr : bk_rc co f) (post : SX → Prop) (h : ∀ co', bk_rc co' (bk_at f (60 + 2 * u + 2 * m - len) m (m + 1)) → post (nI n, nI len, w, pa, co', ow, ch, cl)) : wpX_addTerm post (nI n, nI len, w, pa, co, ow, ch, cl) (nI (2 * u) - nI len) (nI m) := by
  have er : nI m - nI m / 2 * 2 = nI (m % 2) := pk_rem (a := m) (d := 2) (by omega) (by decide) (by decide)
  have main := xk_a15 (n := n) (w := w) (pa := pa) (ow := ow) (ch := ch) (cl := cl) hm hK hK2 hl post h (m + 1) 0 co (by omega) hr
  have t := bk_tm0 m hm
  refine ⟨by decide, pk_eq (m % 2) 0 (fun c => ⟨m + 2, ?_⟩) (fun c => ⟨m + 2, ?_⟩) er rfl (by omega) (by omega)⟩
  · rw [if_pos c] at t
    rw [t] at main
    exact main
  · rw [if_neg c] at t
    rw [t] at main
    exact main
theorem xk_m23 (hW : bk_W n len w) (post : SX → Prop) (h : ∀ pa' co', bk_rc co' (bk_bi n w len (2 ^ len)) → post (nI n, nI len, w, pa', co', ow, ch, cl)) : ∀ d s pa co, s + d = 2 ^ len → bk_rc co (bk_bi n w len s) → wX_makeBracket_23 post (d + 1) (nI s) (nI n) (nI len) w pa co ow ch cl := by
  have hl := hW.2.2.1
  have hp := bk_p10 len (by omega)
  have hs := bk_pw len (by omega)
  intro d
  induction d with
  | zero =>
    intro s pa co hd hr
    have e : s = 2 ^ len := by omega
    rw [e] at hr
    refine br_t ?_ (h pa co hr)
    rw [hs]
    exact nI_le (by omega) (by omega)
  | succ d ih =>
    intro s pa co hd hr
    have hm := bk_mmR hW s
    have hK := bk_KKR hW s
    have hF := bk_FsR hW (nI s)
    refine br_f (by rw [hs]; exact nI_ge (by omega) (by omega)) (xk_exp hW (nI s) _ (xk_loops hW (nI s) _ (fun pa' => ?_)))
    refine nm_r (bk_pd hF.1) (xk_add hm hK.1 hK.2 hl hr _ (fun co' hr' => ?_))
    exact nm_r (nI_1 s) (ih (s + 1) pa' co' (by omega) hr')
theorem xk_m2 (hW : bk_W n len w) (post : SX → Prop) (h : ∀ pa' co', bk_rc co' (bk_bi n w len (2 ^ len)) → post (nI n, nI len, w, pa', co', ow, ch, cl)) : ∀ d p co, p + d = 73 → (∀ y, y < p → co y = 0) → wX_makeBracket_2 post (nI n) (nI len) (d + 1) (nI p) w pa co ow ch cl := by
  intro d
  induction d with
  | zero =>
    intro p co hp hc
    refine br_t (nI_le (a := 73) (by omega) (by omega)) ⟨2 ^ len + 1, xk_m23 hW post h (2 ^ len) 0 pa co (by omega) (fun y hy => ?_)⟩
    rw [hc y (by omega)]
    rfl
  | succ d ih =>
    intro p co hp hc
    refine br_f (nI_ge (b := 73) (by omega) (by decide)) ⟨vp_in_nI (by omega) (by omega), ?_⟩
    intro a ea
    rw [nI_clamp (by omega)] at ea
    subst ea
    refine nm_r (nI_1 p) (ih (p + 1) _ (by omega) ?_)
    intro y hy
    by_cases e : y = p
    · rw [e]
      exact pk_us
    · rw [pk_un e]
      exact hc y (by omega)
theorem xk_make (hW : bk_W n len w) (post : SX → Prop) (h : ∀ pa' co', bk_rc co' (bk_bi n w len (2 ^ len)) → post (nI n, nI len, w, pa', co', ow, ch, cl)) : wpX_makeBracket post (nI n, nI len, w, pa, co, ow, ch, cl) :=
  ⟨74, xk_m2 hW post h 73 0 co (by omega) (fun y hy => absurd hy (by omega))⟩
end
section
variable {n len : Nat} {kn : Int32} {w j mn cf cy cm : Nat → Int32}
theorem yk_e4 (hW : bk_W n len w) (v : Int32) (post : Int32 → Prop) (h : post (nI (2 * bk_eu w v len) - nI len)) : ∀ d k, k + d = len → wY_exponent_4 post v (nI n) (nI len) kn w j mn cf cy cm (d + 1) (nI (2 * bk_eu w v k) - nI k) (nI k) := by
  have hl := hW.2.2.1
  intro d
  induction d with
  | zero =>
    intro k hk
    have e : k = len := by omega
    rw [e]
    exact br_t (nI_le (by omega) (by omega)) h
  | succ d ih =>
    intro k hk
    have ih' := ih (k + 1) (by omega)
    refine br_f (nI_ge (by omega) (by omega)) (br_c (fun hb => ?_) (fun hb => ?_))
    · have e : bk_bt v k = true := decide_eq_true hb
      rw [nI_clamp (show k < 2 ^ 31 by omega)]
      refine ⟨vp_in_nI (by omega) (by omega), yk_sign hW (by omega) _ (nm_r ?_ (nm_r (nI_1 k) ih'))⟩
      rw [← Int32.sub_eq_add_neg]
      exact bk_exT e
    · have e : bk_bt v k = false := decide_eq_false hb
      rw [nI_clamp (show k < 2 ^ 31 by omega)]
      exact ⟨vp_in_nI (by omega) (by omega), yk_sign hW (by omega) _ (nm_r (bk_exF e) (nm_r (nI_1 k) ih'))⟩
theorem yk_exp (hW : bk_W n len w) (v : Int32) (post : Int32 → Prop) (h : post (nI (2 * bk_eu w v len) - nI len)) : wpY_exponent post (nI n, nI len, kn, w, j, mn, cf, cy, cm) v := by
  have m := yk_e4 (kn := kn) (j := j) (mn := mn) (cf := cf) (cy := cy) (cm := cm) hW v post h len 0 (by omega)
  have e : bk_eu w v 0 = 0 := rfl
  have e2 : nI (2 * 0) - nI 0 = 0 := by decide
  rw [e, e2] at m
  exact ⟨len + 1, m⟩
theorem yk_a15 {f : Nat → Int} {u m : Nat} (hm : m < 14) (hK : 24 + 4 * m ≤ 60 + 2 * u + 2 * m - len) (hK2 : 60 + 2 * u + 2 * m - len ≤ 96) (hl : len ≤ 10) (post : SY → Prop) (h : ∀ cf', bk_rd cf' (bk_at f (60 + 2 * u + 2 * m - len) m (m + 1)) → post (nI n, nI len, kn, w, j, mn, cf', cy, cm)) : ∀ d t cf, t + d = m + 1 → bk_rd cf (bk_at f (60 + 2 * u + 2 * m - len) m t) → wY_addPower_15 post (nI (2 * u) - nI len) (nI m) (nI n) (nI len) kn (d + 1) (Int32.ofInt (bk_tm m t)) (nI t) w j mn cf cy cm := by
  intro d
  induction d with
  | zero =>
    intro t cf hj hr
    have e : t = m + 1 := by omega
    rw [e] at hr
    exact br_t (nI_lt (by omega) (by omega)) (h cf hr)
  | succ d ih =>
    intro t cf hj hr
    refine br_f (nI_nlt (by omega) (by omega)) ?_
    rw [bk_i60 (a := 60 + 2 * u + 2 * m - len - 4 * t) (by omega), nI_clamp (show 60 + 2 * u + 2 * m - len - 4 * t < 2 ^ 31 by omega)]
    refine ⟨vp_in_nI (by omega) (by omega), vp_in_nI (by omega) (by omega), ?_⟩
    intro a6 e6
    subst e6
    rw [nI_1 t]
    exact ⟨nI_ne0 (by omega) (by omega), nm_r (bk_tms m hm t (by omega)) (nm_e (ih (t + 1) _ (by omega) (bk_rds hr hK2)))⟩
theorem yk_add {f : Nat → Int} {u m : Nat} (hm : m < 14) (hK : 24 + 4 * m ≤ 60 + 2 * u + 2 * m - len) (hK2 : 60 + 2 * u + 2 * m - len ≤ 96) (hl : len ≤ 10) (hr : bk_rd cf f) (post : SY → Prop) (h : ∀ cf', bk_rd cf' (bk_at f (60 + 2 * u + 2 * m - len) m (m + 1)) → post (nI n, nI len, kn, w, j, mn, cf', cy, cm)) : wpY_addPower post (nI n, nI len, kn, w, j, mn, cf, cy, cm) (nI (2 * u) - nI len) (nI m) := by
  have er : nI m - nI m / 2 * 2 = nI (m % 2) := pk_rem (a := m) (d := 2) (by omega) (by decide) (by decide)
  have main := yk_a15 (n := n) (kn := kn) (w := w) (j := j) (mn := mn) (cy := cy) (cm := cm) hm hK hK2 hl post h (m + 1) 0 cf (by omega) hr
  have t := bk_tm0 m hm
  refine ⟨by decide, pk_eq (m % 2) 0 (fun c => ⟨m + 2, ?_⟩) (fun c => ⟨m + 2, ?_⟩) er rfl (by omega) (by omega)⟩
  · rw [if_pos c] at t
    rw [t] at main
    exact main
  · rw [if_neg c] at t
    rw [t] at main
    exact main
def bk_rm (n len : Nat) (w mn : Nat → Int32) (s : Nat) : Prop := ∀ l, l < 16 → mn l = nI (bk_mn n w len l s)
theorem bk_rms {s : Nat} (h : bk_rm n len w mn s) : bk_rm n len w (upd mn (bk_Fs n w len (nI s)) (mn (bk_Fs n w len (nI s)) + 1)) (s + 1) := by
  intro l hl
  have e : bk_mn n w len l (s + 1) = bk_mn n w len l s + if bk_Fs n w len (nI s) = l then 1 else 0 := rfl
  rw [e]
  by_cases c : l = bk_Fs n w len (nI s)
  · rw [if_pos c.symm, ← c, pk_us, h l hl, nI_1]
  · rw [if_neg (fun q => c q.symm), pk_un c, h l hl]
    rfl
theorem yk_w57 (hW : bk_W n len w) (post : SY → Prop) (h : ∀ j' mn' cf', bk_rm n len w mn' (2 ^ len) → bk_rd cf' (bk_bi n w len (2 ^ len)) → post (nI n, nI len, kn, w, j', mn', cf', cy, cm)) : ∀ d s j mn cf, s + d = 2 ^ len → bk_rm n len w mn s → bk_rd cf (bk_bi n w len s) → wY_work_57 post (d + 1) (nI s) (nI n) (nI len) kn w j mn cf cy cm := by
  have hl := hW.2.2.1
  have hp := bk_p10 len (by omega)
  have hs := bk_pw len (by omega)
  intro d
  induction d with
  | zero =>
    intro s j mn cf hd hm hr
    have e : s = 2 ^ len := by omega
    rw [e] at hr hm
    refine br_t ?_ (h j mn cf hm hr)
    rw [hs]
    exact nI_le (by omega) (by omega)
  | succ d ih =>
    intro s j mn cf hd hm hr
    have hmm := bk_mmR hW s
    have hK := bk_KKR hW s
    have hF := bk_FsR hW (nI s)
    refine br_f (by rw [hs]; exact nI_ge (by omega) (by omega)) (yk_count hW (nI s) _ (fun j' => yk_exp hW (nI s) _ ?_))
    refine ⟨vp_in_nI (by omega) (by omega), vp_in_nI (by omega) (by omega), ?_⟩
    intro a ea
    rw [nI_clamp (show bk_Fs n w len (nI s) < 2 ^ 31 by omega)] at ea
    subst ea
    rw [bk_pd hF.1]
    refine yk_add hmm hK.1 hK.2 hl hr _ (fun cf' hr' => ?_)
    exact nm_r (nI_1 s) (ih (s + 1) j' _ cf' (by omega) (bk_rms hm) hr')
theorem yk_w36 (hW : bk_W n len w) (post : SY → Prop) (h : ∀ j' mn' cf', bk_rm n len w mn' (2 ^ len) → bk_rd cf' (bk_bi n w len (2 ^ len)) → post (nI n, nI len, kn, w, j', mn', cf', cy, cm)) (hm : bk_rm n len w mn 0) : ∀ d p cf, p + d = 121 → (∀ y, y < p → cf y = 0) → wY_work_36 post (nI n) (nI len) kn (d + 1) (nI p) w j mn cf cy cm := by
  intro d
  induction d with
  | zero =>
    intro p cf hp hc
    refine br_t (nI_le (a := 121) (by omega) (by omega)) ⟨2 ^ len + 1, yk_w57 hW post h (2 ^ len) 0 j mn cf (by omega) hm (fun y hy => ?_)⟩
    rw [hc y (by omega)]
    rfl
  | succ d ih =>
    intro p cf hp hc
    refine br_f (nI_ge (b := 121) (by omega) (by decide)) ⟨vp_in_nI (by omega) (by omega), ?_⟩
    intro a ea
    rw [nI_clamp (by omega)] at ea
    subst ea
    refine nm_r (nI_1 p) (ih (p + 1) _ (by omega) ?_)
    intro y hy
    by_cases e : y = p
    · rw [e]
      exact pk_us
    · rw [pk_un e]
      exact hc y (by omega)
theorem yk_w15 (hW : bk_W n len w) (post : SY → Prop) (h : ∀ j' mn' cf', bk_rm n len w mn' (2 ^ len) → bk_rd cf' (bk_bi n w len (2 ^ len)) → post (nI n, nI len, kn, w, j', mn', cf', cy, cm)) : ∀ d p mn, p + d = 16 → (∀ y, y < p → mn y = 0) → wY_work_15 post (nI n) (nI len) kn (d + 1) (nI p) w j mn cf cy cm := by
  intro d
  induction d with
  | zero =>
    intro p mn hp hc
    exact br_t (nI_le (a := 16) (by omega) (by omega)) ⟨122, yk_w36 hW post h (fun l hl => hc l (by omega)) 121 0 cf (by omega) (fun y hy => absurd hy (by omega))⟩
  | succ d ih =>
    intro p mn hp hc
    refine br_f (nI_ge (b := 16) (by omega) (by decide)) ⟨vp_in_nI (by omega) (by omega), ?_⟩
    intro a ea
    rw [nI_clamp (by omega)] at ea
    subst ea
    refine nm_r (nI_1 p) (ih (p + 1) _ (by omega) ?_)
    intro y hy
    by_cases e : y = p
    · rw [e]
      exact pk_us
    · rw [pk_un e]
      exact hc y (by omega)
def bk_kn (n len : Nat) (kn : Int32) (w mn cf : Nat → Int32) : Prop := kn = 0 ∨ (kn = 1 ∧ bk_rm n len w mn (2 ^ len) ∧ bk_rd cf (bk_bi n w len (2 ^ len)))
theorem yk_work (hW : bk_W n len w) (hk : bk_kn n len kn w mn cf) (post : SY → Prop) (h : ∀ j' mn' cf', bk_rm n len w mn' (2 ^ len) → bk_rd cf' (bk_bi n w len (2 ^ len)) → post (nI n, nI len, 1, w, j', mn', cf', cy, cm)) : wpY_work post (nI n, nI len, kn, w, j, mn, cf, cy, cm) := by
  rcases hk with e | ⟨e, hm, hr⟩
  · subst e
    exact br_t rfl ⟨17, yk_w15 hW post h 16 0 mn (by omega) (fun y hy => absurd hy (by omega))⟩
  · subst e
    exact br_f (by decide) (h j mn cf hm hr)
end
end
section
def i_Rel (k : Nat) (u : SX) (v : SY) : Prop := ∃ (n len : Nat) (kn : Int32) (w pa co ow ch cl j mn cf cy cm : Nat → Int32), bk_W n len w ∧ bk_kn n len kn w mn cf ∧ u = (nI n, nI len, w, pa, co, ow, ch, cl) ∧ v = (nI n, nI len, kn, w, j, mn, cf, cy, cm)
theorem i_up {k : Nat} {u : SX} {v : SY} (h : i_Rel k u v) : i_Rel (k + 3) u v := h
theorem bk_rel {k n len : Nat} {kn : Int32} {w pa co ow ch cl j mn cf cy cm : Nat → Int32} (hW : bk_W n len w) (hk : bk_kn n len kn w mn cf) : i_Rel k (nI n, nI len, w, pa, co, ow, ch, cl) (nI n, nI len, kn, w, j, mn, cf, cy, cm) :=
  ⟨n, len, kn, w, pa, co, ow, ch, cl, j, mn, cf, cy, cm, hW, hk, rfl, rfl⟩
theorem bk_W0 {n : Nat} {w : Nat → Int32} (h2 : 2 ≤ n) (h4 : n ≤ 4) : bk_W n 0 w := ⟨h2, h4, by omega, fun k hk => absurd hk (by omega)⟩
theorem bk_i2 : (2 : Int32).toInt = 2 := by decide
theorem i_vc0 (k0 : Int32) : wpX_init (fun u => wpY_init (fun v => i_Rel 1 u v) k0) k0 := by
  refine br_c (fun h2 => br_c (fun h4 => br_t h2 (br_t h4 ?_)) (fun h4 => br_t h2 (br_f h4 ?_))) (fun h2 => br_f h2 ?_)
  · have h0 : ¬ k0 < 0 := by
      rw [Int32.lt_iff_toInt_lt, bk_i0]
      rw [Int32.le_iff_toInt_le, bk_i2] at h2
      omega
    obtain ⟨m, hm, rfl⟩ := nI_of2 (M := 4) (n := 4) (by decide) h0 h4
    have hm2 : 2 ≤ m := (nI_leI (a := 2) (b := m) (by decide) (by omega)).mp h2
    exact bk_rel (n := m) (len := 0) (bk_W0 hm2 hm) (Or.inl rfl)
  · exact bk_rel (n := 4) (len := 0) (bk_W0 (by decide) (by decide)) (Or.inl rfl)
  · exact bk_rel (n := 2) (len := 0) (bk_W0 (by decide) (by decide)) (Or.inl rfl)
theorem bk_Wadd {n len : Nat} {w : Nat → Int32} {x : Int32} (hW : bk_W n len w) (hl : len < 10) (hx : bk_L n x) : bk_W n (len + 1) (upd w len x) := by
  refine ⟨hW.1, hW.2.1, by omega, fun k hk => ?_⟩
  by_cases e : k = len
  · rw [e, pk_us]
    exact hx
  · rw [pk_un e]
    exact hW.2.2.2 k (by omega)
section
variable {n len : Nat} {kn : Int32} {w pa co ow ch cl j mn cf cy cm : Nat → Int32}
theorem xk_add1 {x : Int32} (hW : bk_W n len w) (hl : len < 10) (hx : bk_L n x) (post : Int32 → SX → Prop) (h : post (nI (len + 1)) (nI n, nI (len + 1), upd w len x, pa, co, ow, ch, cl)) : wpX_add post (nI n, nI len, w, pa, co, ow, ch, cl) x := by
  obtain ⟨a1, a2, a3, a4, a5, a6⟩ := bk_Lin hW.2.1 hx
  refine br_f a1 (br_f a3 (br_t a4 (br_t (nI_lt (b := 10) hl (by decide)) ⟨vp_in_nI hl (by decide), ?_⟩)))
  intro a ea
  rw [nI_clamp (by omega)] at ea
  subst ea
  exact nm_r (nI_1 len) h
theorem yk_add1 {x : Int32} (hW : bk_W n len w) (hl : len < 10) (hx : bk_L n x) (post : Int32 → SY → Prop) (h : post (nI (len + 1)) (nI n, nI (len + 1), 0, upd w len x, j, mn, cf, cy, cm)) : wpY_add post (nI n, nI len, kn, w, j, mn, cf, cy, cm) x := by
  obtain ⟨a1, a2, a3, a4, a5, a6⟩ := bk_Lin hW.2.1 hx
  refine br_f a1 (br_f a5 (br_t a2 (br_f (fun q => ?_) ⟨vp_in_nI hl (by decide), ?_⟩)))
  · have q' := (nI_eq (a := len) (b := 10) (by omega) (by decide)).mp q
    omega
  · intro a ea
    rw [nI_clamp (by omega)] at ea
    subst ea
    exact nm_r (nI_1 len) h
end
theorem i_vc_add {k : Nat} {u : SX} {v : SY} (I : i_Rel k u v) (hk : k + 3 ≤ 1537) (v1 : Int32) : wpX_add (fun r u' => wpY_add (fun r' v' => r' = r ∧ i_Rel (k + 3) u' v') v v1) u v1 := by
  obtain ⟨n, len, kn, w, pa, co, ow, ch, cl, j, mn, cf, cy, cm, hW, hkn, rfl, rfl⟩ := I
  have h2n := hW.1
  have h4 := hW.2.1
  have hl := hW.2.2.1
  by_cases h0 : v1 = 0
  · exact br_t h0 (br_t h0 ⟨rfl, bk_rel hW hkn⟩)
  by_cases h1 : nI n ≤ v1
  · have h3 : ¬ v1 ≤ -nI n := by
      rw [Int32.le_iff_toInt_le, sb_negT (by omega)]
      rw [Int32.le_iff_toInt_le, nI_toInt (by omega)] at h1
      omega
    exact br_f h0 (br_t h1 (br_f h0 (br_f h3 (br_f (Int32.not_lt.mpr h1) ⟨rfl, bk_rel hW hkn⟩))))
  by_cases h2 : -nI n < v1
  · have hx : bk_L n v1 := bk_Lof h4 h0 (Int32.not_le.mp h1) h2
    by_cases h10 : len < 10
    · exact xk_add1 hW h10 hx _ (yk_add1 hW h10 hx _ ⟨rfl, bk_rel (bk_Wadd hW h10 hx) (Or.inl rfl)⟩)
    · have e : len = 10 := by omega
      subst e
      exact br_f h0 (br_f h1 (br_t h2 (br_f (by decide) (br_f h0 (br_f (Int32.not_le.mpr h2) (br_t (Int32.not_le.mp h1) (br_t rfl ⟨rfl, bk_rel hW hkn⟩)))))))
  · exact br_f h0 (br_f h1 (br_f h2 (br_f h0 (br_t (Int32.not_lt.mp h2) ⟨rfl, bk_rel hW hkn⟩))))
def bk_dr (w : Nat → Int32) (k : Nat) : Nat → (Nat → Int32)
  | 0 => w
  | t + 1 => upd (bk_dr w k t) (k + t) (bk_dr w k t (k + t + 1))
theorem bk_drL {n len k : Nat} {w : Nat → Int32} (h : ∀ x, x < len → bk_L n (w x)) : ∀ t, k + t < len → ∀ x, x < len → bk_L n (bk_dr w k t x) := by
  intro t
  induction t with
  | zero => exact fun _ => h
  | succ t ih =>
    intro ht x hx
    show bk_L n (upd (bk_dr w k t) (k + t) (bk_dr w k t (k + t + 1)) x)
    by_cases e : x = k + t
    · rw [e, pk_us]
      exact ih (by omega) _ (by omega)
    · rw [pk_un e]
      exact ih (by omega) x hx
theorem bk_Wdr {n len k : Nat} {w : Nat → Int32} (hW : bk_W n len w) (hk : k < len) : bk_W n (len - 1) (bk_dr w k (len - 1 - k)) :=
  ⟨hW.1, hW.2.1, by have := hW.2.2.1; omega, fun x hx => bk_drL hW.2.2.2 (len - 1 - k) (by omega) x (by omega)⟩
section
variable {n len : Nat} {kn : Int32} {w pa co ow ch cl j mn cf cy cm : Nat → Int32}
theorem xk_d27 {k : Nat} (hl : len ≤ 10) (post : Int32 → SX → Prop) (r : Int32) (h : post r (nI n, nI (len - 1), bk_dr w k (len - 1 - k), pa, co, ow, ch, cl)) : ∀ d t, k + 1 + t + d = len → wX_drop_27 post r (nI n) (nI len) (d + 1) (nI (k + 1 + t)) (bk_dr w k t) pa co ow ch cl := by
  intro d
  induction d with
  | zero =>
    intro t ht
    have e : t = len - 1 - k := by omega
    rw [← e] at h
    exact br_t (nI_le (by omega) (by omega)) (nm_r (bk_pd (by omega)) h)
  | succ d ih =>
    intro t ht
    have e : nI (k + 1 + t) - 1 = nI (k + t) := by
      rw [bk_pd (by omega)]
      congr 1
      omega
    refine br_f (nI_ge (by omega) (by omega)) ?_
    rw [e, nI_clamp (show k + 1 + t < 2 ^ 31 by omega), nI_clamp (show k + t < 2 ^ 31 by omega)]
    refine ⟨vp_in_nI (by omega) (by omega), vp_in_nI (by omega) (by omega), ?_⟩
    intro a ea
    rw [show k + 1 + t = k + t + 1 by omega] at ea
    subst ea
    exact nm_r (nI_1 _) (ih (t + 1) (by omega))
theorem xk_drop {k : Nat} (hl : len ≤ 10) (hk : k < len) (post : Int32 → SX → Prop) (h : post (w k) (nI n, nI (len - 1), bk_dr w k (len - 1 - k), pa, co, ow, ch, cl)) : wpX_drop post (nI n, nI len, w, pa, co, ow, ch, cl) (nI k) := by
  refine br_f (nI_pos (by omega)) (br_t (nI_lt hk (by omega)) ⟨vp_in_nI (by omega) (by omega), ?_⟩)
  rw [nI_clamp (by omega)]
  exact nm_e (nm_r (nI_1 k) ⟨len - 1 - k + 1, xk_d27 hl post _ h (len - 1 - k) 0 (by omega)⟩)
theorem yk_d21 {k : Nat} (hl : len ≤ 10) (post : Int32 → SY → Prop) (r : Int32) (h : post r (nI n, nI (len - 1), 0, bk_dr w k (len - 1 - k), j, mn, cf, cy, cm)) : ∀ d t, k + 1 + t + d = len → wY_drop_21 post r (nI n) (nI len) kn (d + 1) (nI (k + t)) (bk_dr w k t) j mn cf cy cm := by
  intro d
  induction d with
  | zero =>
    intro t ht
    have e : t = len - 1 - k := by omega
    rw [← e] at h
    refine br_t ?_ (nm_r (bk_pd (by omega)) h)
    rw [bk_pd (by omega)]
    exact nI_le (by omega) (by omega)
  | succ d ih =>
    intro t ht
    refine br_f (by rw [bk_pd (by omega)]; exact nI_ge (by omega) (by omega)) ?_
    rw [nI_1, nI_clamp (show k + t < 2 ^ 31 by omega), nI_clamp (show k + t + 1 < 2 ^ 31 by omega)]
    refine ⟨vp_in_nI (by omega) (by omega), vp_in_nI (by omega) (by omega), ?_⟩
    intro a ea
    subst ea
    exact nm_e (ih (t + 1) (by omega))
theorem yk_is1 {k : Nat} (hl : len ≤ 10) (hk : k < len) (post : Int32 → Prop) (h : post 1) : wpY_is post (nI n, nI len, kn, w, j, mn, cf, cy, cm) (nI k) :=
  br_f (nI_pos (by omega)) (br_f (nI_ge hk (by omega)) h)
theorem yk_drop {k : Nat} (hl : len ≤ 10) (hk : k < len) (post : Int32 → SY → Prop) (h : post (w k) (nI n, nI (len - 1), 0, bk_dr w k (len - 1 - k), j, mn, cf, cy, cm)) : wpY_drop post (nI n, nI len, kn, w, j, mn, cf, cy, cm) (nI k) := by
  unfold wpY_drop
  dsimp only
  refine yk_is1 hl hk _ ?_
  refine br_f (by decide) ⟨vp_in_nI (by omega) (by omega), ?_⟩
  rw [nI_clamp (by omega)]
  exact nm_e ⟨len - 1 - k + 1, yk_d21 hl post _ h (len - 1 - k) 0 (by omega)⟩
end
theorem i_vc_drop {k : Nat} {u : SX} {v : SY} (I : i_Rel k u v) (hk : k + 3 ≤ 1537) (v1 : Int32) : wpX_drop (fun r u' => wpY_drop (fun r' v' => r' = r ∧ i_Rel (k + 3) u' v') v v1) u v1 := by
  obtain ⟨n, len, kn, w, pa, co, ow, ch, cl, j, mn, cf, cy, cm, hW, hkn, rfl, rfl⟩ := I
  have hl := hW.2.2.1
  rcases pk_ix v1 (n := len) (by omega) with h | h | ⟨i, hi, rfl⟩
  · exact br_t h (br_t h (br_t rfl ⟨rfl, bk_rel hW hkn⟩))
  · have h0 : ¬ v1 < 0 := by
      rw [Int32.le_iff_toInt_le, nI_toInt (by omega)] at h
      rw [Int32.lt_iff_toInt_lt, bk_i0]
      omega
    exact br_f h0 (br_f (Int32.not_lt.mpr h) (br_f h0 (br_t h (br_t rfl ⟨rfl, bk_rel hW hkn⟩))))
  · exact xk_drop hl hi _ (yk_drop hl hi _ ⟨rfl, bk_rel (bk_Wdr hW hi) (Or.inl rfl)⟩)
theorem i_vc_turn {k : Nat} {u : SX} {v : SY} (I : i_Rel k u v) (hk : k + 3 ≤ 1537) : wpX_turn (fun r u' => wpY_turn (fun r' v' => r' = r ∧ i_Rel (k + 3) u' v') v) u := by
  obtain ⟨n, len, kn, w, pa, co, ow, ch, cl, j, mn, cf, cy, cm, hW, hkn, rfl, rfl⟩ := I
  have hl := hW.2.2.1
  by_cases h0 : len = 0
  · subst h0
    exact br_f (by decide) (br_f (by decide) (br_t rfl (br_t rfl ⟨rfl, bk_rel hW hkn⟩)))
  · have hL := hW.2.2.2 0 (by omega)
    have hW2 := bk_Wdr hW (k := 0) (by omega)
    have hm := (bk_Lin hW.2.1 hL).2.2.2.2.2
    unfold wpX_turn wpY_turn
    dsimp only
    refine xk_drop (k := 0) hl (by omega) _ ?_
    refine br_f hm ?_
    refine xk_add1 hW2 (by omega) hL _ ?_
    refine br_f (nI_ne0 (by omega) (by omega)) ?_
    refine yk_drop (k := 0) hl (by omega) _ ?_
    refine yk_add1 hW2 (by omega) hL _ ?_
    exact ⟨rfl, bk_rel (bk_Wadd hW2 (by omega) hL) (Or.inl rfl)⟩
def bk_mi (w : Nat → Int32) : Nat → (Nat → Int32)
  | 0 => w
  | t + 1 => upd (bk_mi w t) t (-(bk_mi w t t))
theorem bk_miL {n len : Nat} {w : Nat → Int32} (h : ∀ x, x < len → bk_L n (w x)) : ∀ t, t ≤ len → ∀ x, x < len → bk_L n (bk_mi w t x) := by
  intro t
  induction t with
  | zero => exact fun _ => h
  | succ t ih =>
    intro ht x hx
    show bk_L n (upd (bk_mi w t) t (-(bk_mi w t t)) x)
    by_cases e : x = t
    · rw [e, pk_us]
      exact bk_Lneg (ih (by omega) _ (by omega))
    · rw [pk_un e]
      exact ih (by omega) x hx
section
variable {n len : Nat} {kn : Int32} {w pa co ow ch cl j mn cf cy cm : Nat → Int32}
theorem xk_mi (hl : len ≤ 10) (post : Int32 → SX → Prop) (h : post (nI len) (nI n, nI len, bk_mi w len, pa, co, ow, ch, cl)) : ∀ d t, t + d = len → wX_mirror_2 post (nI n) (nI len) (d + 1) (nI t) (bk_mi w t) pa co ow ch cl := by
  intro d
  induction d with
  | zero =>
    intro t ht
    have e : t = len := by omega
    rw [e]
    exact br_t (nI_le (by omega) (by omega)) h
  | succ d ih =>
    intro t ht
    refine br_f (nI_ge (by omega) (by omega)) ?_
    rw [nI_clamp (show t < 2 ^ 31 by omega)]
    refine ⟨vp_in_nI (by omega) (by omega), vp_in_nI (by omega) (by omega), ?_⟩
    intro a ea
    subst ea
    exact nm_r (nI_1 t) (ih (t + 1) (by omega))
theorem yk_mi (hl : len ≤ 10) (post : Int32 → SY → Prop) (h : post (nI len) (nI n, nI len, 0, bk_mi w len, j, mn, cf, cy, cm)) : ∀ d t, t + d = len → wY_mirror_2 post (nI n) (nI len) kn (d + 1) (nI t) (bk_mi w t) j mn cf cy cm := by
  intro d
  induction d with
  | zero =>
    intro t ht
    have e : t = len := by omega
    rw [e]
    exact br_t (nI_le (by omega) (by omega)) h
  | succ d ih =>
    intro t ht
    refine br_f (nI_ge (by omega) (by omega)) ?_
    rw [nI_clamp (show t < 2 ^ 31 by omega)]
    refine ⟨vp_in_nI (by omega) (by omega), vp_in_nI (by omega) (by omega), ?_⟩
    intro a ea
    subst ea
    exact nm_r (nI_1 t) (ih (t + 1) (by omega))
end
theorem i_vc_mirror {k : Nat} {u : SX} {v : SY} (I : i_Rel k u v) (hk : k + 3 ≤ 1537) : wpX_mirror (fun r u' => wpY_mirror (fun r' v' => r' = r ∧ i_Rel (k + 3) u' v') v) u := by
  obtain ⟨n, len, kn, w, pa, co, ow, ch, cl, j, mn, cf, cy, cm, hW, hkn, rfl, rfl⟩ := I
  have hl := hW.2.2.1
  refine ⟨len + 1, xk_mi hl _ ⟨len + 1, yk_mi hl _ ⟨rfl, ?_⟩ len 0 (by omega)⟩ len 0 (by omega)⟩
  exact bk_rel ⟨hW.1, hW.2.1, hl, bk_miL hW.2.2.2 len (Nat.le_refl _)⟩ (Or.inl rfl)
def bk_re (w : Nat → Int32) (len : Nat) : Nat → (Nat → Int32)
  | 0 => w
  | t + 1 => upd (upd (bk_re w len t) t (bk_re w len t (len - 1 - t))) (len - 1 - t) (bk_re w len t t)
theorem bk_reL {n len : Nat} {w : Nat → Int32} (h : ∀ x, x < len → bk_L n (w x)) : ∀ t, t ≤ len → ∀ x, x < len → bk_L n (bk_re w len t x) := by
  intro t
  induction t with
  | zero => exact fun _ => h
  | succ t ih =>
    intro ht x hx
    show bk_L n (upd (upd (bk_re w len t) t (bk_re w len t (len - 1 - t))) (len - 1 - t) (bk_re w len t t) x)
    by_cases e : x = len - 1 - t
    · rw [e, pk_us]
      exact ih (by omega) _ (by omega)
    · rw [pk_un e]
      by_cases e2 : x = t
      · rw [e2, pk_us]
        exact ih (by omega) _ (by omega)
      · rw [pk_un e2]
        exact ih (by omega) x hx
theorem bk_hf {len : Nat} (hl : len ≤ 10) : nI len / 2 = nI (len / 2) := pk_div (a := len) (d := 2) (by omega) (by decide) (by decide)
theorem bk_rs {len t : Nat} (ht : t < len) : nI len - 1 - nI t = nI (len - 1 - t) := by
  rw [bk_pd (by omega)]
  exact pk_sub (by omega)
section
variable {n len : Nat} {kn : Int32} {w pa co ow ch cl j mn cf cy cm : Nat → Int32}
theorem xk_re (hl : len ≤ 10) (post : Int32 → SX → Prop) (h : post (nI len) (nI n, nI len, bk_re w len (len / 2), pa, co, ow, ch, cl)) : ∀ d t, t + d = len / 2 → wX_reverse_2 post (nI n) (nI len) (d + 1) (nI t) (bk_re w len t) pa co ow ch cl := by
  intro d
  induction d with
  | zero =>
    intro t ht
    have e : t = len / 2 := by omega
    rw [e]
    refine ⟨by decide, br_t ?_ h⟩
    rw [bk_hf hl]
    exact nI_le (by omega) (by omega)
  | succ d ih =>
    intro t ht
    refine ⟨by decide, br_f (by rw [bk_hf hl]; exact nI_ge (by omega) (by omega)) ?_⟩
    rw [bk_rs (show t < len by omega), nI_clamp (show t < 2 ^ 31 by omega), nI_clamp (show len - 1 - t < 2 ^ 31 by omega)]
    refine ⟨vp_in_nI (by omega) (by omega), nm_e ⟨vp_in_nI (by omega) (by omega), vp_in_nI (by omega) (by omega), ?_⟩⟩
    intro a ea
    refine ⟨vp_in_nI (by omega) (by omega), ?_⟩
    intro b eb
    subst ea
    subst eb
    exact nm_r (nI_1 t) (ih (t + 1) (by omega))
theorem yk_re (hl : len ≤ 10) (post : Int32 → SY → Prop) (h : post (nI len) (nI n, nI len, 0, bk_re w len (len / 2), j, mn, cf, cy, cm)) : ∀ d t, t + d = len / 2 → wY_reverse_2 post (nI n) (nI len) kn (d + 1) (nI t) (bk_re w len t) j mn cf cy cm := by
  intro d
  induction d with
  | zero =>
    intro t ht
    have e : t = len / 2 := by omega
    rw [e]
    refine ⟨by decide, br_t ?_ h⟩
    rw [bk_hf hl]
    exact nI_le (by omega) (by omega)
  | succ d ih =>
    intro t ht
    refine ⟨by decide, br_f (by rw [bk_hf hl]; exact nI_ge (by omega) (by omega)) ?_⟩
    rw [bk_rs (show t < len by omega), nI_clamp (show t < 2 ^ 31 by omega), nI_clamp (show len - 1 - t < 2 ^ 31 by omega)]
    refine ⟨vp_in_nI (by omega) (by omega), nm_e ⟨vp_in_nI (by omega) (by omega), vp_in_nI (by omega) (by omega), ?_⟩⟩
    intro a ea
    refine ⟨vp_in_nI (by omega) (by omega), ?_⟩
    intro b eb
    subst ea
    subst eb
    exact nm_r (nI_1 t) (ih (t + 1) (by omega))
end
theorem i_vc_reverse {k : Nat} {u : SX} {v : SY} (I : i_Rel k u v) (hk : k + 3 ≤ 1537) : wpX_reverse (fun r u' => wpY_reverse (fun r' v' => r' = r ∧ i_Rel (k + 3) u' v') v) u := by
  obtain ⟨n, len, kn, w, pa, co, ow, ch, cl, j, mn, cf, cy, cm, hW, hkn, rfl, rfl⟩ := I
  have hl := hW.2.2.1
  refine ⟨len / 2 + 1, xk_re hl _ ⟨len / 2 + 1, yk_re hl _ ⟨rfl, ?_⟩ (len / 2) 0 (by omega)⟩ (len / 2) 0 (by omega)⟩
  exact bk_rel ⟨hW.1, hW.2.1, hl, bk_reL hW.2.2.2 (len / 2) (by omega)⟩ (Or.inl rfl)
theorem i_vc_letter {k : Nat} {u : SX} {v : SY} (I : i_Rel k u v) (hk : k + 3 ≤ 1537) (v1 : Int32) : wpX_letter (fun r => wpY_letter (fun r' => r' = r ∧ i_Rel (k + 3) u v) v v1) u v1 := by
  obtain ⟨n, len, kn, w, pa, co, ow, ch, cl, j, mn, cf, cy, cm, hW, hkn, rfl, rfl⟩ := I
  have hl := hW.2.2.1
  rcases pk_ix v1 (n := len) (by omega) with h | h | ⟨i, hi, rfl⟩
  · exact br_t h (br_t h (br_t rfl ⟨rfl, bk_rel hW hkn⟩))
  · have h0 : ¬ v1 < 0 := by
      rw [Int32.le_iff_toInt_le, nI_toInt (by omega)] at h
      rw [Int32.lt_iff_toInt_lt, bk_i0]
      omega
    exact br_f h0 (br_f (Int32.not_lt.mpr h) (br_f h0 (br_t h (br_t rfl ⟨rfl, bk_rel hW hkn⟩))))
  · refine br_f (nI_pos (by omega)) (br_t (nI_lt hi (by omega)) ⟨vp_in_nI (by omega) (by omega), ?_⟩)
    unfold wpY_letter
    dsimp only
    refine yk_is1 hl hi _ ?_
    exact br_f (by decide) ⟨vp_in_nI (by omega) (by omega), rfl, bk_rel hW hkn⟩
def bk_wr (w : Nat → Int32) : Nat → Int32
  | 0 => 0
  | k + 1 => bk_wr w k + bk_s w k
section
variable {n len : Nat} {kn : Int32} {w pa co ow ch cl j mn cf cy cm : Nat → Int32}
theorem xk_wr4 (hW : bk_W n len w) (post : Int32 → Prop) (h : post (bk_wr w len)) : ∀ d t, t + d = len → wX_writhe_4 post (nI n) (nI len) w pa co ow ch cl (d + 1) (bk_wr w t) (nI t) := by
  have hl := hW.2.2.1
  intro d
  induction d with
  | zero =>
    intro t ht
    have e : t = len := by omega
    rw [e]
    exact br_t (nI_le (by omega) (by omega)) h
  | succ d ih =>
    intro t ht
    exact br_f (nI_ge (by omega) (by omega)) (xk_sign hW (by omega) _ (nm_e (nm_r (nI_1 t) (ih (t + 1) (by omega)))))
theorem xk_wr (hW : bk_W n len w) (post : Int32 → Prop) (h : post (bk_wr w len)) : wpX_writhe post (nI n, nI len, w, pa, co, ow, ch, cl) :=
  ⟨len + 1, xk_wr4 hW post h len 0 (by omega)⟩
theorem yk_wr4 (hW : bk_W n len w) (post : Int32 → Prop) (h : post (bk_wr w len)) : ∀ d t, t + d = len → wY_writhe_4 post (nI n) (nI len) kn w j mn cf cy cm (d + 1) (bk_wr w t) (nI t) := by
  have hl := hW.2.2.1
  intro d
  induction d with
  | zero =>
    intro t ht
    have e : t = len := by omega
    rw [e]
    exact br_t (nI_le (by omega) (by omega)) h
  | succ d ih =>
    intro t ht
    refine br_f (nI_ge (by omega) (by omega)) ?_
    rw [nI_clamp (show t < 2 ^ 31 by omega)]
    exact ⟨vp_in_nI (by omega) (by omega), yk_sign hW (by omega) _ (nm_e (nm_r (nI_1 t) (ih (t + 1) (by omega))))⟩
theorem yk_wr (hW : bk_W n len w) (post : Int32 → Prop) (h : post (bk_wr w len)) : wpY_writhe post (nI n, nI len, kn, w, j, mn, cf, cy, cm) :=
  ⟨len + 1, yk_wr4 hW post h len 0 (by omega)⟩
end
theorem i_vc_writhe {k : Nat} {u : SX} {v : SY} (I : i_Rel k u v) (hk : k + 3 ≤ 1537) : wpX_writhe (fun r => wpY_writhe (fun r' => r' = r ∧ i_Rel (k + 3) u v) v) u := by
  obtain ⟨n, len, kn, w, pa, co, ow, ch, cl, j, mn, cf, cy, cm, hW, hkn, rfl, rfl⟩ := I
  exact xk_wr hW _ (yk_wr hW _ ⟨rfl, bk_rel hW hkn⟩)
theorem i_vc_loops {k : Nat} {u : SX} {v : SY} (I : i_Rel k u v) (hk : k + 3 ≤ 1537) (v1 : Int32) : wpX_loops (fun r u' => wpY_loops (fun r' v' => r' = r ∧ i_Rel (k + 3) u' v') v v1) u v1 := by
  obtain ⟨n, len, kn, w, pa, co, ow, ch, cl, j, mn, cf, cy, cm, hW, hkn, rfl, rfl⟩ := I
  exact xk_loops hW v1 _ (fun pa' => yk_loops hW v1 _ (fun j' => ⟨rfl, bk_rel hW hkn⟩))
end
section
def bk_mv (n : Nat) (w : Nat → Int32) (len : Nat) (v : Int32) : Nat → Nat
  | 0 => 0
  | s + 1 => bk_mv n w len v s + if nI (bk_Fs n w len (nI s)) = v then 1 else 0
theorem bk_mvl {n len l : Nat} {w : Nat → Int32} (hW : bk_W n len w) (hl : l < 16) : ∀ s, bk_mv n w len (nI l) s = bk_mn n w len l s := by
  intro s
  induction s with
  | zero => rfl
  | succ s ih =>
    have hF := bk_FsR hW (nI s)
    show bk_mv n w len (nI l) s + (if nI (bk_Fs n w len (nI s)) = nI l then 1 else 0) = bk_mn n w len l s + (if bk_Fs n w len (nI s) = l then 1 else 0)
    rw [ih]
    by_cases c : bk_Fs n w len (nI s) = l
    · rw [if_pos c, if_pos (by rw [c])]
    · rw [if_neg c, if_neg (fun q => c ((nI_eq (by omega) (by omega)).mp q))]
theorem bk_mv0 {n len : Nat} {w : Nat → Int32} {v : Int32} (hW : bk_W n len w) (hv : ∀ l, l < 16 → nI l ≠ v) : ∀ s, bk_mv n w len v s = 0 := by
  intro s
  induction s with
  | zero => rfl
  | succ s ih =>
    have hF := bk_FsR hW (nI s)
    show bk_mv n w len v s + (if nI (bk_Fs n w len (nI s)) = v then 1 else 0) = 0
    rw [ih, if_neg (hv _ (by omega))]
def bk_cv (n : Nat) (w : Nat → Int32) (len : Nat) (e : Int32) : Int32 := if -60 ≤ e.toInt ∧ e.toInt ≤ 60 then bk_cf n w len (e.toInt + 60).toNat else 0
theorem bk_sh {c : Nat} {e : Int32} (hc : c < 1000) (h1 : -(c : Int) ≤ e.toInt) (h2 : e.toInt ≤ 1000) : nI c + e = nI (e.toInt + c).toNat := by
  apply Int32.toInt_inj.mp
  rw [Int32.toInt_add, nI_toInt (by omega), nI_toInt (by omega), Int.bmod_eq_of_le (by omega) (by omega)]
  omega
theorem bk_im36 : (-36 : Int32).toInt = -36 := by decide
theorem bk_ip36 : (36 : Int32).toInt = 36 := by decide
theorem bk_im60 : (-60 : Int32).toInt = -60 := by decide
theorem bk_ip60 : (60 : Int32).toInt = 60 := by decide
section
variable {n len : Nat} {kn : Int32} {w pa co ow ch cl j mn cf cy cm : Nat → Int32}
theorem xk_cof (hW : bk_W n len w) (hr : bk_rc co (bk_bi n w len (2 ^ len))) (e : Int32) (post : Int32 → Prop) (h : post (bk_cv n w len e)) : wpX_coefficientOf post (nI n, nI len, w, pa, co, ow, ch, cl) e := by
  unfold bk_cv at h
  refine br_c (fun h1 => ?_) (fun h1 => br_c (fun h2 => ?_) (fun h2 => ?_))
  · rw [Int32.lt_iff_toInt_lt, bk_im36] at h1
    by_cases c : -60 ≤ e.toInt ∧ e.toInt ≤ 60
    · rw [if_pos c, bk_cfz hW (by omega)] at h
      exact h
    · rw [if_neg c] at h
      exact h
  · rw [Int32.lt_iff_toInt_lt, bk_im36] at h1
    rw [Int32.le_iff_toInt_le, bk_ip36] at h2
    have es : (36 : Int32) + e = nI (e.toInt + 36).toNat := bk_sh (c := 36) (by omega) (by omega) (by omega)
    rw [es, nI_clamp (by omega)]
    refine ⟨vp_in_nI (by omega) (by omega), ?_⟩
    rw [if_pos (by omega)] at h
    rw [hr _ (by omega), show (e.toInt + 36).toNat + 24 = (e.toInt + 60).toNat by omega]
    exact h
  · rw [Int32.le_iff_toInt_le, bk_ip36] at h2
    by_cases c : -60 ≤ e.toInt ∧ e.toInt ≤ 60
    · rw [if_pos c, bk_cfz hW (by omega)] at h
      exact h
    · rw [if_neg c] at h
      exact h
theorem yk_cof (hr : bk_rd cf (bk_bi n w len (2 ^ len))) (e : Int32) (post : Int32 → Prop) (h : post (bk_cv n w len e)) : wpY_coefficient post (nI n, nI len, kn, w, j, mn, cf, cy, cm) e := by
  unfold bk_cv at h
  refine br_c (fun h1 => ?_) (fun h1 => br_c (fun h2 => ?_) (fun h2 => ?_))
  · rw [Int32.lt_iff_toInt_lt, bk_im60] at h1
    rw [if_neg (by omega)] at h
    exact h
  · rw [Int32.lt_iff_toInt_lt, bk_im60] at h1
    rw [Int32.le_iff_toInt_le, bk_ip60] at h2
    have es : (60 : Int32) + e = nI (e.toInt + 60).toNat := bk_sh (c := 60) (by omega) (by omega) (by omega)
    rw [es, nI_clamp (by omega)]
    refine ⟨vp_in_nI (by omega) (by omega), ?_⟩
    rw [if_pos (by omega)] at h
    rw [hr _ (by omega)]
    exact h
  · rw [Int32.le_iff_toInt_le, bk_ip60] at h2
    rw [if_neg (by omega)] at h
    exact h
theorem xk_s4 (hW : bk_W n len w) (v : Int32) (post : Int32 → SX → Prop) (h : ∀ pa', post (nI (bk_mv n w len v (2 ^ len))) (nI n, nI len, w, pa', co, ow, ch, cl)) : ∀ d s pa, s + d = 2 ^ len → wX_states_4 post v (d + 1) (nI (bk_mv n w len v s)) (nI s) (nI n) (nI len) w pa co ow ch cl := by
  have hl := hW.2.2.1
  have hp := bk_p10 len (by omega)
  have hs := bk_pw len (by omega)
  intro d
  induction d with
  | zero =>
    intro s pa hd
    have e : s = 2 ^ len := by omega
    refine br_t ?_ ?_
    · rw [hs]
      exact nI_le (by omega) (by omega)
    · rw [e]
      exact h pa
  | succ d ih =>
    intro s pa hd
    have ec : bk_mv n w len v (s + 1) = bk_mv n w len v s + if nI (bk_Fs n w len (nI s)) = v then 1 else 0 := rfl
    refine br_f (by rw [hs]; exact nI_ge (by omega) (by omega)) (xk_loops hW (nI s) _ (fun pa' => ?_))
    have ih' := ih (s + 1) pa' (by omega)
    refine br_c (fun c => ?_) (fun c => ?_)
    · rw [ec, if_pos c] at ih'
      exact nm_r (nI_1 _) (nm_r (nI_1 s) ih')
    · rw [ec, if_neg c] at ih'
      exact nm_r (nI_1 s) ih'
end
theorem i_vc_states {k : Nat} {u : SX} {v : SY} (I : i_Rel k u v) (hk : k + 3 ≤ 1537) (v1 : Int32) : wpX_states (fun r u' => wpY_states (fun r' v' => r' = r ∧ i_Rel (k + 3) u' v') v v1) u v1 := by
  obtain ⟨n, len, kn, w, pa, co, ow, ch, cl, j, mn, cf, cy, cm, hW, hkn, rfl, rfl⟩ := I
  have hl := hW.2.2.1
  refine ⟨2 ^ len + 1, xk_s4 hW v1 _ (fun pa' => ?_) (2 ^ len) 0 pa (by omega)⟩
  unfold wpY_states
  dsimp only
  refine yk_work hW hkn _ (fun j' mn' cf' hm hr => ?_)
  have R : i_Rel (k + 3) (nI n, nI len, w, pa', co, ow, ch, cl) (nI n, nI len, 1, w, j', mn', cf', cy, cm) := bk_rel hW (Or.inr ⟨rfl, hm, hr⟩)
  rcases pk_ix v1 (n := 16) (by decide) with h | h | ⟨l, hl16, rfl⟩
  · refine br_t h ⟨?_, R⟩
    rw [bk_mv0 hW (fun l hl' q => by rw [← q] at h; exact nI_pos (by omega) h)]
    rfl
  · have h' : (16 : Int) ≤ v1.toInt := by
      rw [Int32.le_iff_toInt_le, nI_toInt (by decide)] at h
      exact h
    have h0 : ¬ v1 < 0 := by
      rw [Int32.lt_iff_toInt_lt, bk_i0]
      omega
    have h15 : ¬ v1 ≤ 15 := by
      rw [Int32.le_iff_toInt_le, show (15 : Int32).toInt = 15 by decide]
      omega
    refine br_f h0 (br_f h15 ⟨?_, R⟩)
    rw [bk_mv0 hW (fun l hl' q => by rw [← q, nI_toInt (by omega)] at h'; omega)]
    rfl
  · refine br_f (nI_pos (by omega)) (br_t (nI_le (b := 15) (by omega) (by decide)) ⟨vp_in_nI hl16 (by decide), ?_, R⟩)
    dsimp only
    rw [nI_clamp (by omega), hm l hl16, bk_mvl hW hl16]
theorem i_vc_bracket {k : Nat} {u : SX} {v : SY} (I : i_Rel k u v) (hk : k + 3 ≤ 1537) (v1 : Int32) : wpX_bracket (fun r u' => wpY_bracket (fun r' v' => r' = r ∧ i_Rel (k + 3) u' v') v v1) u v1 := by
  obtain ⟨n, len, kn, w, pa, co, ow, ch, cl, j, mn, cf, cy, cm, hW, hkn, rfl, rfl⟩ := I
  unfold wpX_bracket wpY_bracket
  dsimp only
  refine xk_make hW _ (fun pa' co' hr => ?_)
  refine xk_cof hW hr v1 _ ?_
  refine yk_work hW hkn _ (fun j' mn' cf' hm hr' => ?_)
  refine yk_cof hr' v1 _ ?_
  exact ⟨rfl, bk_rel hW (Or.inr ⟨rfl, hm, hr'⟩)⟩
theorem i_vc_invariant {k : Nat} {u : SX} {v : SY} (I : i_Rel k u v) (hk : k + 3 ≤ 1537) (v1 : Int32) : wpX_invariant (fun r u' => wpY_invariant (fun r' v' => r' = r ∧ i_Rel (k + 3) u' v') v v1) u v1 := by
  obtain ⟨n, len, kn, w, pa, co, ow, ch, cl, j, mn, cf, cy, cm, hW, hkn, rfl, rfl⟩ := I
  unfold wpX_invariant wpY_invariant
  dsimp only
  refine xk_make hW _ (fun pa' co' hr => ?_)
  refine xk_wr hW _ ?_
  refine xk_cof hW hr _ _ ?_
  refine ⟨by decide, br_c (fun c => ?_) (fun c => ?_)⟩
  · refine yk_work hW hkn _ (fun j' mn' cf' hm hr' => ?_)
    refine yk_wr hW _ ?_
    refine yk_cof hr' _ _ ?_
    exact ⟨by decide, br_t c ⟨rfl, bk_rel hW (Or.inr ⟨rfl, hm, hr'⟩)⟩⟩
  · refine yk_work hW hkn _ (fun j' mn' cf' hm hr' => ?_)
    refine yk_wr hW _ ?_
    refine yk_cof hr' _ _ ?_
    exact ⟨by decide, br_f c ⟨rfl, bk_rel hW (Or.inr ⟨rfl, hm, hr'⟩)⟩⟩
theorem bk_ek {x : Nat} (h : x ≤ 300) : (nI x - 60).toInt = (x : Int) - 60 := pk_sub_toInt (a := x) (b := 60) (by omega) (by decide)
theorem bk_ekc {n len x : Nat} {w : Nat → Int32} (h : x ≤ 120) : bk_cv n w len (nI x - 60) = bk_cf n w len x := by
  unfold bk_cv
  rw [bk_ek (by omega), if_pos (by omega), show ((x : Int) - 60 + 60).toNat = x by omega]
theorem bk_eku (x : Nat) : nI x - 60 + 1 = nI (x + 1) - 60 := by
  rw [← nI_1]
  grind
theorem bk_ekd (x : Nat) : nI (x + 1) - 60 + (-1) = nI x - 60 := by
  rw [← nI_1]
  grind
theorem bk_ek4 (x : Nat) : nI x - 60 + 4 = nI (x + 4) - 60 := by
  rw [← nI_add x 4]
  show nI x - 60 + 4 = nI x + 4 - 60
  grind
def bk_lh (n : Nat) (w : Nat → Int32) (len lo hi : Nat) : Prop := 24 ≤ lo ∧ lo ≤ hi ∧ hi ≤ 96 ∧ bk_cf n w len lo ≠ 0 ∧ bk_cf n w len hi ≠ 0 ∧ (∀ x, x < lo → bk_cf n w len x = 0) ∧ (∀ x, hi < x → bk_cf n w len x = 0)
section
variable {n len lo hi : Nat} {kn : Int32} {w pa co ow ch cl j mn cf cy cm : Nat → Int32}
theorem xk_lp2 (hr : bk_rc co (bk_bi n w len (2 ^ len))) (H : bk_lh n w len lo hi) (post : Int32 → Prop) (h : post (nI (lo - 24))) : ∀ d y, y + d = lo - 24 → wX_leastPower_2 post (nI n) (nI len) w pa co ow ch cl (d + 1) (nI y) := by
  obtain ⟨l1, l2, l3, l4, l5, l6, l7⟩ := H
  intro d
  induction d with
  | zero =>
    intro y hy
    have e : y = lo - 24 := by omega
    refine br_f (nI_ge (b := 73) (by omega) (by decide)) ⟨vp_in_nI (by omega) (by decide), ?_⟩
    rw [nI_clamp (show y < 2 ^ 31 by omega), hr y (by omega), show y + 24 = lo by omega]
    refine br_f l4 ?_
    rw [e]
    exact h
  | succ d ih =>
    intro y hy
    refine br_f (nI_ge (b := 73) (by omega) (by decide)) ⟨vp_in_nI (by omega) (by decide), ?_⟩
    rw [nI_clamp (show y < 2 ^ 31 by omega), hr y (by omega)]
    exact br_t (l6 (y + 24) (by omega)) (nm_r (nI_1 y) (ih (y + 1) (by omega)))
theorem xk_lp (hr : bk_rc co (bk_bi n w len (2 ^ len))) (H : bk_lh n w len lo hi) (post : Int32 → Prop) (h : post (nI (lo - 24))) : wpX_leastPower post (nI n, nI len, w, pa, co, ow, ch, cl) :=
  ⟨lo - 24 + 1, xk_lp2 hr H post h (lo - 24) 0 (by omega)⟩
theorem xk_s13 (hr : bk_rc co (bk_bi n w len (2 ^ len))) (H : bk_lh n w len lo hi) (x1 : Int32) (post : Int32 → SX → Prop) (h : post (nI (hi - 24) - x1) (nI n, nI len, w, pa, co, ow, ch, cl)) : ∀ d y g, y + d = 73 → (hi - 24 < y → g = nI (hi - 24)) → wX_spread_13 post x1 (nI n) (nI len) w pa co ow ch cl (d + 1) g (nI y) := by
  obtain ⟨l1, l2, l3, l4, l5, l6, l7⟩ := H
  intro d
  induction d with
  | zero =>
    intro y g hy hg
    refine br_t (nI_le (a := 73) (by omega) (by omega)) ?_
    rw [hg (by omega)]
    exact h
  | succ d ih =>
    intro y g hy hg
    refine br_f (nI_ge (b := 73) (by omega) (by decide)) ⟨vp_in_nI (by omega) (by decide), ?_⟩
    rw [nI_clamp (show y < 2 ^ 31 by omega), hr y (by omega)]
    refine br_c (fun c => nm_r (nI_1 y) (ih (y + 1) g (by omega) (fun q => hg ?_))) (fun c => nm_r (nI_1 y) (ih (y + 1) (nI y) (by omega) (fun q => ?_)))
    · by_cases e : y = hi - 24
      · rw [show y + 24 = hi by omega] at c
        exact absurd c l5
      · omega
    · by_cases e : y = hi - 24
      · rw [e]
      · exact absurd (l7 (y + 24) (by omega)) c
theorem yk_lo3 (hr : bk_rd cf (bk_bi n w len (2 ^ len))) (H : bk_lh n w len lo hi) (post : Int32 → Prop) (h : post (nI lo - 60)) : ∀ d x, x + d = lo → wY_lowest_3 post (nI n) (nI len) kn w j mn cf cy cm (d + 1) (nI x - 60) := by
  obtain ⟨l1, l2, l3, l4, l5, l6, l7⟩ := H
  intro d
  induction d with
  | zero =>
    intro x hx
    have e : x = lo := by omega
    subst e
    refine br_f (by rw [Int32.le_iff_toInt_le, bk_ek (by omega), bk_ip60]; omega) (yk_cof hr _ _ ?_)
    rw [bk_ekc (by omega)]
    exact br_f l4 h
  | succ d ih =>
    intro x hx
    refine br_f (by rw [Int32.le_iff_toInt_le, bk_ek (by omega), bk_ip60]; omega) (yk_cof hr _ _ ?_)
    rw [bk_ekc (by omega)]
    exact br_t (l6 x (by omega)) (nm_r (bk_eku x) (ih (x + 1) (by omega)))
theorem yk_lo (hr : bk_rd cf (bk_bi n w len (2 ^ len))) (H : bk_lh n w len lo hi) (post : Int32 → Prop) (h : post (nI lo - 60)) : wpY_lowest post (nI n, nI len, kn, w, j, mn, cf, cy, cm) := by
  have m := yk_lo3 (kn := kn) (j := j) (mn := mn) (cy := cy) (cm := cm) hr H post h lo 0 (by omega)
  rw [show nI 0 - 60 = -60 by decide] at m
  exact ⟨lo + 1, m⟩
theorem yk_s7 (hr : bk_rd cf (bk_bi n w len (2 ^ len))) (H : bk_lh n w len lo hi) (post : Int32 → SY → Prop) (h : wY_spread_27 post (nI hi - 60) (nI n) (nI len) kn w j mn cf cy cm) : ∀ d x, hi + d = x → x ≤ 120 → wY_spread_7 post (nI n) (nI len) kn w j mn cf cy cm (d + 1) (nI x - 60) := by
  obtain ⟨l1, l2, l3, l4, l5, l6, l7⟩ := H
  intro d
  induction d with
  | zero =>
    intro x hx hx2
    have e : x = hi := by omega
    subst e
    refine br_f (by rw [Int32.le_iff_toInt_le, bk_ek (by omega), bk_im60]; omega) (yk_cof hr _ _ ?_)
    rw [bk_ekc (by omega)]
    exact br_f l5 h
  | succ d ih =>
    intro x hx hx2
    obtain ⟨y, rfl⟩ : ∃ y, x = y + 1 := ⟨x - 1, by omega⟩
    refine br_f (by rw [Int32.le_iff_toInt_le, bk_ek (by omega), bk_im60]; omega) (yk_cof hr _ _ ?_)
    rw [bk_ekc (by omega)]
    exact br_t (l7 (y + 1) (by omega)) (nm_r (bk_ekd y) (ih y (by omega) (by omega)))
end
theorem i_vc_spread {k : Nat} {u : SX} {v : SY} (I : i_Rel k u v) (hk : k + 3 ≤ 1537) : wpX_spread (fun r u' => wpY_spread (fun r' v' => r' = r ∧ i_Rel (k + 3) u' v') v) u := by
  obtain ⟨n, len, kn, w, pa, co, ow, ch, cl, j, mn, cf, cy, cm, hW, hkn, rfl, rfl⟩ := I
  obtain ⟨lo, hi, H⟩ := bk_cflh hW
  have H' : bk_lh n w len lo hi := H
  obtain ⟨l1, l2, l3, -⟩ := H
  unfold wpX_spread wpY_spread
  dsimp only
  refine xk_make hW _ (fun pa' co' hr => ?_)
  refine xk_lp hr H' _ ?_
  refine ⟨73 - (lo - 24) + 1, xk_s13 hr H' _ _ ?_ (73 - (lo - 24)) (lo - 24) _ (by omega) (fun q => absurd q (by omega))⟩
  refine yk_work hW hkn _ (fun j' mn' cf' hm hr' => ?_)
  have m := yk_s7 (kn := 1) (j := j') (mn := mn') (cy := cy) (cm := cm) hr' H' (fun r' v' => r' = nI (hi - 24) - nI (lo - 24) ∧ i_Rel (k + 3) (nI n, nI len, w, pa', co', ow, ch, cl) v') (by
    unfold wY_spread_27
    refine yk_lo hr' H' _ ?_
    refine ⟨?_, bk_rel hW (Or.inr ⟨rfl, hm, hr'⟩)⟩
    rw [pk_sub (by omega), show hi - 24 - (lo - 24) = hi - lo by omega, ← pk_sub (a := hi) (b := lo) l2]
    grind) (120 - hi) 120 (by omega) (by omega)
  rw [show nI 120 - 60 = 60 by decide] at m
  exact ⟨120 - hi + 1, m⟩
def bk_sg : Nat → Int32
  | 0 => 1
  | t + 1 => -bk_sg t
def bk_dt (c : Nat → Int32) (lo : Nat) : Nat → Int32
  | 0 => 0
  | t + 1 => bk_dt c lo t + bk_sg t * c (lo + 4 * t)
theorem bk_dts {c : Nat → Int32} {lo : Nat} (hz : ∀ x, 96 < x → c x = 0) {t : Nat} (ht : 97 ≤ lo + 4 * t) : ∀ d, bk_dt c lo (t + d) = bk_dt c lo t := by
  intro d
  induction d with
  | zero => rfl
  | succ d ih =>
    show bk_dt c lo (t + d) + bk_sg (t + d) * c (lo + 4 * (t + d)) = _
    rw [ih, hz _ (by omega), Int32.mul_zero, Int32.add_zero]
theorem bk_dtD {c : Nat → Int32} {lo : Nat} (hz : ∀ x, 96 < x → c x = 0) {t : Nat} (ht : 97 ≤ lo + 4 * t) (h30 : t ≤ 30) : bk_dt c lo t = bk_dt c lo 30 := by
  have h := bk_dts hz ht (30 - t)
  rw [show t + (30 - t) = 30 by omega] at h
  exact h.symm
section
variable {n len lo hi : Nat} {kn : Int32} {w pa co ow ch cl j mn cf cy cm : Nat → Int32}
theorem xk_d13 (hr : bk_rc co (bk_bi n w len (2 ^ len))) (H : bk_lh n w len lo hi) (post : Int32 → SX → Prop) (h : (0 ≤ bk_dt (bk_cf n w len) lo 30 → post (bk_dt (bk_cf n w len) lo 30) (nI n, nI len, w, pa, co, ow, ch, cl)) ∧ (¬ 0 ≤ bk_dt (bk_cf n w len) lo 30 → post (-(bk_dt (bk_cf n w len) lo 30)) (nI n, nI len, w, pa, co, ow, ch, cl))) : ∀ d t, t + d = 30 → wX_determinant_13 post (nI n) (nI len) w pa co ow ch cl (d + 1) (bk_dt (bk_cf n w len) lo t) (bk_sg t) (nI (lo - 24 + 4 * t)) := by
  obtain ⟨l1, l2, l3, l4, l5, l6, l7⟩ := H
  have hz : ∀ x, 96 < x → bk_cf n w len x = 0 := fun x hx => l7 x (by omega)
  intro d
  induction d with
  | zero =>
    intro t ht
    refine br_t (nI_le (a := 73) (by omega) (by omega)) ?_
    rw [show t = 30 by omega]
    exact h
  | succ d ih =>
    intro t ht
    by_cases c : 97 ≤ lo + 4 * t
    · refine br_t (nI_le (a := 73) (by omega) (by omega)) ?_
      rw [bk_dtD hz c (by omega)]
      exact h
    · refine br_f (nI_ge (b := 73) (by omega) (by decide)) ⟨vp_in_nI (by omega) (by decide), ?_⟩
      rw [nI_clamp (show lo - 24 + 4 * t < 2 ^ 31 by omega), hr _ (by omega), show lo - 24 + 4 * t + 24 = lo + 4 * t by omega]
      refine nm_e (nm_e (nm_r (nI_add (lo - 24 + 4 * t) 4) ?_))
      rw [show lo - 24 + 4 * t + 4 = lo - 24 + 4 * (t + 1) by omega]
      exact ih (t + 1) (by omega)
theorem yk_d13 (hr : bk_rd cf (bk_bi n w len (2 ^ len))) (H : bk_lh n w len lo hi) (post : Int32 → SY → Prop) (h : (0 ≤ bk_dt (bk_cf n w len) lo 30 → post (bk_dt (bk_cf n w len) lo 30) (nI n, nI len, kn, w, j, mn, cf, cy, cm)) ∧ (¬ 0 ≤ bk_dt (bk_cf n w len) lo 30 → post (-(bk_dt (bk_cf n w len) lo 30)) (nI n, nI len, kn, w, j, mn, cf, cy, cm))) : ∀ d t, t + d = 30 → wY_determinant_13 post (nI n) (nI len) kn w j mn cf cy cm (d + 1) (bk_dt (bk_cf n w len) lo t) (bk_sg t) (nI (lo + 4 * t) - 60) := by
  obtain ⟨l1, l2, l3, l4, l5, l6, l7⟩ := H
  have hz : ∀ x, 96 < x → bk_cf n w len x = 0 := fun x hx => l7 x (by omega)
  intro d
  induction d with
  | zero =>
    intro t ht
    refine br_t ?_ ?_
    · rw [Int32.lt_iff_toInt_lt, bk_ek (by omega), bk_ip60]
      omega
    · rw [show t = 30 by omega]
      exact h
  | succ d ih =>
    intro t ht
    by_cases c : 121 ≤ lo + 4 * t
    · refine br_t ?_ ?_
      · rw [Int32.lt_iff_toInt_lt, bk_ek (by omega), bk_ip60]
        omega
      · rw [bk_dtD hz (by omega) (by omega)]
        exact h
    · refine br_f (by rw [Int32.lt_iff_toInt_lt, bk_ek (by omega), bk_ip60]; omega) (yk_cof hr _ _ ?_)
      rw [bk_ekc (by omega)]
      refine nm_e (nm_e (nm_r (bk_ek4 (lo + 4 * t)) ?_))
      rw [show lo + 4 * t + 4 = lo + 4 * (t + 1) by omega]
      exact ih (t + 1) (by omega)
end
theorem i_vc_determinant {k : Nat} {u : SX} {v : SY} (I : i_Rel k u v) (hk : k + 3 ≤ 1537) : wpX_determinant (fun r u' => wpY_determinant (fun r' v' => r' = r ∧ i_Rel (k + 3) u' v') v) u := by
  obtain ⟨n, len, kn, w, pa, co, ow, ch, cl, j, mn, cf, cy, cm, hW, hkn, rfl, rfl⟩ := I
  obtain ⟨lo, hi, H⟩ := bk_cflh hW
  have H' : bk_lh n w len lo hi := H
  unfold wpX_determinant wpY_determinant
  dsimp only
  refine xk_make hW _ (fun pa' co' hr => ?_)
  refine xk_lp hr H' _ ?_
  refine ⟨31, xk_d13 hr H' _ (br_c (fun c => ?_) (fun c => ?_)) 30 0 (by omega)⟩
  · refine yk_work hW hkn _ (fun j' mn' cf' hm hr' => ?_)
    refine yk_lo hr' H' _ ?_
    exact ⟨31, yk_d13 hr' H' _ (br_t c ⟨rfl, bk_rel hW (Or.inr ⟨rfl, hm, hr'⟩)⟩) 30 0 (by omega)⟩
  · refine yk_work hW hkn _ (fun j' mn' cf' hm hr' => ?_)
    refine yk_lo hr' H' _ ?_
    exact ⟨31, yk_d13 hr' H' _ (br_f c ⟨rfl, bk_rel hW (Or.inr ⟨rfl, hm, hr'⟩)⟩) 30 0 (by omega)⟩
end
section
section
variable {n len : Nat} {kn : Int32} {w pa co ow ch cl j mn cf cy cm : Nat → Int32}
theorem xk_en20 (hW : bk_W n len w) {p : Nat} (hp : p < n) (post : Int32 → Prop) (h : post (nI (bk_en (bk_z w) p len))) : ∀ d t, t + d = len → wX_ends_20 post (nI n) (nI len) w pa co ow ch cl (d + 1) (nI (bk_en (bk_z w) p t)) (nI t) := by
  have h4 := hW.2.1
  have hl := hW.2.2.1
  intro d
  induction d with
  | zero =>
    intro t ht
    have e : t = len := by omega
    rw [e]
    exact br_t (nI_le (by omega) (by omega)) h
  | succ d ih =>
    intro t ht
    have ih' := ih (t + 1) (by omega)
    have hz := bk_Wz hW t (by omega)
    have hb := bk_enl hW.1 h4 (bk_Wz hW) hp t (by omega)
    have es : bk_en (bk_z w) p (t + 1) = if bk_en (bk_z w) p t = bk_z w t then bk_z w t - 1 else if bk_en (bk_z w) p t + 1 = bk_z w t then bk_z w t else bk_en (bk_z w) p t := rfl
    refine br_f (nI_ge (by omega) (by omega)) (xk_right hW (by omega) _ ?_)
    refine pk_eq (bk_en (bk_z w) p t) (bk_z w t) (fun e => ?_) (fun e => pk_eq (bk_en (bk_z w) p t) (bk_z w t - 1) (fun e2 => ?_) (fun e2 => ?_) rfl (bk_pd hz.1) (by omega) (by omega)) rfl rfl (by omega) (by omega)
    · rw [es, if_pos e] at ih'
      exact nm_r (bk_pd hz.1) (nm_r (nI_1 t) ih')
    · rw [es, if_neg e, if_pos (by omega)] at ih'
      exact nm_r (nI_1 t) ih'
    · rw [es, if_neg e, if_neg (by omega)] at ih'
      exact nm_r (nI_1 t) ih'
theorem xk_ends (hW : bk_W n len w) {p : Nat} (hp : p < n) (post : Int32 → Prop) (h : post (nI (bk_en (bk_z w) p len))) : wpX_ends post (nI n, nI len, w, pa, co, ow, ch, cl) (nI p) := by
  have h4 := hW.2.1
  exact br_f (nI_pos (by omega)) (br_t (nI_lt hp (by omega)) ⟨len + 1, xk_en20 hW hp post h len 0 (by omega)⟩)
theorem yk_en4 (hW : bk_W n len w) {p : Nat} (hp : p < n) (post : Int32 → Prop) (h : post (nI (bk_en (bk_z w) p len))) : ∀ d t, t + d = len → wY_end_4 post (nI n) (nI len) kn w j mn cf cy cm (d + 1) (nI (bk_en (bk_z w) p t)) (nI t) := by
  have h4 := hW.2.1
  have hl := hW.2.2.1
  intro d
  induction d with
  | zero =>
    intro t ht
    have e : t = len := by omega
    rw [e]
    exact br_t (nI_le (by omega) (by omega)) h
  | succ d ih =>
    intro t ht
    have ih' := ih (t + 1) (by omega)
    have hz := bk_Wz hW t (by omega)
    have hb := bk_enl hW.1 h4 (bk_Wz hW) hp t (by omega)
    have es : bk_en (bk_z w) p (t + 1) = if bk_en (bk_z w) p t = bk_z w t then bk_z w t - 1 else if bk_en (bk_z w) p t + 1 = bk_z w t then bk_z w t else bk_en (bk_z w) p t := rfl
    refine br_f (nI_ge (by omega) (by omega)) ?_
    rw [nI_clamp (show t < 2 ^ 31 by omega)]
    refine ⟨vp_in_nI (by omega) (by omega), yk_size hW (by omega) _ ?_⟩
    refine pk_eq (bk_en (bk_z w) p t) (bk_z w t) (fun e => ?_) (fun e => pk_eq (bk_en (bk_z w) p t) (bk_z w t - 1) (fun e2 => ?_) (fun e2 => ?_) rfl (bk_pd hz.1) (by omega) (by omega)) rfl rfl (by omega) (by omega)
    · rw [es, if_pos e] at ih'
      exact nm_r (bk_pd hz.1) (nm_r (nI_1 t) ih')
    · rw [es, if_neg e, if_pos (by omega)] at ih'
      exact nm_r (nI_1 t) ih'
    · rw [es, if_neg e, if_neg (by omega)] at ih'
      exact nm_r (nI_1 t) ih'
theorem yk_end (hW : bk_W n len w) {p : Nat} (hp : p < n) (post : Int32 → Prop) (h : post (nI (bk_en (bk_z w) p len))) : wpY_end post (nI n, nI len, kn, w, j, mn, cf, cy, cm) (nI p) :=
  ⟨len + 1, yk_en4 hW hp post h len 0 (by omega)⟩
theorem yk_isp {p : Nat} (h4 : n ≤ 4) (hp : p < n) (post : Int32 → Prop) (h : post 1) : wpY_isPosition post (nI n, nI len, kn, w, j, mn, cf, cy, cm) (nI p) :=
  br_f (nI_pos (by omega)) (br_f (nI_ge hp (by omega)) h)
theorem xk_c7 (hW : bk_W n len w) {p : Nat} (hp : p < n) (post : Int32 → Prop) (h : post (nI (bk_co (bk_pl n (bk_z w) len) p n).2)) : ∀ d t, t + d = n → wX_componentOf_7 post (nI n) (nI len) w pa co ow ch cl (d + 1) (nI (bk_co (bk_pl n (bk_z w) len) p t).2) (nI (bk_co (bk_pl n (bk_z w) len) p t).1) (nI t) := by
  have h4 := hW.2.1
  have hf := (bk_ple hW.1 h4 _ (bk_pin hW.1 h4 (bk_Wz hW) len (Nat.le_refl _))).2
  intro d
  induction d with
  | zero =>
    intro t ht
    have e : t = n := by omega
    rw [e]
    exact br_t (nI_le (by omega) (by omega)) h
  | succ d ih =>
    intro t ht
    have ih' := ih (t + 1) (by omega)
    have hb := bk_con hf hp t
    have hg := hf _ hb.1
    have eg : bk_g (bk_pl n (bk_z w) len) (bk_co (bk_pl n (bk_z w) len) p t).1 = bk_en (bk_z w) (bk_co (bk_pl n (bk_z w) len) p t).1 len := bk_plg hb.1
    have e1 : (bk_co (bk_pl n (bk_z w) len) p (t + 1)).1 = bk_g (bk_pl n (bk_z w) len) (bk_co (bk_pl n (bk_z w) len) p t).1 := rfl
    have e2 : (bk_co (bk_pl n (bk_z w) len) p (t + 1)).2 = min (bk_g (bk_pl n (bk_z w) len) (bk_co (bk_pl n (bk_z w) len) p t).1) (bk_co (bk_pl n (bk_z w) len) p t).2 := rfl
    rw [e1, e2] at ih'
    refine br_f (nI_ge (by omega) (by omega)) (xk_ends hW hb.1 _ ?_)
    rw [← eg]
    refine pk_le (bk_co (bk_pl n (bk_z w) len) p t).2 (bk_g (bk_pl n (bk_z w) len) (bk_co (bk_pl n (bk_z w) len) p t).1) (fun c => ?_) (fun c => ?_) rfl rfl (by omega) (by omega)
    · rw [Nat.min_eq_right c] at ih'
      exact nm_r (nI_1 t) ih'
    · rw [Nat.min_eq_left (by omega)] at ih'
      exact nm_r (nI_1 t) ih'
theorem xk_comp (hW : bk_W n len w) {p : Nat} (hp : p < n) (post : Int32 → Prop) (h : post (nI (bk_co (bk_pl n (bk_z w) len) p n).2)) : wpX_componentOf post (nI n, nI len, w, pa, co, ow, ch, cl) (nI p) :=
  ⟨n + 1, xk_c7 hW hp post h n 0 (by omega)⟩
theorem yk_g35 (hW : bk_W n len w) {L : List Nat} {r : Nat} (hL : L.length = n) (hLb : ∀ e, e < n → bk_g L e < n) (post : SY → Prop) (J : Int32 → (Nat → Int32) → (Nat → Int32) → (Nat → Int32) → (Nat → Int32) → (Nat → Int32) → (Nat → Int32) → Prop) (h : ∀ cm', bk_rp n cm' (bk_gi (bk_pl n (bk_z w) len) L n) → J (nI (r + 1)) w j mn cf cy cm') : ∀ d p cm, p + d = n → bk_rp n cm (bk_gi (bk_pl n (bk_z w) len) L p) → wY_group_35 post J (nI r) (nI n) (nI len) kn (d + 1) (nI p) w j mn cf cy cm := by
  have h4 := hW.2.1
  have hf := (bk_ple hW.1 h4 _ (bk_pin hW.1 h4 (bk_Wz hW) len (Nat.le_refl _))).2
  intro d
  induction d with
  | zero =>
    intro p cm hp hr
    have e : p = n := by omega
    rw [e] at hr
    exact br_t (nI_le (by omega) (by omega)) (nm_r (nI_1 r) (h cm hr))
  | succ d ih =>
    intro p cm hp hr
    obtain ⟨gl, gb⟩ := bk_gil hf hL hLb p (by omega)
    have eg : bk_g (bk_pl n (bk_z w) len) p = bk_en (bk_z w) p len := bk_plg (by omega)
    have hq := hf p (by omega)
    have bp := gb p (by omega)
    have bq := gb _ hq
    have fin : ∀ z, z = min (bk_g (bk_gi (bk_pl n (bk_z w) len) L p) p) (bk_g (bk_gi (bk_pl n (bk_z w) len) L p) (bk_g (bk_pl n (bk_z w) len) p)) → wY_group_79 post J (wY_group_35 post J (nI r) (nI n) (nI len) kn (d + 1)) (nI r) (nI p) (nI (bk_g (bk_pl n (bk_z w) len) p)) (nI z) (nI n) (nI len) kn w j mn cf cy cm := by
      intro z ez
      unfold wY_group_79
      rw [nI_clamp (show p < 2 ^ 31 by omega), nI_clamp (show bk_g (bk_pl n (bk_z w) len) p < 2 ^ 31 by omega)]
      refine ⟨vp_in_nI (by omega) (by omega), ?_⟩
      intro a ea
      refine ⟨vp_in_nI (by omega) (by omega), ?_⟩
      intro b eb
      subst ea
      subst eb
      refine nm_r (nI_1 p) (ih (p + 1) _ (by omega) ?_)
      rw [ez]
      exact bk_rps (bk_rps hr (by omega)) (by rw [List.length_set]; omega)
    refine br_f (nI_ge (by omega) (by omega)) (yk_end hW (by omega) _ ?_)
    rw [← eg]
    rw [nI_clamp (show p < 2 ^ 31 by omega), nI_clamp (show bk_g (bk_pl n (bk_z w) len) p < 2 ^ 31 by omega), hr p (by omega), hr _ hq]
    refine ⟨vp_in_nI (by omega) (by omega), vp_in_nI (by omega) (by omega), pk_le (bk_g (bk_gi (bk_pl n (bk_z w) len) L p) (bk_g (bk_pl n (bk_z w) len) p)) (bk_g (bk_gi (bk_pl n (bk_z w) len) L p) p) (fun c => ⟨vp_in_nI (by omega) (by omega), fin _ ?_⟩) (fun c => ⟨vp_in_nI (by omega) (by omega), fin _ ?_⟩) rfl rfl (by omega) (by omega)⟩
    · exact (Nat.min_eq_right c).symm
    · exact (Nat.min_eq_left (by omega)).symm
theorem yk_g25 (hW : bk_W n len w) (post : SY → Prop) (h : ∀ cm', bk_rp n cm' (bk_gr n (bk_pl n (bk_z w) len) n) → post (nI n, nI len, kn, w, j, mn, cf, cy, cm')) : ∀ d r cm, r + d = n → bk_rp n cm (bk_gr n (bk_pl n (bk_z w) len) r) → wY_group_25 post (nI n) (nI len) kn (d + 1) (nI r) w j mn cf cy cm := by
  have h4 := hW.2.1
  have hf := (bk_ple hW.1 h4 _ (bk_pin hW.1 h4 (bk_Wz hW) len (Nat.le_refl _))).2
  intro d
  induction d with
  | zero =>
    intro r cm hr hc
    have e : r = n := by omega
    rw [e] at hc
    exact br_t (nI_le (by omega) (by omega)) (h cm hc)
  | succ d ih =>
    intro r cm hr hc
    obtain ⟨gl, gb⟩ := bk_grl hf r
    exact br_f (nI_ge (by omega) (by omega)) ⟨n + 1, yk_g35 hW gl gb post _ (fun cm' hc' => ih (r + 1) cm' (by omega) hc') n 0 cm (by omega) hc⟩
theorem yk_g2 (hW : bk_W n len w) (post : SY → Prop) (h : ∀ cm', bk_rp n cm' (bk_gr n (bk_pl n (bk_z w) len) n) → post (nI n, nI len, kn, w, j, mn, cf, cy, cm')) : ∀ d p cm, p + d = n → (∀ x, x < p → cm x = nI x) → wY_group_2 post (nI n) (nI len) kn (d + 1) (nI p) w j mn cf cy cm := by
  have h4 := hW.2.1
  intro d
  induction d with
  | zero =>
    intro p cm hp hc
    refine br_t (nI_le (by omega) (by omega)) ⟨n + 1, yk_g25 hW post h n 0 cm (by omega) (fun x hx => ?_)⟩
    rw [show bk_gr n (bk_pl n (bk_z w) len) 0 = List.range n from rfl, bk_gr0 hx]
    exact hc x (by omega)
  | succ d ih =>
    intro p cm hp hc
    refine br_f (nI_ge (by omega) (by omega)) ⟨vp_in_nI (by omega) (by omega), ?_⟩
    intro a ea
    rw [nI_clamp (by omega)] at ea
    subst ea
    refine nm_r (nI_1 p) (ih (p + 1) _ (by omega) ?_)
    intro y hy
    by_cases e : y = p
    · rw [e]
      exact pk_us
    · rw [pk_un e]
      exact hc y (by omega)
theorem yk_group (hW : bk_W n len w) (post : SY → Prop) (h : ∀ cm', (∀ p, p < n → cm' p = nI (bk_co (bk_pl n (bk_z w) len) p n).2) → post (nI n, nI len, kn, w, j, mn, cf, cy, cm')) : wpY_group post (nI n, nI len, kn, w, j, mn, cf, cy, cm) := by
  have h4 := hW.2.1
  have hP := bk_pin hW.1 h4 (bk_Wz hW) len (Nat.le_refl _)
  refine ⟨n + 1, yk_g2 hW post (fun cm' hc => h cm' (fun p hp => ?_)) n 0 cm (by omega) (fun x hx => absurd hx (by omega))⟩
  rw [(bk_cog hW.1 h4 _ hP p hp).1]
  exact hc p hp
theorem xk_cn4 (hW : bk_W n len w) (post : Int32 → Prop) (h : post (nI (bk_ct (fun p => decide ((bk_co (bk_pl n (bk_z w) len) p n).2 = p)) n))) : ∀ d p, p + d = n → wX_components_4 post (nI n) (nI len) w pa co ow ch cl (d + 1) (nI (bk_ct (fun p => decide ((bk_co (bk_pl n (bk_z w) len) p n).2 = p)) p)) (nI p) := by
  have h4 := hW.2.1
  have hP := bk_pin hW.1 h4 (bk_Wz hW) len (Nat.le_refl _)
  intro d
  induction d with
  | zero =>
    intro p hp
    have e : p = n := by omega
    rw [e]
    exact br_t (nI_le (by omega) (by omega)) h
  | succ d ih =>
    intro p hp
    have ih' := ih (p + 1) (by omega)
    have hc := (bk_cog hW.1 h4 _ hP p (by omega)).2
    have ec : bk_ct (fun p => decide ((bk_co (bk_pl n (bk_z w) len) p n).2 = p)) (p + 1) = bk_ct (fun p => decide ((bk_co (bk_pl n (bk_z w) len) p n).2 = p)) p + if decide ((bk_co (bk_pl n (bk_z w) len) p n).2 = p) then 1 else 0 := rfl
    refine br_f (nI_ge (by omega) (by omega)) (xk_comp hW (by omega) _ ?_)
    refine pk_eq (bk_co (bk_pl n (bk_z w) len) p n).2 p (fun e => ?_) (fun e => ?_) rfl rfl (by omega) (by omega)
    · rw [ec, decide_eq_true e, if_pos rfl] at ih'
      exact nm_r (nI_1 _) (nm_r (nI_1 p) ih')
    · rw [ec, decide_eq_false e, if_neg (by decide)] at ih'
      exact nm_r (nI_1 p) ih'
theorem yk_cn8 (hW : bk_W n len w) (hc : ∀ p, p < n → cm p = nI (bk_co (bk_pl n (bk_z w) len) p n).2) (post : Int32 → SY → Prop) (h : post (nI (bk_ct (fun p => decide ((bk_co (bk_pl n (bk_z w) len) p n).2 = p)) n)) (nI n, nI len, kn, w, j, mn, cf, cy, cm)) : ∀ d p, p + d = n → wY_components_8 post (nI n) (nI len) kn w j mn cf cy cm (d + 1) (nI (bk_ct (fun p => decide ((bk_co (bk_pl n (bk_z w) len) p n).2 = p)) p)) (nI p) := by
  have h4 := hW.2.1
  have hP := bk_pin hW.1 h4 (bk_Wz hW) len (Nat.le_refl _)
  intro d
  induction d with
  | zero =>
    intro p hp
    have e : p = n := by omega
    rw [e]
    exact br_t (nI_le (by omega) (by omega)) h
  | succ d ih =>
    intro p hp
    have ih' := ih (p + 1) (by omega)
    have hb := (bk_cog hW.1 h4 _ hP p (by omega)).2
    have ec : bk_ct (fun p => decide ((bk_co (bk_pl n (bk_z w) len) p n).2 = p)) (p + 1) = bk_ct (fun p => decide ((bk_co (bk_pl n (bk_z w) len) p n).2 = p)) p + if decide ((bk_co (bk_pl n (bk_z w) len) p n).2 = p) then 1 else 0 := rfl
    refine br_f (nI_ge (by omega) (by omega)) ⟨vp_in_nI (by omega) (by omega), ?_⟩
    rw [nI_clamp (show p < 2 ^ 31 by omega), hc p (by omega)]
    refine pk_eq (bk_co (bk_pl n (bk_z w) len) p n).2 p (fun e => ?_) (fun e => ?_) rfl rfl (by omega) (by omega)
    · rw [ec, decide_eq_true e, if_pos rfl] at ih'
      exact nm_r (nI_1 _) (nm_r (nI_1 p) ih')
    · rw [ec, decide_eq_false e, if_neg (by decide)] at ih'
      exact nm_r (nI_1 p) ih'
end
theorem i_vc_components {k : Nat} {u : SX} {v : SY} (I : i_Rel k u v) (hk : k + 3 ≤ 1537) : wpX_components (fun r => wpY_components (fun r' v' => r' = r ∧ i_Rel (k + 3) u v') v) u := by
  obtain ⟨n, len, kn, w, pa, co, ow, ch, cl, j, mn, cf, cy, cm, hW, hkn, rfl, rfl⟩ := I
  refine ⟨n + 1, xk_cn4 hW _ ?_ n 0 (by omega)⟩
  unfold wpY_components
  dsimp only
  refine yk_group hW _ (fun cm' hc => ?_)
  exact ⟨n + 1, yk_cn8 hW hc _ ⟨rfl, bk_rel hW hkn⟩ n 0 (by omega)⟩
theorem i_vc_ends {k : Nat} {u : SX} {v : SY} (I : i_Rel k u v) (hk : k + 3 ≤ 1537) (v1 : Int32) : wpX_ends (fun r => wpY_ends (fun r' => r' = r ∧ i_Rel (k + 3) u v) v v1) u v1 := by
  obtain ⟨n, len, kn, w, pa, co, ow, ch, cl, j, mn, cf, cy, cm, hW, hkn, rfl, rfl⟩ := I
  have h4 := hW.2.1
  rcases pk_ix v1 (n := n) (by omega) with h | h | ⟨i, hi, rfl⟩
  · exact br_t h (br_t h (br_t rfl ⟨rfl, bk_rel hW hkn⟩))
  · have h0 : ¬ v1 < 0 := by
      rw [Int32.le_iff_toInt_le, nI_toInt (by omega)] at h
      rw [Int32.lt_iff_toInt_lt, bk_i0]
      omega
    exact br_f h0 (br_f (Int32.not_lt.mpr h) (br_f h0 (br_t h (br_t rfl ⟨rfl, bk_rel hW hkn⟩))))
  · refine xk_ends hW hi _ ?_
    unfold wpY_ends
    dsimp only
    refine yk_isp h4 hi _ ?_
    refine br_f (by decide) ?_
    exact yk_end hW hi _ ⟨rfl, bk_rel hW hkn⟩
def bk_ag (n : Nat) (a o : Nat → Int32) : Prop := ∀ e, e < n → a e = o e
theorem bk_agu {n x : Nat} {a o : Nat → Int32} {v : Int32} (h : bk_ag n a o) : bk_ag n (upd a x v) (upd o x v) := by
  intro e he
  by_cases c : e = x
  · rw [c, pk_us, pk_us]
  · rw [pk_un c, pk_un c]
    exact h e he
def bk_hit (A B x y : Int32) : Prop := (x = A ∧ y = B) ∨ (x = B ∧ y = A)
def bk_hb (A B x y : Int32) : Bool := (decide (x = A) && decide (y = B)) || (decide (x = B) && decide (y = A))
theorem bk_hbt {A B x y : Int32} (h : bk_hit A B x y) : bk_hb A B x y = true := by
  rcases h with ⟨a, b⟩ | ⟨a, b⟩
  · unfold bk_hb
    rw [decide_eq_true a, decide_eq_true b]
    rfl
  · unfold bk_hb
    rw [decide_eq_true a, decide_eq_true b, Bool.and_true, Bool.or_true]
theorem bk_hbf {A B x y : Int32} (h : ¬ bk_hit A B x y) : bk_hb A B x y = false := by
  cases c : bk_hb A B x y with
  | false => rfl
  | true =>
    exfalso
    unfold bk_hb at c
    rw [Bool.or_eq_true, Bool.and_eq_true, Bool.and_eq_true, decide_eq_true_eq, decide_eq_true_eq, decide_eq_true_eq, decide_eq_true_eq] at c
    exact h c
def bk_lk (w : Nat → Int32) (A B : Int32) (o : Nat → Int32) : Nat → (Nat → Int32) × Int32
  | 0 => (o, 0)
  | k + 1 => (upd (upd (bk_lk w A B o k).1 (bk_z w k - 1) ((bk_lk w A B o k).1 (bk_z w k))) (bk_z w k) ((bk_lk w A B o k).1 (bk_z w k - 1)), if bk_hb A B ((bk_lk w A B o k).1 (bk_z w k - 1)) ((bk_lk w A B o k).1 (bk_z w k)) then (bk_lk w A B o k).2 + bk_s w k else (bk_lk w A B o k).2)
section
variable {n len : Nat} {kn : Int32} {w pa co ow ch cl j mn cf cy cm o : Nat → Int32} {A B : Int32}
theorem xk_lk61 (hW : bk_W n len w) (post : Int32 → SX → Prop) (h : ∀ ow', post ((bk_lk w A B o len).2 / 2) (nI n, nI len, w, pa, co, ow', ch, cl)) : ∀ d t ow, t + d = len → bk_ag n ow (bk_lk w A B o t).1 → wX_linking_61 post A B (nI n) (nI len) (d + 1) (bk_lk w A B o t).2 (nI t) w pa co ow ch cl := by
  have h4 := hW.2.1
  have hl := hW.2.2.1
  intro d
  induction d with
  | zero =>
    intro t ow ht hr
    have e : t = len := by omega
    rw [e]
    exact br_t (nI_le (by omega) (by omega)) ⟨by decide, h ow⟩
  | succ d ih =>
    intro t ow ht hr
    have hz := bk_Wz hW t (by omega)
    have ax := hr (bk_z w t - 1) (by omega)
    have ay := hr (bk_z w t) hz.2
    have ih' := ih (t + 1) (upd (upd ow (bk_z w t - 1) ((bk_lk w A B o t).1 (bk_z w t))) (bk_z w t) ((bk_lk w A B o t).1 (bk_z w t - 1))) (by omega) (bk_agu (bk_agu hr))
    have es : (bk_lk w A B o (t + 1)).2 = if bk_hb A B ((bk_lk w A B o t).1 (bk_z w t - 1)) ((bk_lk w A B o t).1 (bk_z w t)) then (bk_lk w A B o t).2 + bk_s w t else (bk_lk w A B o t).2 := rfl
    have h135 : ∀ s, s = (bk_lk w A B o (t + 1)).2 → wX_linking_135 post (wX_linking_61 post A B (nI n) (nI len) (d + 1)) A B s (nI t) (nI (bk_z w t)) ((bk_lk w A B o t).1 (bk_z w t - 1)) ((bk_lk w A B o t).1 (bk_z w t)) (nI n) (nI len) w pa co ow ch cl := by
      intro s hs
      unfold wX_linking_135
      rw [bk_pd hz.1, nI_clamp (show bk_z w t < 2 ^ 31 by omega), nI_clamp (show bk_z w t - 1 < 2 ^ 31 by omega), hs]
      exact ⟨vp_in_nI (by omega) (by omega), nm_e ⟨vp_in_nI (by omega) (by omega), nm_e (nm_r (nI_1 t) ih')⟩⟩
    have hN : ¬ bk_hit A B ((bk_lk w A B o t).1 (bk_z w t - 1)) ((bk_lk w A B o t).1 (bk_z w t)) → wX_linking_135 post (wX_linking_61 post A B (nI n) (nI len) (d + 1)) A B (bk_lk w A B o t).2 (nI t) (nI (bk_z w t)) ((bk_lk w A B o t).1 (bk_z w t - 1)) ((bk_lk w A B o t).1 (bk_z w t)) (nI n) (nI len) w pa co ow ch cl := by
      intro q
      exact h135 _ (by rw [es, bk_hbf q, if_neg (by decide)])
    have hY : bk_hit A B ((bk_lk w A B o t).1 (bk_z w t - 1)) ((bk_lk w A B o t).1 (bk_z w t)) → wX_linking_124 post (wX_linking_61 post A B (nI n) (nI len) (d + 1)) A B (bk_lk w A B o t).2 (nI t) (nI (bk_z w t)) ((bk_lk w A B o t).1 (bk_z w t - 1)) ((bk_lk w A B o t).1 (bk_z w t)) (nI n) (nI len) w pa co ow ch cl := by
      intro q
      unfold wX_linking_124
      refine xk_sign hW (by omega) _ ?_
      exact nm_e (h135 _ (by rw [es, bk_hbt q, if_pos rfl]))
    have h111 : ¬ ((bk_lk w A B o t).1 (bk_z w t - 1) = A ∧ (bk_lk w A B o t).1 (bk_z w t) = B) → wX_linking_111 post (wX_linking_61 post A B (nI n) (nI len) (d + 1)) A B (bk_lk w A B o t).2 (nI t) (nI (bk_z w t)) ((bk_lk w A B o t).1 (bk_z w t - 1)) ((bk_lk w A B o t).1 (bk_z w t)) (nI n) (nI len) w pa co ow ch cl := by
      intro q
      exact br_c (fun c3 => br_c (fun c4 => hY (Or.inr ⟨c3, c4⟩)) (fun c4 => hN (fun z => z.elim q (fun z2 => c4 z2.2)))) (fun c3 => hN (fun z => z.elim q (fun z2 => c3 z2.1)))
    refine br_f (nI_ge (by omega) (by omega)) (xk_right hW (by omega) _ ?_)
    rw [bk_pd hz.1, nI_clamp (show bk_z w t < 2 ^ 31 by omega), nI_clamp (show bk_z w t - 1 < 2 ^ 31 by omega), ax, ay]
    refine ⟨vp_in_nI (by omega) (by omega), nm_e ⟨vp_in_nI (by omega) (by omega), nm_e ?_⟩⟩
    exact br_c (fun c1 => br_c (fun c2 => hY (Or.inl ⟨c1, c2⟩)) (fun c2 => h111 (fun z => c2 z.2))) (fun c1 => h111 (fun z => c1 z.1))
theorem yk_lk87 (hW : bk_W n len w) (post : Int32 → SY → Prop) (h : ∀ cy', post ((bk_lk w A B o len).2 / 2) (nI n, nI len, kn, w, j, mn, cf, cy', cm)) : ∀ d t cy, t + d = len → bk_ag n cy (bk_lk w A B o t).1 → wY_linking_87 post A B (nI n) (nI len) kn (d + 1) (bk_lk w A B o t).2 (nI t) w j mn cf cy cm := by
  have h4 := hW.2.1
  have hl := hW.2.2.1
  intro d
  induction d with
  | zero =>
    intro t cy ht hr
    have e : t = len := by omega
    rw [e]
    exact br_t (nI_le (by omega) (by omega)) ⟨by decide, h cy⟩
  | succ d ih =>
    intro t cy ht hr
    have hz := bk_Wz hW t (by omega)
    have ax := hr (bk_z w t - 1) (by omega)
    have ay := hr (bk_z w t) hz.2
    have ih' := ih (t + 1) (upd (upd cy (bk_z w t - 1) ((bk_lk w A B o t).1 (bk_z w t))) (bk_z w t) ((bk_lk w A B o t).1 (bk_z w t - 1))) (by omega) (bk_agu (bk_agu hr))
    have es : (bk_lk w A B o (t + 1)).2 = if bk_hb A B ((bk_lk w A B o t).1 (bk_z w t - 1)) ((bk_lk w A B o t).1 (bk_z w t)) then (bk_lk w A B o t).2 + bk_s w t else (bk_lk w A B o t).2 := rfl
    have h135 : ∀ s, s = (bk_lk w A B o (t + 1)).2 → wY_linking_171 post (wY_linking_87 post A B (nI n) (nI len) kn (d + 1)) A B s (nI t) (nI (bk_z w t)) ((bk_lk w A B o t).1 (bk_z w t - 1)) ((bk_lk w A B o t).1 (bk_z w t)) (nI n) (nI len) kn w j mn cf cy cm := by
      intro s hs
      unfold wY_linking_171
      rw [bk_pd hz.1, nI_clamp (show bk_z w t < 2 ^ 31 by omega), nI_clamp (show bk_z w t - 1 < 2 ^ 31 by omega), hs]
      exact ⟨vp_in_nI (by omega) (by omega), nm_e ⟨vp_in_nI (by omega) (by omega), nm_e (nm_r (nI_1 t) ih')⟩⟩
    have hN : ¬ bk_hit A B ((bk_lk w A B o t).1 (bk_z w t - 1)) ((bk_lk w A B o t).1 (bk_z w t)) → wY_linking_171 post (wY_linking_87 post A B (nI n) (nI len) kn (d + 1)) A B (bk_lk w A B o t).2 (nI t) (nI (bk_z w t)) ((bk_lk w A B o t).1 (bk_z w t - 1)) ((bk_lk w A B o t).1 (bk_z w t)) (nI n) (nI len) kn w j mn cf cy cm := by
      intro q
      exact h135 _ (by rw [es, bk_hbf q, if_neg (by decide)])
    have hY : bk_hit A B ((bk_lk w A B o t).1 (bk_z w t - 1)) ((bk_lk w A B o t).1 (bk_z w t)) → wY_linking_155 post (wY_linking_87 post A B (nI n) (nI len) kn (d + 1)) A B (bk_lk w A B o t).2 (nI t) (nI (bk_z w t)) ((bk_lk w A B o t).1 (bk_z w t - 1)) ((bk_lk w A B o t).1 (bk_z w t)) (nI n) (nI len) kn w j mn cf cy cm := by
      intro q
      unfold wY_linking_155
      rw [nI_clamp (show t < 2 ^ 31 by omega)]
      refine ⟨vp_in_nI (by omega) (by omega), yk_sign hW (by omega) _ ?_⟩
      exact nm_e (h135 _ (by rw [es, bk_hbt q, if_pos rfl]))
    have h111 : ¬ ((bk_lk w A B o t).1 (bk_z w t - 1) = A ∧ (bk_lk w A B o t).1 (bk_z w t) = B) → wY_linking_142 post (wY_linking_87 post A B (nI n) (nI len) kn (d + 1)) A B (bk_lk w A B o t).2 (nI t) (nI (bk_z w t)) ((bk_lk w A B o t).1 (bk_z w t - 1)) ((bk_lk w A B o t).1 (bk_z w t)) (nI n) (nI len) kn w j mn cf cy cm := by
      intro q
      exact br_c (fun c3 => br_c (fun c4 => hY (Or.inr ⟨c3, c4⟩)) (fun c4 => hN (fun z => z.elim q (fun z2 => c4 z2.2)))) (fun c3 => hN (fun z => z.elim q (fun z2 => c3 z2.1)))
    refine br_f (nI_ge (by omega) (by omega)) ?_
    rw [nI_clamp (show t < 2 ^ 31 by omega)]
    refine ⟨vp_in_nI (by omega) (by omega), yk_size hW (by omega) _ ?_⟩
    rw [bk_pd hz.1, nI_clamp (show bk_z w t < 2 ^ 31 by omega), nI_clamp (show bk_z w t - 1 < 2 ^ 31 by omega), ax, ay]
    refine ⟨vp_in_nI (by omega) (by omega), nm_e ⟨vp_in_nI (by omega) (by omega), nm_e ?_⟩⟩
    exact br_c (fun c1 => br_c (fun c2 => hY (Or.inl ⟨c1, c2⟩)) (fun c2 => h111 (fun z => c2 z.2))) (fun c1 => h111 (fun z => c1 z.1))
theorem xk_so2 (hW : bk_W n len w) (post : SX → Prop) (h : ∀ ow', bk_ag n ow' (fun p => nI (bk_co (bk_pl n (bk_z w) len) p n).2) → post (nI n, nI len, w, pa, co, ow', ch, cl)) : ∀ d p ow, p + d = n → (∀ x, x < p → ow x = nI (bk_co (bk_pl n (bk_z w) len) x n).2) → wX_startOwners_2 post (nI n) (nI len) (d + 1) (nI p) w pa co ow ch cl := by
  have h4 := hW.2.1
  intro d
  induction d with
  | zero =>
    intro p ow hp hc
    exact br_t (nI_le (by omega) (by omega)) (h ow (fun e he => hc e (by omega)))
  | succ d ih =>
    intro p ow hp hc
    refine br_f (nI_ge (by omega) (by omega)) (xk_comp hW (by omega) _ ⟨vp_in_nI (by omega) (by omega), ?_⟩)
    intro a ea
    rw [nI_clamp (by omega)] at ea
    subst ea
    refine nm_r (nI_1 p) (ih (p + 1) _ (by omega) ?_)
    intro y hy
    by_cases e : y = p
    · rw [e]
      exact pk_us
    · rw [pk_un e]
      exact hc y (by omega)
theorem yk_lk52 (hW : bk_W n len w) (hc : ∀ p, p < n → cm p = nI (bk_co (bk_pl n (bk_z w) len) p n).2) (post : Int32 → SY → Prop) (h : ∀ cy', bk_ag n cy' (fun p => nI (bk_co (bk_pl n (bk_z w) len) p n).2) → ∃ n87, wY_linking_87 post A B (nI n) (nI len) kn n87 0 (nI 0) w j mn cf cy' cm) : ∀ d p cy, p + d = n → (∀ x, x < p → cy x = nI (bk_co (bk_pl n (bk_z w) len) x n).2) → wY_linking_52 post A B (nI n) (nI len) kn (d + 1) (nI p) w j mn cf cy cm := by
  have h4 := hW.2.1
  intro d
  induction d with
  | zero =>
    intro p cy hp hy
    exact br_t (nI_le (by omega) (by omega)) (h cy (fun e he => hy e (by omega)))
  | succ d ih =>
    intro p cy hp hy
    refine br_f (nI_ge (by omega) (by omega)) ⟨vp_in_nI (by omega) (by omega), vp_in_nI (by omega) (by omega), ?_⟩
    intro a ea
    rw [nI_clamp (by omega), hc p (by omega)] at ea
    subst ea
    refine nm_r (nI_1 p) (ih (p + 1) _ (by omega) ?_)
    intro y hy'
    by_cases e : y = p
    · rw [e]
      exact pk_us
    · rw [pk_un e]
      exact hy y (by omega)
end
theorem bk_out {n : Nat} {x : Int32} (h4 : n ≤ 4) (h : nI n ≤ x) : ¬ x < 0 := by
  rw [Int32.le_iff_toInt_le, nI_toInt (by omega)] at h
  rw [Int32.lt_iff_toInt_lt, bk_i0]
  omega
theorem i_vc_linking {k : Nat} {u : SX} {v : SY} (I : i_Rel k u v) (hk : k + 3 ≤ 1537) (v1 : Int32) (v2 : Int32) : wpX_linking (fun r u' => wpY_linking (fun r' v' => r' = r ∧ i_Rel (k + 3) u' v') v v1 v2) u v1 v2 := by
  obtain ⟨n, len, kn, w, pa, co, ow, ch, cl, j, mn, cf, cy, cm, hW, hkn, rfl, rfl⟩ := I
  have h4 := hW.2.1
  rcases pk_ix v1 (n := n) (by omega) with h | h | ⟨p, hp, rfl⟩
  · exact br_t h (br_t h (br_t rfl ⟨rfl, bk_rel hW hkn⟩))
  · have h0 := bk_out h4 h
    exact br_f h0 (br_t h (br_f h0 (br_t h (br_t rfl ⟨rfl, bk_rel hW hkn⟩))))
  rcases pk_ix v2 (n := n) (by omega) with h | h | ⟨q, hq, rfl⟩
  · refine br_f (nI_pos (by omega)) (br_f (nI_ge hp (by omega)) (br_t h ?_))
    unfold wpY_linking
    dsimp only
    refine yk_isp h4 hp _ ?_
    refine br_f (by decide) ?_
    exact br_t h (br_t rfl ⟨rfl, bk_rel hW hkn⟩)
  · have h0 := bk_out h4 h
    refine br_f (nI_pos (by omega)) (br_f (nI_ge hp (by omega)) (br_f h0 (br_f (Int32.not_lt.mpr h) ?_)))
    unfold wpY_linking
    dsimp only
    refine yk_isp h4 hp _ ?_
    refine br_f (by decide) ?_
    exact br_f h0 (br_t h (br_t rfl ⟨rfl, bk_rel hW hkn⟩))
  unfold wpX_linking wpY_linking
  dsimp only
  refine br_f (nI_pos (by omega)) (br_f (nI_ge hp (by omega)) (br_f (nI_pos (by omega)) (br_t (nI_lt hq (by omega)) ?_)))
  refine xk_comp hW hp _ ?_
  refine xk_comp hW hq _ ?_
  refine br_c (fun c => ?_) (fun c => ?_)
  · refine yk_isp h4 hp _ ?_
    refine br_f (by decide) ?_
    refine yk_isp h4 hq _ ?_
    refine br_f (by decide) ?_
    refine yk_group hW _ (fun cm' hc => ?_)
    dsimp only
    rw [nI_clamp (show p < 2 ^ 31 by omega), nI_clamp (show q < 2 ^ 31 by omega), hc p hp, hc q hq]
    exact ⟨vp_in_nI (by omega) (by omega), nm_e ⟨vp_in_nI (by omega) (by omega), nm_e (br_t c ⟨rfl, bk_rel hW hkn⟩)⟩⟩
  · refine ⟨n + 1, xk_so2 hW _ (fun ow' ho => ?_) n 0 ow (by omega) (fun x hx => absurd hx (by omega))⟩
    refine ⟨len + 1, xk_lk61 (o := fun p => nI (bk_co (bk_pl n (bk_z w) len) p n).2) hW _ (fun ow'' => ?_) len 0 ow' (by omega) ho⟩
    refine yk_isp h4 hp _ ?_
    refine br_f (by decide) ?_
    refine yk_isp h4 hq _ ?_
    refine br_f (by decide) ?_
    refine yk_group hW _ (fun cm' hc => ?_)
    dsimp only
    rw [nI_clamp (show p < 2 ^ 31 by omega), nI_clamp (show q < 2 ^ 31 by omega), hc p hp, hc q hq]
    refine ⟨vp_in_nI (by omega) (by omega), nm_e ⟨vp_in_nI (by omega) (by omega), nm_e (br_f c ?_)⟩⟩
    refine ⟨n + 1, yk_lk52 hW hc _ (fun cy' hy => ?_) n 0 cy (by omega) (fun x hx => absurd hx (by omega))⟩
    exact ⟨len + 1, yk_lk87 (o := fun p => nI (bk_co (bk_pl n (bk_z w) len) p n).2) hW _ (fun cy'' => ⟨rfl, bk_rel hW hkn⟩) len 0 cy' (by omega) hy⟩
end
section
def bk_qr (pp code : Int32) : Nat → Int32
  | 0 => code
  | q + 1 => bk_qr pp code q / pp
def bk_dg (pp code : Int32) (q : Nat) : Int32 := bk_qr pp code q - bk_qr pp code q / pp * pp
def bk_ev (pp a b : Int32) : Int32 := 2 * a - b + pp - (2 * a - b + pp) / pp * pp
def bk_cr (w : Nat → Int32) (pp : Int32) (o : Nat → Int32) : Nat → (Nat → Int32)
  | 0 => o
  | k + 1 => if 0 < w k then upd (upd (bk_cr w pp o k) (bk_z w k - 1) (bk_ev pp (bk_cr w pp o k (bk_z w k - 1)) (bk_cr w pp o k (bk_z w k)))) (bk_z w k) (bk_cr w pp o k (bk_z w k - 1))
    else upd (upd (bk_cr w pp o k) (bk_z w k - 1) (bk_cr w pp o k (bk_z w k))) (bk_z w k) (bk_ev pp (bk_cr w pp o k (bk_z w k)) (bk_cr w pp o k (bk_z w k - 1)))
theorem bk_agc {n x y : Nat} {a o : Nat → Int32} {u v : Int32} (hxy : x ≠ y) (h : bk_ag n a o) : bk_ag n (upd (upd a y v) x u) (upd (upd o x u) y v) := by
  intro e he
  by_cases c : e = x
  · rw [c, pk_us, pk_un hxy, pk_us]
  · rw [pk_un c]
    by_cases c2 : e = y
    · rw [c2, pk_us, pk_us]
    · rw [pk_un c2, pk_un c2, pk_un c]
      exact h e he
def bk_G (n len : Nat) (w : Nat → Int32) (pp code : Int32) : Bool := decide (∀ q, q < n → bk_cr w pp (bk_dg pp code) len q = bk_dg pp code q)
section
variable {n len : Nat} {kn : Int32} {w pa co ow ch cl j mn cf cy cm o dd : Nat → Int32} {pp code : Int32}
theorem xk_ch5 (h4 : n ≤ 4) (hpp : ¬ pp = 0) (post : SX → Prop) (h : ∀ ch' cl', bk_ag n ch' (bk_dg pp code) → bk_ag n cl' (bk_dg pp code) → post (nI n, nI len, w, pa, co, ow, ch', cl')) : ∀ d q ch cl, q + d = n → (∀ e, e < q → ch e = bk_dg pp code e ∧ cl e = bk_dg pp code e) → wX_chooseColours_5 post pp (nI n) (nI len) (d + 1) (bk_qr pp code q) (nI q) w pa co ow ch cl := by
  intro d
  induction d with
  | zero =>
    intro q ch cl hq hi
    exact br_t (nI_le (by omega) (by omega)) (h ch cl (fun e he => (hi e (by omega)).1) (fun e he => (hi e (by omega)).2))
  | succ d ih =>
    intro q ch cl hq hi
    refine br_f (nI_ge (by omega) (by omega)) ⟨hpp, vp_in_nI (by omega) (by omega), ?_⟩
    intro a ea
    refine ⟨hpp, vp_in_nI (by omega) (by omega), ?_⟩
    intro b eb
    rw [nI_clamp (by omega)] at ea eb
    subst ea
    subst eb
    refine ⟨hpp, nm_e (nm_r (nI_1 q) (ih (q + 1) _ _ (by omega) ?_))⟩
    intro e he
    by_cases c : e = q
    · rw [c]
      exact ⟨pk_us, pk_us⟩
    · rw [pk_un c, pk_un c]
      exact hi e (by omega)
theorem xk_choose (h4 : n ≤ 4) (hpp : ¬ pp = 0) (post : SX → Prop) (h : ∀ ch' cl', bk_ag n ch' (bk_dg pp code) → bk_ag n cl' (bk_dg pp code) → post (nI n, nI len, w, pa, co, ow, ch', cl')) : wpX_chooseColours post (nI n, nI len, w, pa, co, ow, ch, cl) code pp :=
  ⟨n + 1, xk_ch5 h4 hpp post h n 0 ch cl (by omega) (fun e he => absurd he (by omega))⟩
theorem xk_ca2 (hW : bk_W n len w) (hpp : ¬ pp = 0) (post : SX → Prop) (h : ∀ cl', bk_ag n cl' (bk_cr w pp o len) → post (nI n, nI len, w, pa, co, ow, ch, cl')) : ∀ d t cl, t + d = len → bk_ag n cl (bk_cr w pp o t) → wX_carryColours_2 post pp (nI n) (nI len) (d + 1) (nI t) w pa co ow ch cl := by
  have h4 := hW.2.1
  have hl := hW.2.2.1
  intro d
  induction d with
  | zero =>
    intro t cl ht hr
    have e : t = len := by omega
    rw [e] at hr
    exact br_t (nI_le (by omega) (by omega)) (h cl hr)
  | succ d ih =>
    intro t cl ht hr
    have hz := bk_Wz hW t (by omega)
    have hv := (bk_zv h4 (hW.2.2.2 t (by omega))).2.2
    have ax := hr (bk_z w t - 1) (by omega)
    have ay := hr (bk_z w t) hz.2
    have es : bk_cr w pp o (t + 1) = if 0 < w t then upd (upd (bk_cr w pp o t) (bk_z w t - 1) (bk_ev pp (bk_cr w pp o t (bk_z w t - 1)) (bk_cr w pp o t (bk_z w t)))) (bk_z w t) (bk_cr w pp o t (bk_z w t - 1)) else upd (upd (bk_cr w pp o t) (bk_z w t - 1) (bk_cr w pp o t (bk_z w t))) (bk_z w t) (bk_ev pp (bk_cr w pp o t (bk_z w t)) (bk_cr w pp o t (bk_z w t - 1))) := rfl
    refine br_f (nI_ge (by omega) (by omega)) (xk_right hW (by omega) _ ?_)
    rw [bk_pd hz.1, nI_clamp (show bk_z w t < 2 ^ 31 by omega), nI_clamp (show bk_z w t - 1 < 2 ^ 31 by omega), ax, ay]
    refine ⟨vp_in_nI (by omega) (by omega), nm_e ⟨vp_in_nI (by omega) (by omega), nm_e ?_⟩⟩
    refine xk_sign hW (by omega) _ ?_
    rcases hv with ⟨a1, a2, a3, a4, a5, a6⟩ | ⟨a1, a2, a3, a4, a5, a6⟩
    · rw [a6]
      refine br_f (by decide) ⟨hpp, vp_in_nI (by omega) (by omega), nm_e ⟨vp_in_nI (by omega) (by omega), nm_e (nm_r (nI_1 t) (ih (t + 1) _ (by omega) ?_))⟩⟩
      rw [es, if_pos a1]
      exact bk_agu (bk_agu hr)
    · rw [a6]
      refine br_t (by decide) ⟨vp_in_nI (by omega) (by omega), nm_e ⟨hpp, vp_in_nI (by omega) (by omega), nm_e (nm_r (nI_1 t) (ih (t + 1) _ (by omega) ?_))⟩⟩
      rw [es, if_neg a1]
      exact bk_agu (bk_agu hr)
theorem xk_carry (hW : bk_W n len w) (hpp : ¬ pp = 0) (hr : bk_ag n cl o) (post : SX → Prop) (h : ∀ cl', bk_ag n cl' (bk_cr w pp o len) → post (nI n, nI len, w, pa, co, ow, ch, cl')) : wpX_carryColours post (nI n, nI len, w, pa, co, ow, ch, cl) pp :=
  ⟨len + 1, xk_ca2 hW hpp post h len 0 cl (by omega) hr⟩
theorem xk_me2 (h4 : n ≤ 4) (hc : bk_ag n cl o) (hd : bk_ag n ch dd) (post : Int32 → Prop) (h1 : (∀ q, q < n → o q = dd q) → post 1) (h0 : ¬ (∀ q, q < n → o q = dd q) → post 0) : ∀ d t, t + d = n → (∀ q, q < t → o q = dd q) → wX_coloursMeet_2 post (nI n) (nI len) w pa co ow ch cl (d + 1) (nI t) := by
  intro d
  induction d with
  | zero =>
    intro t ht hi
    exact br_t (nI_le (by omega) (by omega)) (h1 (fun q hq => hi q (by omega)))
  | succ d ih =>
    intro t ht hi
    refine br_f (nI_ge (by omega) (by omega)) ⟨vp_in_nI (by omega) (by omega), vp_in_nI (by omega) (by omega), ?_⟩
    rw [nI_clamp (show t < 2 ^ 31 by omega), hc t (by omega), hd t (by omega)]
    refine br_c (fun c => nm_r (nI_1 t) (ih (t + 1) (by omega) (fun q hq => ?_))) (fun c => h0 (fun H => c (H t (by omega))))
    by_cases e : q = t
    · rw [e]
      exact c
    · exact hi q (by omega)
theorem xk_meet (h4 : n ≤ 4) (hc : bk_ag n cl o) (hd : bk_ag n ch dd) (post : Int32 → Prop) (h1 : (∀ q, q < n → o q = dd q) → post 1) (h0 : ¬ (∀ q, q < n → o q = dd q) → post 0) : wpX_coloursMeet post (nI n, nI len, w, pa, co, ow, ch, cl) :=
  ⟨n + 1, xk_me2 h4 hc hd post h1 h0 n 0 (by omega) (fun q hq => absurd hq (by omega))⟩
theorem xk_cl52 (hW : bk_W n len w) (hpp : ¬ pp = 0) {N : Nat} (hN : N ≤ 2401) (post : Int32 → SX → Prop) (h : ∀ ch' cl', post (nI (bk_ct (fun c => bk_G n len w pp (nI c)) N)) (nI n, nI len, w, pa, co, ow, ch', cl')) : ∀ d c ch cl, c + d = N → wX_colourings_52 post pp (nI N) (d + 1) (nI (bk_ct (fun c => bk_G n len w pp (nI c)) c)) (nI c) (nI n) (nI len) w pa co ow ch cl := by
  have h4 := hW.2.1
  intro d
  induction d with
  | zero =>
    intro c ch cl hc
    have e : c = N := by omega
    rw [e]
    exact br_t (nI_le (by omega) (by omega)) (h ch cl)
  | succ d ih =>
    intro c ch cl hc
    have ec : bk_ct (fun c => bk_G n len w pp (nI c)) (c + 1) = bk_ct (fun c => bk_G n len w pp (nI c)) c + if bk_G n len w pp (nI c) then 1 else 0 := rfl
    refine br_f (nI_ge (by omega) (by omega)) (xk_choose h4 hpp _ (fun ch' cl' hch hcl => ?_))
    refine xk_carry hW hpp hcl _ (fun cl'' hcl'' => ?_)
    have ih' := ih (c + 1) ch' cl'' (by omega)
    refine xk_meet h4 hcl'' hch _ (fun H => ?_) (fun H => ?_)
    · rw [ec, show bk_G n len w pp (nI c) = true from decide_eq_true H, if_pos rfl] at ih'
      exact br_f (by decide) (nm_r (nI_1 _) (nm_r (nI_1 c) ih'))
    · rw [ec, show bk_G n len w pp (nI c) = false from decide_eq_false H, if_neg (by decide)] at ih'
      exact br_t rfl (nm_r (nI_1 c) ih')
theorem xk_cl29 (hW : bk_W n len w) {P : Nat} (hP : 1 ≤ P) (hP7 : P ≤ 7) (post : Int32 → SX → Prop) (h : ∀ ch' cl', post (nI (bk_ct (fun c => bk_G n len w (nI P) (nI c)) (P ^ n))) (nI n, nI len, w, pa, co, ow, ch', cl')) : ∀ d t, t + d = n → wX_colourings_29 post (nI P) (nI n) (nI len) w pa co ow ch cl (d + 1) (nI (P ^ t)) (nI t) := by
  have h4 := hW.2.1
  intro d
  induction d with
  | zero =>
    intro t ht
    have e : t = n := by omega
    rw [e]
    have hb : P ^ n ≤ 2401 := Nat.le_trans (Nat.pow_le_pow_left hP7 n) (Nat.pow_le_pow_right (n := 7) (by decide) h4)
    exact br_t (nI_le (by omega) (by omega)) ⟨P ^ n + 1, xk_cl52 hW (nI_ne0 hP (by omega)) hb post h (P ^ n) 0 ch cl (by omega)⟩
  | succ d ih =>
    intro t ht
    exact br_f (nI_ge (by omega) (by omega)) (nm_r (pk_mul (P ^ t) P) (nm_r (nI_1 t) (ih (t + 1) (by omega))))
theorem yk_f158 (h4 : n ≤ 4) (hpp : ¬ pp = 0) (hc : bk_ag n cy o) (post : Int32 → SY → Prop) (h1 : (∀ q, q < n → o q = bk_dg pp code q) → post 1 (nI n, nI len, kn, w, j, mn, cf, cy, cm)) (h0 : ¬ (∀ q, q < n → o q = bk_dg pp code q) → post 0 (nI n, nI len, kn, w, j, mn, cf, cy, cm)) : ∀ d t, t + d = n → (∀ q, q < t → o q = bk_dg pp code q) → wY_fits_158 post pp (nI n) (nI len) kn w j mn cf cy cm (d + 1) (bk_qr pp code t) (nI t) := by
  intro d
  induction d with
  | zero =>
    intro t ht hi
    exact br_t (nI_le (by omega) (by omega)) (h1 (fun q hq => hi q (by omega)))
  | succ d ih =>
    intro t ht hi
    refine br_f (nI_ge (by omega) (by omega)) ⟨vp_in_nI (by omega) (by omega), hpp, ?_⟩
    rw [nI_clamp (show t < 2 ^ 31 by omega), hc t (by omega)]
    refine br_c (fun c => ⟨hpp, nm_e (nm_r (nI_1 t) (ih (t + 1) (by omega) (fun q hq => ?_)))⟩) (fun c => h0 (fun H => c (H t (by omega))))
    by_cases e : q = t
    · rw [e]
      exact c
    · exact hi q (by omega)
theorem yk_f37 (hW : bk_W n len w) (hpp : ¬ pp = 0) (post : Int32 → SY → Prop) (h : ∀ cy', bk_ag n cy' (bk_cr w pp o len) → ∃ n158, wY_fits_158 post pp (nI n) (nI len) kn w j mn cf cy' cm n158 code (nI 0)) : ∀ d t cy, t + d = len → bk_ag n cy (bk_cr w pp o t) → wY_fits_37 post code pp (nI n) (nI len) kn (d + 1) (nI t) w j mn cf cy cm := by
  have h4 := hW.2.1
  have hl := hW.2.2.1
  intro d
  induction d with
  | zero =>
    intro t cy ht hr
    have e : t = len := by omega
    rw [e] at hr
    exact br_t (nI_le (by omega) (by omega)) (h cy hr)
  | succ d ih =>
    intro t cy ht hr
    have hz := bk_Wz hW t (by omega)
    have hv := (bk_zv h4 (hW.2.2.2 t (by omega))).2.2
    have ax := hr (bk_z w t - 1) (by omega)
    have ay := hr (bk_z w t) hz.2
    have es : bk_cr w pp o (t + 1) = if 0 < w t then upd (upd (bk_cr w pp o t) (bk_z w t - 1) (bk_ev pp (bk_cr w pp o t (bk_z w t - 1)) (bk_cr w pp o t (bk_z w t)))) (bk_z w t) (bk_cr w pp o t (bk_z w t - 1)) else upd (upd (bk_cr w pp o t) (bk_z w t - 1) (bk_cr w pp o t (bk_z w t))) (bk_z w t) (bk_ev pp (bk_cr w pp o t (bk_z w t)) (bk_cr w pp o t (bk_z w t - 1))) := rfl
    refine br_f (nI_ge (by omega) (by omega)) ?_
    rw [nI_clamp (show t < 2 ^ 31 by omega)]
    refine ⟨vp_in_nI (by omega) (by omega), yk_size hW (by omega) _ ?_⟩
    rw [bk_pd hz.1, nI_clamp (show bk_z w t < 2 ^ 31 by omega), nI_clamp (show bk_z w t - 1 < 2 ^ 31 by omega), ax, ay]
    refine ⟨vp_in_nI (by omega) (by omega), nm_e ⟨vp_in_nI (by omega) (by omega), nm_e ⟨vp_in_nI (by omega) (by omega), ?_⟩⟩⟩
    rcases hv with ⟨a1, a2, a3, a4, a5, a6⟩ | ⟨a1, a2, a3, a4, a5, a6⟩
    · refine br_f a3 ?_
      unfold wY_fits_111
      rw [bk_pd hz.1, nI_clamp (show t < 2 ^ 31 by omega), nI_clamp (show bk_z w t < 2 ^ 31 by omega), nI_clamp (show bk_z w t - 1 < 2 ^ 31 by omega)]
      refine ⟨vp_in_nI (by omega) (by omega), nm_e ⟨vp_in_nI (by omega) (by omega), br_f a3 ⟨hpp, vp_in_nI (by omega) (by omega), nm_e (nm_r (nI_1 t) (ih (t + 1) _ (by omega) ?_))⟩⟩⟩
      rw [es, if_pos a1]
      exact bk_agc (by omega) hr
    · refine br_t a3 ⟨hpp, ?_⟩
      unfold wY_fits_111
      rw [bk_pd hz.1, nI_clamp (show t < 2 ^ 31 by omega), nI_clamp (show bk_z w t < 2 ^ 31 by omega), nI_clamp (show bk_z w t - 1 < 2 ^ 31 by omega)]
      refine ⟨vp_in_nI (by omega) (by omega), nm_e ⟨vp_in_nI (by omega) (by omega), br_t a3 ⟨vp_in_nI (by omega) (by omega), nm_e (nm_r (nI_1 t) (ih (t + 1) _ (by omega) ?_))⟩⟩⟩
      rw [es, if_neg a1]
      exact bk_agc (by omega) hr
theorem yk_f5 (hW : bk_W n len w) (hpp : ¬ pp = 0) (post : Int32 → SY → Prop) (h : ∀ cy', bk_ag n cy' (bk_dg pp code) → ∃ n37, wY_fits_37 post code pp (nI n) (nI len) kn n37 (nI 0) w j mn cf cy' cm) : ∀ d q cy, q + d = n → (∀ e, e < q → cy e = bk_dg pp code e) → wY_fits_5 post code pp (nI n) (nI len) kn (d + 1) (bk_qr pp code q) (nI q) w j mn cf cy cm := by
  have h4 := hW.2.1
  intro d
  induction d with
  | zero =>
    intro q cy hq hi
    exact br_t (nI_le (by omega) (by omega)) (h cy (fun e he => hi e (by omega)))
  | succ d ih =>
    intro q cy hq hi
    refine br_f (nI_ge (by omega) (by omega)) ⟨hpp, vp_in_nI (by omega) (by omega), ?_⟩
    intro a ea
    rw [nI_clamp (by omega)] at ea
    subst ea
    refine ⟨hpp, nm_e (nm_r (nI_1 q) (ih (q + 1) _ (by omega) ?_))⟩
    intro e he
    by_cases c : e = q
    · rw [c]
      exact pk_us
    · rw [pk_un c]
      exact hi e (by omega)
theorem yk_fits (hW : bk_W n len w) (hpp : ¬ pp = 0) (post : Int32 → SY → Prop) (h1 : ∀ cy', bk_G n len w pp code = true → post 1 (nI n, nI len, kn, w, j, mn, cf, cy', cm)) (h0 : ∀ cy', bk_G n len w pp code = false → post 0 (nI n, nI len, kn, w, j, mn, cf, cy', cm)) : wpY_fits post (nI n, nI len, kn, w, j, mn, cf, cy, cm) code pp :=
  ⟨n + 1, yk_f5 hW hpp post (fun cy1 hc1 => ⟨len + 1, yk_f37 hW hpp post (fun cy2 hc2 => ⟨n + 1, yk_f158 hW.2.1 hpp hc2 post (fun H => h1 cy2 (decide_eq_true H)) (fun H => h0 cy2 (decide_eq_false H)) n 0 (by omega) (fun q hq => absurd hq (by omega))⟩) len 0 cy1 (by omega) hc1⟩) n 0 cy (by omega) (fun e he => absurd he (by omega))⟩
theorem yk_cl52 (hW : bk_W n len w) (hpp : ¬ pp = 0) {N : Nat} (hN : N ≤ 2401) (post : Int32 → SY → Prop) (h : ∀ cy', post (nI (bk_ct (fun c => bk_G n len w pp (nI c)) N)) (nI n, nI len, kn, w, j, mn, cf, cy', cm)) : ∀ d c cy, c + d = N → wY_colourings_52 post pp (nI N) (d + 1) (nI (bk_ct (fun c => bk_G n len w pp (nI c)) c)) (nI c) (nI n) (nI len) kn w j mn cf cy cm := by
  intro d
  induction d with
  | zero =>
    intro c cy hc
    have e : c = N := by omega
    rw [e]
    exact br_t (nI_le (by omega) (by omega)) (h cy)
  | succ d ih =>
    intro c cy hc
    have ec : bk_ct (fun c => bk_G n len w pp (nI c)) (c + 1) = bk_ct (fun c => bk_G n len w pp (nI c)) c + if bk_G n len w pp (nI c) then 1 else 0 := rfl
    refine br_f (nI_ge (by omega) (by omega)) (yk_fits hW hpp _ (fun cy' H => ?_) (fun cy' H => ?_))
    · have ih' := ih (c + 1) cy' (by omega)
      rw [ec, H, if_pos rfl] at ih'
      exact br_f (by decide) (nm_r (nI_1 _) (nm_r (nI_1 c) ih'))
    · have ih' := ih (c + 1) cy' (by omega)
      rw [ec, H, if_neg (by decide)] at ih'
      exact br_t rfl (nm_r (nI_1 c) ih')
theorem yk_cl29 (hW : bk_W n len w) {P : Nat} (hP : 1 ≤ P) (hP7 : P ≤ 7) (post : Int32 → SY → Prop) (h : ∀ cy', post (nI (bk_ct (fun c => bk_G n len w (nI P) (nI c)) (P ^ n))) (nI n, nI len, kn, w, j, mn, cf, cy', cm)) : ∀ d t, t + d = n → wY_colourings_29 post (nI P) (nI n) (nI len) kn w j mn cf cy cm (d + 1) (nI (P ^ t)) (nI t) := by
  have h4 := hW.2.1
  intro d
  induction d with
  | zero =>
    intro t ht
    have e : t = n := by omega
    rw [e]
    have hb : P ^ n ≤ 2401 := Nat.le_trans (Nat.pow_le_pow_left hP7 n) (Nat.pow_le_pow_right (n := 7) (by decide) h4)
    exact br_t (nI_le (by omega) (by omega)) ⟨P ^ n + 1, yk_cl52 hW (nI_ne0 hP (by omega)) hb post h (P ^ n) 0 cy (by omega)⟩
  | succ d ih =>
    intro t ht
    exact br_f (nI_ge (by omega) (by omega)) (nm_r (pk_mul (P ^ t) P) (nm_r (nI_1 t) (ih (t + 1) (by omega))))
end
theorem bk_colX {k n len P : Nat} {kn : Int32} {w pa co ow ch cl j mn cf cy cm : Nat → Int32} (hW : bk_W n len w) (hkn : bk_kn n len kn w mn cf) (hP : 1 ≤ P) (hP7 : P ≤ 7) (hY : ∀ (post : Int32 → SY → Prop), (∃ n29, wY_colourings_29 post (nI P) (nI n) (nI len) kn w j mn cf cy cm n29 1 0) → wpY_colourings post (nI n, nI len, kn, w, j, mn, cf, cy, cm) (nI P)) : ∃ n29, wX_colourings_29 (fun r u' => wpY_colourings (fun r' v' => r' = r ∧ i_Rel (k + 3) u' v') (nI n, nI len, kn, w, j, mn, cf, cy, cm) (nI P)) (nI P) (nI n) (nI len) w pa co ow ch cl n29 1 0 :=
  ⟨n + 1, xk_cl29 hW hP hP7 _ (fun ch' cl' => hY _ ⟨n + 1, yk_cl29 hW hP hP7 _ (fun cy' => ⟨rfl, bk_rel hW hkn⟩) n 0 (by omega)⟩) n 0 (by omega)⟩
theorem i_vc_colourings {k : Nat} {u : SX} {v : SY} (I : i_Rel k u v) (hk : k + 3 ≤ 1537) (v1 : Int32) : wpX_colourings (fun r u' => wpY_colourings (fun r' v' => r' = r ∧ i_Rel (k + 3) u' v') v v1) u v1 := by
  obtain ⟨n, len, kn, w, pa, co, ow, ch, cl, j, mn, cf, cy, cm, hW, hkn, rfl, rfl⟩ := I
  by_cases h2 : v1 = 2
  · subst h2
    exact br_t rfl (bk_colX (P := 2) hW hkn (by decide) (by decide) (fun post h => br_t rfl h))
  by_cases h3 : v1 = 3
  · subst h3
    exact br_f h2 (br_t rfl (bk_colX (P := 3) hW hkn (by decide) (by decide) (fun post h => br_f h2 (br_t rfl h))))
  by_cases h5 : v1 = 5
  · subst h5
    exact br_f h2 (br_f h3 (br_t rfl (bk_colX (P := 5) hW hkn (by decide) (by decide) (fun post h => br_f h2 (br_f h3 (br_t rfl h))))))
  by_cases h7 : v1 = 7
  · subst h7
    exact br_f h2 (br_f h3 (br_f h5 (br_t rfl (bk_colX (P := 7) hW hkn (by decide) (by decide) (fun post h => br_f h2 (br_f h3 (br_f h5 (br_t rfl h))))))))
  · exact br_f h2 (br_f h3 (br_f h5 (br_f h7 (br_f h2 (br_f h3 (br_f h5 (br_f h7 ⟨rfl, bk_rel hW hkn⟩)))))))
end
