section
theorem pk_us {f : Nat → Int32} {k : Nat} {x : Int32} : upd f k x k = x := if_pos rfl
theorem pk_un {f : Nat → Int32} {k j : Nat} {x : Int32} (h : j ≠ k) : upd f k x j = f j := if_neg h
theorem pk_uLs {f : Nat → Int64} {k : Nat} {x : Int64} : vp_updL f k x k = x := if_pos rfl
theorem pk_uLn {f : Nat → Int64} {k j : Nat} {x : Int64} (h : j ≠ k) : vp_updL f k x j = f j := if_neg h
theorem pk_sub {a b : Nat} (h : b ≤ a) : nI a - nI b = nI (a - b) := by
  obtain ⟨c, rfl⟩ : ∃ c, a = c + b := ⟨a - b, by omega⟩
  rw [← nI_add, Int32.add_sub_cancel, Nat.add_sub_cancel]
theorem pk_m1 (n : Nat) : nI (n + 1) + (-1) = nI n := by
  rw [← nI_1, Int32.add_assoc, show (1 : Int32) + (-1) = 0 from rfl, Int32.add_zero]
theorem pk_mul (a b : Nat) : nI a * nI b = nI (a * b) := (Int32.ofNat_mul a b).symm
theorem pk_div {a d : Nat} (ha : a < 2 ^ 31) (h0 : 0 < d) (hd : d < 2 ^ 31) : nI a / nI d = nI (a / d) := by
  apply Int32.toInt_inj.mp
  rw [lg_idiv_nonneg (by rw [nI_toInt ha]; omega) (by rw [nI_toInt hd]; omega), nI_toInt ha, nI_toInt hd, nI_toInt (Nat.lt_of_le_of_lt (Nat.div_le_self a d) ha)]
  first | rfl | exact (Int.natCast_ediv _ _).symm
theorem pk_rem {a d : Nat} (ha : a < 2 ^ 31) (h0 : 0 < d) (hd : d < 2 ^ 31) : nI a - nI a / nI d * nI d = nI (a % d) := by
  rw [pk_div ha h0 hd, pk_mul, pk_sub (Nat.div_mul_le_self a d)]
  exact congrArg nI (by have := Nat.div_add_mod' a d; omega)
theorem pk_sub_toInt {a b : Nat} (ha : a < 2 ^ 30) (hb : b < 2 ^ 30) : (nI a - nI b).toInt = (a : Int) - b := by
  rw [Int32.toInt_sub, nI_toInt (by omega), nI_toInt (by omega)]
  exact Int.bmod_eq_of_le (by omega) (by omega)
theorem pk_sneg {a b : Nat} (hb : b < 2 ^ 30) (h : a < b) : nI a - nI b < 0 := by
  rw [Int32.lt_iff_toInt_lt, pk_sub_toInt (by omega) hb, show (0 : Int32).toInt = 0 from by decide]
  omega
theorem pk_ix (x : Int32) {n : Nat} (hn : n < 2 ^ 31) : x < 0 ∨ nI n ≤ x ∨ ∃ j : Nat, j < n ∧ x = nI j := by
  by_cases h : x < 0
  · exact Or.inl h
  · obtain ⟨j, hj, rfl⟩ := nI_of h
    by_cases h2 : j < n
    · exact Or.inr (Or.inr ⟨j, h2, rfl⟩)
    · exact Or.inr (Or.inl (nI_le (by omega) hj))
theorem pk_le {x y : Int32} {A B : Prop} (a b : Nat) (f : a ≤ b → A) (g : b < a → B) (hx : x = nI a := by rfl) (hy : y = nI b := by rfl) (ha : a < 2 ^ 31 := by omega) (hb : b < 2 ^ 31 := by omega) : (x ≤ y → A) ∧ (¬ x ≤ y → B) := by
  subst hx hy
  rw [nI_leI ha hb]
  exact ⟨f, fun z => g (by omega)⟩
theorem pk_lt {x y : Int32} {A B : Prop} (a b : Nat) (f : a < b → A) (g : b ≤ a → B) (hx : x = nI a := by rfl) (hy : y = nI b := by rfl) (ha : a < 2 ^ 31 := by omega) (hb : b < 2 ^ 31 := by omega) : (x < y → A) ∧ (¬ x < y → B) := by
  subst hx hy
  rw [nI_ltI ha hb]
  exact ⟨f, fun z => g (by omega)⟩
theorem pk_eq {x y : Int32} {A B : Prop} (a b : Nat) (f : a = b → A) (g : a ≠ b → B) (hx : x = nI a := by rfl) (hy : y = nI b := by rfl) (ha : a < 2 ^ 31 := by omega) (hb : b < 2 ^ 31 := by omega) : (x = y → A) ∧ (¬ x = y → B) := by
  subst hx hy
  rw [nI_eq ha hb]
  exact ⟨f, g⟩
theorem pk_in {x : Int32} (n N : Nat) (h : n < N) (hx : x = nI n := by rfl) (hN : N < 2 ^ 31 := by omega) : vp_in x N := by
  subst hx
  exact vp_in_nI h hN
theorem pk_cl {x : Int32} (n : Nat) (hx : x = nI n := by rfl) (h : n < 2 ^ 31 := by omega) : x.toNatClampNeg = n := by
  subst hx
  exact nI_clamp h
theorem pk_tn {n : Nat} (h : n < 2 ^ 32) : (nI n).toBitVec.toNat = n := Nat.mod_eq_of_lt h
theorem pk_and (x : Int32) {m : Int32} (k : Nat) (hm : m.toBitVec.toNat = 2 ^ k - 1) : x &&& m = nI (x.toBitVec.toNat % 2 ^ k) := by
  apply Int32.toBitVec_inj.mp
  apply BitVec.eq_of_toNat_eq
  rw [Int32.toBitVec_and, BitVec.toNat_and, hm, Nat.and_two_pow_sub_one_eq_mod]
  show _ = (BitVec.ofNat 32 _).toNat
  rw [BitVec.toNat_ofNat]
  exact (Nat.mod_eq_of_lt (Nat.lt_of_le_of_lt (Nat.mod_le _ _) x.toBitVec.isLt)).symm
theorem pk_andN {n : Nat} (h : n < 2 ^ 32) {m : Int32} (k : Nat) (hm : m.toBitVec.toNat = 2 ^ k - 1) : nI n &&& m = nI (n % 2 ^ k) := by
  rw [pk_and _ k hm, pk_tn h]
theorem pk_andE (x : Int32) {m : Int32} (k : Nat) (hm : m.toBitVec.toNat = 2 ^ k - 1) : ∃ j : Nat, j < 2 ^ k ∧ x &&& m = nI j := ⟨_, Nat.mod_lt _ (Nat.two_pow_pos k), pk_and x k hm⟩
theorem pk_andIn (x : Int32) {m : Int32} (k : Nat) (hm : m.toBitVec.toNat = 2 ^ k - 1) (hk : k ≤ 30) : vp_in (x &&& m) (2 ^ k) := by
  obtain ⟨j, hj, e⟩ := pk_andE x k hm
  rw [e]
  exact vp_in_nI hj (Nat.lt_of_le_of_lt (Nat.pow_le_pow_right (by decide) hk) (by decide))
theorem pk_shl (a s : Int32) (k : Nat) (hs : (s.toBitVec.smod 32).toNat = k) : (a <<< s).toBitVec.toNat = a.toBitVec.toNat * 2 ^ k % 2 ^ 32 := by
  show (a.toBitVec <<< (s.toBitVec.smod 32).toNat).toNat = _
  rw [hs, BitVec.toNat_shiftLeft, Nat.shiftLeft_eq]
theorem pk_shlN {n : Nat} (s : Int32) (k : Nat) (hs : (s.toBitVec.smod 32).toNat = k) (h : n * 2 ^ k < 2 ^ 32) : nI n <<< s = nI (n * 2 ^ k) := by
  apply Int32.toBitVec_inj.mp
  apply BitVec.eq_of_toNat_eq
  have hn : n < 2 ^ 32 := Nat.lt_of_le_of_lt (Nat.le_mul_of_pos_right n (Nat.two_pow_pos k)) h
  rw [pk_shl _ _ k hs, pk_tn hn, pk_tn h, Nat.mod_eq_of_lt h]
theorem pk_shr (a s : Int32) (k : Nat) (hs : (s.toBitVec.smod 32).toNat = k) : (a >>> s).toInt = a.toInt >>> k := by
  show (a.toBitVec.sshiftRight (s.toBitVec.smod 32).toNat).toInt = _
  rw [hs, BitVec.toInt_sshiftRight]
  rfl
theorem pk_shrN {n : Nat} (h : n < 2 ^ 31) (s : Int32) (k : Nat) (hs : (s.toBitVec.smod 32).toNat = k) : nI n >>> s = nI (n / 2 ^ k) := by
  apply Int32.toInt_inj.mp
  have h2 : n / 2 ^ k ≤ n := Nat.div_le_self _ _
  rw [pk_shr _ _ k hs, nI_toInt h, nI_toInt (by omega), Int.shiftRight_eq_div_pow]
  rfl
theorem pk_ushr (x s : Int32) (k : Nat) (hs : ((s.toUInt32 &&& Int32.toUInt32 31).toBitVec % 32).toNat = k) : (x.toUInt32 >>> (s.toUInt32 &&& Int32.toUInt32 31)).toInt32.toBitVec.toNat = x.toBitVec.toNat / 2 ^ k := by
  have e : (x.toUInt32 >>> (s.toUInt32 &&& Int32.toUInt32 31)).toInt32.toBitVec = x.toBitVec >>> k := by
    rw [← hs]
    exact UInt32.toBitVec_shiftRight _ _
  rw [e, BitVec.toNat_ushiftRight, Nat.shiftRight_eq_div_pow]
theorem pk_ushrN {n : Nat} (hn : n < 2 ^ 32) (s : Int32) (k : Nat) (hs : ((s.toUInt32 &&& Int32.toUInt32 31).toBitVec % 32).toNat = k) : ((nI n).toUInt32 >>> (s.toUInt32 &&& Int32.toUInt32 31)).toInt32 = nI (n / 2 ^ k) := by
  apply Int32.toBitVec_inj.mp
  apply BitVec.eq_of_toNat_eq
  rw [pk_ushr _ s k hs, pk_tn hn, pk_tn (Nat.lt_of_le_of_lt (Nat.div_le_self _ _) hn)]
theorem pk_lT {n : Nat} (h : n < 2 ^ 63) : (lN n).toInt = (n : Int) := lg_ofNat_toInt h
theorem pk_lLT {a b : Nat} (ha : a < 2 ^ 63) (hb : b < 2 ^ 63) : lN a < lN b ↔ a < b := by
  rw [Int64.lt_iff_toInt_lt, pk_lT ha, pk_lT hb]; omega
theorem pk_lLE {a b : Nat} (ha : a < 2 ^ 63) (hb : b < 2 ^ 63) : lN a ≤ lN b ↔ a ≤ b := by
  rw [Int64.le_iff_toInt_le, pk_lT ha, pk_lT hb]; omega
theorem pk_lEQ {a b : Nat} (ha : a < 2 ^ 63) (hb : b < 2 ^ 63) : lN a = lN b ↔ a = b := by
  rw [← Int64.toInt_inj, pk_lT ha, pk_lT hb]; omega
theorem pk_lOf {x : Int64} (h : ¬ x < 0) : ∃ k : Nat, k < 2 ^ 63 ∧ x = lN k := by
  rw [Int64.lt_iff_toInt_lt] at h
  have h0 : (0 : Int64).toInt = 0 := by decide
  have hx := Int64.toInt_lt x
  refine ⟨x.toInt.toNat, by omega, Int64.toInt_inj.mp ?_⟩
  rw [pk_lT (by omega)]
  omega
theorem pk_lDiv {a b : Nat} (ha : a < 2 ^ 63) (h0 : 0 < b) (hb : b < 2 ^ 63) : lN a / lN b = lN (a / b) := by
  apply Int64.toInt_inj.mp
  rw [lg_ldiv_nonneg (by rw [pk_lT ha]; omega) (by rw [pk_lT hb]; omega), pk_lT ha, pk_lT hb, pk_lT (Nat.lt_of_le_of_lt (Nat.div_le_self a b) ha)]
  rfl
theorem pk_lRem {a b : Nat} (ha : a < 2 ^ 63) (h0 : 0 < b) (hb : b < 2 ^ 63) : lN a - lN a / lN b * lN b = lN (a % b) := by
  rw [pk_lDiv ha h0 hb, lN_mul, lN_sub (Nat.div_mul_le_self a b)]
  exact congrArg lN (by have := Nat.div_add_mod' a b; omega)
theorem pk_loop {σ : Type} (W : Nat → Nat → σ → Prop) (I : Nat → σ → Prop) (e i0 : Nat) (s : σ) (hi : i0 ≤ e) (h0 : I i0 s) (hx : ∀ n s, I e s → W (n + 1) e s)
    (hs : ∀ n i s, i < e → I i s → (∀ s', I (i + 1) s' → W n (i + 1) s') → W (n + 1) i s) : ∃ n, W n i0 s :=
  ⟨e + 1, loop_i W I e hx hs (e + 1) i0 s hi (by omega) h0⟩
theorem pk_loopD {σ : Type} (W : Nat → Nat → σ → Prop) (I : Nat → σ → Prop) (hx : ∀ n s, I 0 s → W (n + 1) 0 s)
    (hs : ∀ n i s, I (i + 1) s → (∀ s', I i s' → W n i s') → W (n + 1) (i + 1) s) : ∀ (e : Nat) (s : σ), I e s → W (e + 1) e s := by
  intro e
  induction e with
  | zero => exact fun s h => hx 0 s h
  | succ e ih => exact fun s h => hs (e + 1) e s h (fun s' h' => ih s' h')
theorem lp1 {A1 : Type} (W : Nat → A1 → Prop) (I : A1 → Prop) (μ : A1 → Nat) (hs : ∀ (n : Nat) (a1 : A1), I a1 → (∀ (b1 : A1), I b1 → μ b1 < μ a1 → W n b1) → W (n + 1) a1) (a1 : A1) (h : I a1) : ∃ n, W n a1 :=
  loop_m (σ := A1) (fun n s => W n s) (fun s => I s) (fun s => μ s) (fun n s hI hk => hs n s hI (fun b1 h9 hm => hk b1 h9 hm)) a1 h
theorem lp2 {A1 A2 : Type} (W : Nat → A1 → A2 → Prop) (I : A1 → A2 → Prop) (μ : A1 → A2 → Nat) (hs : ∀ (n : Nat) (a1 : A1) (a2 : A2), I a1 a2 → (∀ (b1 : A1) (b2 : A2), I b1 b2 → μ b1 b2 < μ a1 a2 → W n b1 b2) → W (n + 1) a1 a2) (a1 : A1) (a2 : A2) (h : I a1 a2) : ∃ n, W n a1 a2 :=
  loop_m (σ := A1 × A2) (fun n s => W n s.1 s.2) (fun s => I s.1 s.2) (fun s => μ s.1 s.2) (fun n s hI hk => hs n s.1 s.2 hI (fun b1 b2 h9 hm => hk (b1, b2) h9 hm)) (a1, a2) h
theorem lp3 {A1 A2 A3 : Type} (W : Nat → A1 → A2 → A3 → Prop) (I : A1 → A2 → A3 → Prop) (μ : A1 → A2 → A3 → Nat) (hs : ∀ (n : Nat) (a1 : A1) (a2 : A2) (a3 : A3), I a1 a2 a3 → (∀ (b1 : A1) (b2 : A2) (b3 : A3), I b1 b2 b3 → μ b1 b2 b3 < μ a1 a2 a3 → W n b1 b2 b3) → W (n + 1) a1 a2 a3) (a1 : A1) (a2 : A2) (a3 : A3) (h : I a1 a2 a3) : ∃ n, W n a1 a2 a3 :=
  loop_m (σ := A1 × A2 × A3) (fun n s => W n s.1 s.2.1 s.2.2) (fun s => I s.1 s.2.1 s.2.2) (fun s => μ s.1 s.2.1 s.2.2) (fun n s hI hk => hs n s.1 s.2.1 s.2.2 hI (fun b1 b2 b3 h9 hm => hk (b1, b2, b3) h9 hm)) (a1, a2, a3) h
theorem pk_least (P : Nat → Prop) (h : ∃ k, P k) : ∃ k, P k ∧ ∀ j, j < k → ¬ P j := by
  obtain ⟨k, hk⟩ := h
  induction k using Nat.strongRecOn with
  | ind k ih =>
    by_cases e : ∃ j, j < k ∧ P j
    · obtain ⟨j, hj, pj⟩ := e
      exact ih j hj pj
    · exact ⟨k, hk, fun j hj pj => e ⟨j, hj, pj⟩⟩
def bt (x : Int32) (i : Nat) : Bool := x.toBitVec.getLsbD i
theorem b_ext {x y : Int32} (h : ∀ i, i < 32 → bt x i = bt y i) : x = y := Int32.toBitVec_inj.mp (BitVec.eq_of_getLsbD_eq (fun i hi => h i hi))
theorem b_or (x y : Int32) (i : Nat) : bt (x ||| y) i = (bt x i || bt y i) := by unfold bt; rw [Int32.toBitVec_or, BitVec.getLsbD_or]
theorem b_and (x y : Int32) (i : Nat) : bt (x &&& y) i = (bt x i && bt y i) := by unfold bt; rw [Int32.toBitVec_and, BitVec.getLsbD_and]
theorem b_xor (x y : Int32) (i : Nat) : bt (x ^^^ y) i = (bt x i ^^ bt y i) := by unfold bt; rw [Int32.toBitVec_xor, BitVec.getLsbD_xor]
theorem b_big {x : Int32} {i : Nat} (h : 32 ≤ i) : bt x i = false := BitVec.getLsbD_of_ge _ _ h
theorem b_255 (i : Nat) : bt 255 i = decide (i < 8) := by
  rcases Nat.lt_or_ge i 32 with h | h
  · exact (by decide +kernel : ∀ i, i < 32 → bt 255 i = decide (i < 8)) i h
  · rw [b_big h, decide_eq_false (by omega)]
theorem b_65535 (i : Nat) : bt 65535 i = decide (i < 16) := by
  rcases Nat.lt_or_ge i 32 with h | h
  · exact (by decide +kernel : ∀ i, i < 32 → bt 65535 i = decide (i < 16)) i h
  · rw [b_big h, decide_eq_false (by omega)]
theorem b_m1 : ∀ i, i < 32 → bt (-1) i = true := by decide +kernel
theorem b_0 (i : Nat) : bt 0 i = false := BitVec.getLsbD_zero
theorem s_l : ∀ n, n < 32 → ((nI n &&& 31).toBitVec.smod 32).toNat = n := by decide +kernel
theorem s_u : ∀ n, n < 32 → (((nI n).toUInt32 &&& Int32.toUInt32 31).toBitVec % 32).toNat = n := by decide +kernel
theorem b_shl (n : Nat) (hn : n < 32) (x : Int32) {i : Nat} (hi : i < 32) : bt (x <<< (nI n &&& 31)) i = (decide (n ≤ i) && bt x (i - n)) := by
  unfold bt
  rw [Int32.toBitVec_shiftLeft]
  show (x.toBitVec <<< ((nI n &&& 31).toBitVec.smod 32).toNat).getLsbD i = _
  rw [s_l n hn, BitVec.getLsbD_shiftLeft]
  rcases Nat.lt_or_ge i n with h | h
  · simp [h, Nat.not_le.mpr h]
  · simp [hi, h, Nat.not_lt.mpr h]
theorem b_ushr (n : Nat) (hn : n < 32) (x : Int32) (i : Nat) : bt ((x.toUInt32 >>> ((nI n).toUInt32 &&& Int32.toUInt32 31)).toInt32) i = bt x (n + i) := by
  show (x.toUInt32 >>> ((nI n).toUInt32 &&& Int32.toUInt32 31)).toBitVec.getLsbD i = x.toUInt32.toBitVec.getLsbD (n + i)
  rw [UInt32.toBitVec_shiftRight]
  show (x.toUInt32.toBitVec >>> (((nI n).toUInt32 &&& Int32.toUInt32 31).toBitVec % 32).toNat).getLsbD i = _
  rw [s_u n hn, BitVec.getLsbD_ushiftRight]
theorem b_sshr (n : Nat) (hn : n < 32) (x : Int32) {i : Nat} (hi : i < 32) : bt (x >>> (nI n &&& 31)) i = if n + i < 32 then bt x (n + i) else bt x 31 := by
  unfold bt
  rw [Int32.toBitVec_shiftRight]
  show (x.toBitVec.sshiftRight ((nI n &&& 31).toBitVec.smod 32).toNat).getLsbD i = _
  rw [s_l n hn, BitVec.getLsbD_sshiftRight, BitVec.msb_eq_getLsbD_last]
  simp [hi]
theorem b_shl8 (x : Int32) {i : Nat} (hi : i < 32) : bt (x <<< ((8 : Int32) &&& 31)) i = (decide (8 ≤ i) && bt x (i - 8)) := b_shl 8 (by omega) x hi
theorem b_shl16 (x : Int32) {i : Nat} (hi : i < 32) : bt (x <<< ((16 : Int32) &&& 31)) i = (decide (16 ≤ i) && bt x (i - 16)) := b_shl 16 (by omega) x hi
theorem b_shl24 (x : Int32) {i : Nat} (hi : i < 32) : bt (x <<< ((24 : Int32) &&& 31)) i = (decide (24 ≤ i) && bt x (i - 24)) := b_shl 24 (by omega) x hi
theorem b_sshr8 (x : Int32) {i : Nat} (hi : i < 32) : bt (x >>> ((8 : Int32) &&& 31)) i = if 8 + i < 32 then bt x (8 + i) else bt x 31 := b_sshr 8 (by omega) x hi
theorem nx_and (a b : Nat) : nI a &&& nI b = nI (a &&& b) := by
  apply Int32.toBitVec_inj.1
  show BitVec.ofNat 32 a &&& BitVec.ofNat 32 b = BitVec.ofNat 32 (a &&& b)
  apply BitVec.eq_of_getLsbD_eq
  intro i hi
  simp [hi]
theorem nx_xor (a b : Nat) : nI a ^^^ nI b = nI (a ^^^ b) := by
  apply Int32.toBitVec_inj.1
  show BitVec.ofNat 32 a ^^^ BitVec.ofNat 32 b = BitVec.ofNat 32 (a ^^^ b)
  apply BitVec.eq_of_getLsbD_eq
  intro i hi
  simp [hi]
end
section
/-! the state relation and the small methods -/
def tg_z (b : Bool) : Int32 := if b then 1 else 0
theorem tg_z1 : tg_z true = 1 := rfl
theorem tg_z0 : tg_z false = 0 := rfl
theorem tg_zn (b : Bool) : narrow .boolean (.int (tg_z b)) = .int (tg_z b) := by cases b <;> rfl
theorem tg_10 : ¬ (1 : Int32) = 0 := by decide
theorem tg_zbr {b : Bool} {A B : Prop} (f : b = false → A) (g : b = true → B) : (tg_z b = 0 → A) ∧ (¬ tg_z b = 0 → B) := by
  cases b
  · exact br_t rfl (f rfl)
  · exact br_f tg_10 (g rfl)
theorem tg_b1 (i : Nat) : bt 1 i = decide (i = 0) := by
  rcases Nat.lt_or_ge i 32 with h | h
  · exact (by decide +kernel : ∀ i, i < 32 → bt 1 i = decide (i = 0)) i h
  · rw [b_big h, decide_eq_false (by omega)]
theorem tg_bit (x : Int32) {n : Nat} (hn : n < 32) : ((x >>> (nI n &&& 31)) &&& 1) = 0 ↔ bt x n = false := by
  constructor
  · intro h
    have h1 := congrArg (fun z => bt z 0) h
    simp only [b_and, tg_b1, b_0] at h1
    rw [b_sshr n hn x (by omega)] at h1
    simpa [hn] using h1
  · intro h
    apply b_ext
    intro i hi
    rw [b_and, tg_b1, b_0]
    by_cases z : i = 0
    · subst z
      rw [b_sshr n hn x (by omega)]
      simp [hn, h]
    · simp [z]
theorem tg_isIn {post : Int32 → Prop} {x : Int32} {n : Nat} (hn : n < 32) (h : post (tg_z (bt x n))) : wpX_isIn post x (nI n) := by
  unfold wpX_isIn
  cases e : bt x n
  · rw [e] at h
    exact br_t ((tg_bit x hn).mpr e) h
  · rw [e] at h
    exact br_f (fun z => by rw [(tg_bit x hn).mp z] at e; exact absurd e (by decide)) h
theorem tg_sh {n i : Nat} (hn : n < 32) : bt ((1 : Int32) <<< (nI n &&& 31)) i = decide (i = n) := by
  rcases Nat.lt_or_ge i 32 with h | h
  · rw [b_shl n hn 1 h, tg_b1]
    by_cases e : i = n
    · subst e; simp
    · by_cases z : n ≤ i
      · simp [e, z]; omega
      · simp [e, z]
  · rw [b_big h, decide_eq_false (by omega)]
theorem tg_or (x : Int32) {n : Nat} (hn : n < 32) (i : Nat) : bt (x ||| ((1 : Int32) <<< (nI n &&& 31))) i = (bt x i || decide (i = n)) := by
  rw [b_or, tg_sh hn]
theorem tg_andn (x : Int32) {n : Nat} (hn : n < 32) (i : Nat) : bt (x &&& (((1 : Int32) <<< (nI n &&& 31)) ^^^ (-1))) i = (bt x i && !decide (i = n)) := by
  rcases Nat.lt_or_ge i 32 with h | h
  · rw [b_and, b_xor, tg_sh hn, b_m1 i h]
    simp
  · rw [b_big h, b_big h]; rfl
theorem tg_lf2 {post : Int32 → Prop} {x : Int32} {c : Nat} (hc : c ≤ 12) (h : ∀ j, j ≤ c → (∀ i, i < j → bt x i = true) → (j < c → bt x j = false) → post (nI j)) : ∀ d j, j + d = c → (∀ i, i < j → bt x i = true) → wX_leastFree_2 post x (nI c) (d + 1) (nI j) := by
  intro d
  induction d with
  | zero =>
    intro j hj hi
    exact br_t (nI_le (by omega) (by omega)) (h j (by omega) hi (by omega))
  | succ d ih =>
    intro j hj hi
    refine br_f (nI_ge (by omega) (by omega)) (tg_isIn (by omega) (tg_zbr (fun e => h j (by omega) hi (fun _ => e)) (fun e => nm_r (nI_1 j) (ih (j + 1) (by omega) (fun i hi' => ?_)))))
    by_cases z : i = j
    · subst z; exact e
    · exact hi i (by omega)
theorem tg_lf {post : Int32 → Prop} {x : Int32} (c : Nat) (hc : c ≤ 12) (h : ∀ j, j ≤ c → (∀ i, i < j → bt x i = true) → (j < c → bt x j = false) → post (nI j)) : wpX_leastFree post x (nI c) :=
  ⟨c + 1, tg_lf2 hc h c 0 (by omega) (fun i h => absurd h (Nat.not_lt_zero i))⟩
/-! one graph: X's masks and packed edges against Y's arrays -/
def gr_N (m : Int32) (la : Nat → Int32) (pr : Nat → Int64) (yla : Nat → Int32) (ypr : Nat → Int64) (n : Nat) : Prop :=
  (bt m n = true ∧ (∃ l, l < 16 ∧ la n = nI l ∧ yla n = nI l) ∧ ypr n = pr n) ∨ (bt m n = false ∧ yla n = -1)
def gr_E (m em : Int32) (ed yfr yto yty ywt : Nat → Int32) (e : Nat) : Prop :=
  (bt em e = true ∧ ∃ f t y w, f < 8 ∧ t < 8 ∧ y < 3 ∧ w ≤ 100 ∧ bt m f = true ∧ bt m t = true ∧ ed e = nI (f + 8 * t + 64 * y + 256 * w) ∧ yfr e = nI f ∧ yto e = nI t ∧ yty e = nI y ∧ ywt e = nI w) ∨ (bt em e = false ∧ yto e = -1)
def gr_R (m em : Int32) (la : Nat → Int32) (pr : Nat → Int64) (ed yla : Nat → Int32) (ypr : Nat → Int64) (yfr yto yty ywt : Nat → Int32) : Prop :=
  (∀ i, 8 ≤ i → bt m i = false) ∧ (∀ i, 12 ≤ i → bt em i = false) ∧ (∀ n, n < 8 → gr_N m la pr yla ypr n) ∧ (∀ e, e < 12 → gr_E m em ed yfr yto yty ywt e)
def gr_S (L : Nat) (sN sE sL : Nat → Int32) (sP : Nat → Int64) (sD yla : Nat → Int32) (ypr : Nat → Int64) (yfr yto yty ywt : Nat → Int32) : Prop :=
  ∀ b, b < L → gr_R (sN b) (sE b) (fun n => sL (b * 8 + n)) (fun n => sP (b * 8 + n)) (fun n => sD (b * 12 + n)) (fun n => yla (8 * (b + 1) + n)) (fun n => ypr (8 * (b + 1) + n)) (fun n => yfr (12 * (b + 1) + n)) (fun n => yto (12 * (b + 1) + n)) (fun n => yty (12 * (b + 1) + n)) (fun n => ywt (12 * (b + 1) + n))
theorem gr_cong {m em : Int32} {la la' : Nat → Int32} {pr pr' : Nat → Int64} {ed ed' yla yla' : Nat → Int32} {ypr ypr' : Nat → Int64} {yfr yfr' yto yto' yty yty' ywt ywt' : Nat → Int32} (h : gr_R m em la pr ed yla ypr yfr yto yty ywt)
    (h1 : ∀ n, n < 8 → la' n = la n ∧ pr' n = pr n ∧ yla' n = yla n ∧ ypr' n = ypr n) (h2 : ∀ e, e < 12 → ed' e = ed e ∧ yfr' e = yfr e ∧ yto' e = yto e ∧ yty' e = yty e ∧ ywt' e = ywt e) : gr_R m em la' pr' ed' yla' ypr' yfr' yto' yty' ywt' := by
  refine ⟨h.1, h.2.1, fun n hn => ?_, fun e he => ?_⟩
  · obtain ⟨a, b, c, d⟩ := h1 n hn
    unfold gr_N
    rw [a, b, c, d]
    exact h.2.2.1 n hn
  · obtain ⟨a, b, c, d, f⟩ := h2 e he
    unfold gr_E
    rw [a, b, c, d, f]
    exact h.2.2.2 e he
theorem gr_keep {L : Nat} {sN sE sL : Nat → Int32} {sP : Nat → Int64} {sD yla yla' : Nat → Int32} {ypr ypr' : Nat → Int64} {yfr yfr' yto yto' yty yty' ywt ywt' : Nat → Int32} (h : gr_S L sN sE sL sP sD yla ypr yfr yto yty ywt)
    (h1 : ∀ j, 8 ≤ j → yla' j = yla j ∧ ypr' j = ypr j) (h2 : ∀ j, 12 ≤ j → yfr' j = yfr j ∧ yto' j = yto j ∧ yty' j = yty j ∧ ywt' j = ywt j) : gr_S L sN sE sL sP sD yla' ypr' yfr' yto' yty' ywt' := fun b hb =>
  gr_cong (h b hb) (fun n _ => ⟨rfl, rfl, (h1 _ (by omega)).1, (h1 _ (by omega)).2⟩) (fun e _ => ⟨rfl, (h2 _ (by omega)).1, (h2 _ (by omega)).2.1, (h2 _ (by omega)).2.2.1, (h2 _ (by omega)).2.2.2⟩)
/-! the query -/
def qu_P (va wa am di lo hi : Nat → Int32) (k : Nat) : Prop :=
  ∃ v w t, v < 4 ∧ w < 16 ∧ t < 8 ∧ va k = nI v ∧ wa k = nI w ∧ am k = nI t ∧ (0 < t → 0 < k ∧ ∃ d l h, d < 3 ∧ 1 ≤ l ∧ l ≤ h ∧ h ≤ 3 ∧ di k = nI d ∧ lo k = nI l ∧ hi k = nI h)
def qu_H (am hi : Nat → Int32) : Nat → Nat
  | 0 => 0
  | k + 1 => qu_H am hi k + (if am k = 0 then 0 else (hi k).toNatClampNeg)
def qu_T (t : Nat) : Prop := t ≤ 5 ∨ (10 ≤ t ∧ t ≤ 16) ∨ (1000 ≤ t ∧ t ≤ 10999)
/-- what is wanted before token k of a condition: so many conditions, so many operands, and whether numbers may stand there -/
def cd_W (c : Nat → Nat) (nm : Nat → Prop) (n : Nat) (cs os : Nat → Nat) (nu : Nat → Prop) : Prop :=
  cs 0 = 1 ∧ os 0 = 0 ∧ cs n = 0 ∧ os n = 0 ∧ ∀ k, k < n →
    (0 < os k ∧ cs (k + 1) = cs k ∧ os (k + 1) = os k - 1 ∧ (nu (k + 1) ↔ nu k) ∧ ((c k < 4 ∧ nm (c k)) ∨ (nu k ∧ 1000 ≤ c k ∧ c k ≤ 10999))) ∨
    (os k = 0 ∧ 0 < cs k ∧ 14 ≤ c k ∧ c k ≤ 15 ∧ cs (k + 1) = cs k + 1 ∧ os (k + 1) = 0) ∨
    (os k = 0 ∧ 0 < cs k ∧ c k = 16 ∧ cs (k + 1) = cs k ∧ os (k + 1) = 0) ∨
    (os k = 0 ∧ 0 < cs k ∧ 10 ≤ c k ∧ c k ≤ 13 ∧ cs (k + 1) = cs k - 1 ∧ os (k + 1) = (if c k = 12 then 1 else 2) ∧ (nu (k + 1) ↔ c k ≠ 13))
/-- what is wanted before token k of an expression -/
def ep_W (c : Nat → Nat) (n : Nat) (ws : Nat → Nat) : Prop :=
  ws 0 = 1 ∧ ws n = 0 ∧ ∀ k, k < n → 0 < ws k ∧ ((c k ≤ 5 ∧ ws (k + 1) = ws k - 1) ∨ ((c k = 10 ∨ c k = 11) ∧ ws (k + 1) = ws k + 1) ∨ (12 ≤ c k ∧ c k ≤ 14 ∧ ws (k + 1) = ws k))
def rl_G (nT eT xlv : Int32) (xla : Nat → Int32) (xpr : Nat → Int64) (xed sN sE sL : Nat → Int32) (sP : Nat → Int64) (sD : Nat → Int32) (ylv : Int32) (yla : Nat → Int32) (ypr : Nat → Int64) (yfr yto yty ywt : Nat → Int32) : Prop :=
  gr_R nT eT xla xpr xed yla ypr yfr yto yty ywt ∧ ∃ L, L ≤ 4 ∧ xlv = nI L ∧ ylv = nI L ∧ gr_S L sN sE sL sP sD yla ypr yfr yto yty ywt
def rl_Q (xpc ypc : Int32) (va wa am di lo hi : Nat → Int32) : Prop :=
  ∃ P, P ≤ 6 ∧ xpc = nI P ∧ ypc = nI P ∧ (∀ k, k < P → qu_P va wa am di lo hi k) ∧ qu_H am hi P ≤ 5
def rl_T (xqc yqc : Int32) (tk : Nat → Int32) : Prop := ∃ n, n ≤ 12 ∧ xqc = nI n ∧ yqc = nI n ∧ ∀ k, k < n → ∃ t, qu_T t ∧ tk k = nI t
def rl_C (xcc ycc xpc : Int32) (va co : Nat → Int32) : Prop := ∃ n c, n ≤ 12 ∧ xcc = nI n ∧ ycc = nI n ∧ (∀ k, k < n → co k = nI (c k)) ∧ (n = 0 ∨ ∃ cs os nu, cd_W c (fun v => ∃ k P, k < P ∧ P ≤ 6 ∧ xpc = nI P ∧ va k = nI v) n cs os nu)
def rl_E (xec yec : Int32) (ex : Nat → Int32) : Prop := ∃ n c, n ≤ 10 ∧ xec = nI n ∧ yec = nI n ∧ (∀ k, k < n → ex k = nI (c k)) ∧ (n = 0 ∨ ∃ ws, ep_W c n ws)
def i_Rel (k : Nat) (u : SX) (v : SY) : Prop :=
  match u, v with
  | (nT, eT, xlv, xpc, xqc, xcc, xec, mc, lw, rc, xla, xpr, xed, sN, sE, sL, sP, sD, pva, pwa, pam, pdi, plo, phi, ptk, pco, pex, tr, ds, ch, ar, rN, rM, s1, s2, s3, s4, s5), (ylv, ypc, yqc, ycc, yec, _, _, _, _, _, _, _, yla, ypr, yfr, yto, yty, ywt, yva, ywa, yam, ydi, ylo, yhi, ytkn, yco, yex, _, _, _, _, _, _, _, _, _, _) =>
    (pva = yva ∧ pwa = ywa ∧ pam = yam ∧ pdi = ydi ∧ plo = ylo ∧ phi = yhi ∧ ptk = ytkn ∧ pco = yco ∧ pex = yex) ∧
    rl_G nT eT xlv xla xpr xed sN sE sL sP sD ylv yla ypr yfr yto yty ywt ∧ rl_Q xpc ypc pva pwa pam pdi plo phi ∧ rl_T xqc yqc ptk ∧ rl_C xcc ycc xpc pva pco ∧ rl_E xec yec pex
theorem i_up {k : Nat} {u : SX} {v : SY} (h : i_Rel k u v) : i_Rel (k + 7) u v := h
variable {nT : Int32} {eT : Int32} {xlv : Int32} {xpc : Int32} {xqc : Int32} {xcc : Int32} {xec : Int32} {mc : Int32} {lw : Int32} {rc : Int32} {xla : Nat → Int32} {xpr : Nat → Int64} {xed : Nat → Int32} {sN : Nat → Int32} {sE : Nat → Int32} {sL : Nat → Int32} {sP : Nat → Int64} {sD : Nat → Int32} {pva : Nat → Int32} {pwa : Nat → Int32} {pam : Nat → Int32} {pdi : Nat → Int32} {plo : Nat → Int32} {phi : Nat → Int32} {ptk : Nat → Int32} {pco : Nat → Int32} {pex : Nat → Int32} {tr : Nat → Int32} {ds : Nat → Int32} {ch : Nat → Int32} {ar : Nat → Int32} {rN : Nat → Int32} {rM : Nat → Int32} {s1 : Nat → Int32} {s2 : Nat → Int32} {s3 : Nat → Int32} {s4 : Nat → Int32} {s5 : Nat → Int32}
variable {ylv : Int32} {ypc : Int32} {yqc : Int32} {ycc : Int32} {yec : Int32} {yde : Int32} {yus : Int32} {ywe : Int32} {yfo : Int32} {yli : Int32} {yso : Int32} {ysu : Int64} {yla : Nat → Int32} {ypr : Nat → Int64} {yfr : Nat → Int32} {yto : Nat → Int32} {yty : Nat → Int32} {ywt : Nat → Int32} {yst : Nat → Int32} {ypa : Nat → Int32} {ysp : Nat → Int32} {ypl : Nat → Int32} {ycp : Nat → Int32} {ybo : Nat → Int32} {ytk : Nat → Int32} {yno : Nat → Int32} {ych : Nat → Int32} {yfa : Nat → Int32}
theorem rl_mk (k : Nat) (hG : rl_G nT eT xlv xla xpr xed sN sE sL sP sD ylv yla ypr yfr yto yty ywt) (hQ : rl_Q xpc ypc pva pwa pam pdi plo phi) (hT : rl_T xqc yqc ptk) (hC : rl_C xcc ycc xpc pva pco) (hE : rl_E xec yec pex) : i_Rel k (nT, eT, xlv, xpc, xqc, xcc, xec, mc, lw, rc, xla, xpr, xed, sN, sE, sL, sP, sD, pva, pwa, pam, pdi, plo, phi, ptk, pco, pex, tr, ds, ch, ar, rN, rM, s1, s2, s3, s4, s5) (ylv, ypc, yqc, ycc, yec, yde, yus, ywe, yfo, yli, yso, ysu, yla, ypr, yfr, yto, yty, ywt, pva, pwa, pam, pdi, plo, phi, ptk, pco, pex, yst, ypa, ysp, ypl, ycp, ybo, ytk, yno, ych, yfa) :=
  ⟨⟨rfl, rfl, rfl, rfl, rfl, rfl, rfl, rfl, rfl⟩, hG, hQ, hT, hC, hE⟩
theorem tg_nit {post : Int32 → Prop} {j : Nat} (hj : j < 8) (h : post (tg_z (bt nT j))) : wpX_nodeIsThere post (nT, eT, xlv, xpc, xqc, xcc, xec, mc, lw, rc, xla, xpr, xed, sN, sE, sL, sP, sD, pva, pwa, pam, pdi, plo, phi, ptk, pco, pex, tr, ds, ch, ar, rN, rM, s1, s2, s3, s4, s5) (nI j) :=
  br_f (nI_pos (by omega)) (br_f (nI_ge (b := 8) hj (by decide)) (tg_isIn (by omega) (tg_zbr (fun e => by rw [e] at h; exact h) (fun e => by rw [e] at h; exact h))))
theorem tg_nit0 {post : Int32 → Prop} {x : Int32} (hx : x < 0 ∨ nI 8 ≤ x) (h : post 0) : wpX_nodeIsThere post (nT, eT, xlv, xpc, xqc, xcc, xec, mc, lw, rc, xla, xpr, xed, sN, sE, sL, sP, sD, pva, pwa, pam, pdi, plo, phi, ptk, pco, pex, tr, ds, ch, ar, rN, rM, s1, s2, s3, s4, s5) x := by
  by_cases c : x < 0
  · exact br_t c h
  · exact br_f c (br_t (hx.resolve_left c) h)
theorem tg_yin {post : Int32 → Prop} {j : Nat} (hj : j < 8) (hR : gr_R nT eT xla xpr xed yla ypr yfr yto yty ywt) (h : post (tg_z (bt nT j))) : wpY_isNode post (ylv, ypc, yqc, ycc, yec, yde, yus, ywe, yfo, yli, yso, ysu, yla, ypr, yfr, yto, yty, ywt, pva, pwa, pam, pdi, plo, phi, ptk, pco, pex, yst, ypa, ysp, ypl, ycp, ybo, ytk, yno, ych, yfa) (nI j) := by
  have e : yla (nI j).toNatClampNeg = yla j := by rw [nI_clamp (by omega)]
  refine br_f (nI_pos (by omega)) (br_f (nI_ge (b := 8) hj (by decide)) ⟨vp_in_nI (by omega) (by omega), ?_⟩)
  rw [e]
  rcases hR.2.2.1 j hj with ⟨a, ⟨l, hl, _, b⟩, _⟩ | ⟨a, b⟩
  · rw [a] at h
    rw [b]
    exact br_f (nI_pos (by omega)) h
  · rw [a] at h
    rw [b]
    exact br_t (by decide) h
theorem tg_yin0 {post : Int32 → Prop} {x : Int32} (hx : x < 0 ∨ nI 8 ≤ x) (h : post 0) : wpY_isNode post (ylv, ypc, yqc, ycc, yec, yde, yus, ywe, yfo, yli, yso, ysu, yla, ypr, yfr, yto, yty, ywt, pva, pwa, pam, pdi, plo, phi, ptk, pco, pex, yst, ypa, ysp, ypl, ycp, ybo, ytk, yno, ych, yfa) x := by
  by_cases c : x < 0
  · exact br_t c h
  · exact br_f c (br_t (hx.resolve_left c) h)
theorem tg_yie {post : Int32 → Prop} {j : Nat} (hj : j < 12) (hR : gr_R nT eT xla xpr xed yla ypr yfr yto yty ywt) (h : post (tg_z (bt eT j))) : wpY_isEdge post (ylv, ypc, yqc, ycc, yec, yde, yus, ywe, yfo, yli, yso, ysu, yla, ypr, yfr, yto, yty, ywt, pva, pwa, pam, pdi, plo, phi, ptk, pco, pex, yst, ypa, ysp, ypl, ycp, ybo, ytk, yno, ych, yfa) (nI j) := by
  have e : yto (nI j).toNatClampNeg = yto j := by rw [nI_clamp (by omega)]
  refine br_f (nI_pos (by omega)) (br_f (nI_ge (b := 12) hj (by decide)) ⟨vp_in_nI (by omega) (by omega), ?_⟩)
  rw [e]
  rcases hR.2.2.2 j hj with ⟨a, f, t, y, w, _, ht, _, _, _, _, _, _, b, _⟩ | ⟨a, b⟩
  · rw [a] at h
    rw [b]
    exact br_f (nI_pos (by omega)) h
  · rw [a] at h
    rw [b]
    exact br_t (by decide) h
theorem tg_yie0 {post : Int32 → Prop} {x : Int32} (hx : x < 0 ∨ nI 12 ≤ x) (h : post 0) : wpY_isEdge post (ylv, ypc, yqc, ycc, yec, yde, yus, ywe, yfo, yli, yso, ysu, yla, ypr, yfr, yto, yty, ywt, pva, pwa, pam, pdi, plo, phi, ptk, pco, pex, yst, ypa, ysp, ypl, ycp, ybo, ytk, yno, ych, yfa) x := by
  by_cases c : x < 0
  · exact br_t c h
  · exact br_f c (br_t (hx.resolve_left c) h)
theorem tg_wi {post : Int32 → Prop} {x : Int32} (a b : Nat) (hb : b < 2 ^ 30) (ha : a ≤ b) (h0 : (x < nI a ∨ nI b < x) → post 0) (h1 : ∀ j, a ≤ j → j ≤ b → x = nI j → post 1) : wpY_within post x (nI a) (nI b) := by
  by_cases c : x < nI a
  · exact br_t c (h0 (Or.inl c))
  · by_cases d : nI b < x
    · exact br_f c (br_t d (h0 (Or.inr d)))
    · refine br_f c (br_f d ?_)
      rcases pk_ix x (n := b + 1) (by omega) with z | z | ⟨j, hj, rfl⟩
      · exact absurd (Int32.lt_of_lt_of_le z (nI_pos' (by omega))) c
      · exact absurd (Int32.lt_of_lt_of_le (nI_lt (Nat.lt_succ_self b) (by omega)) z) d
      · rw [nI_ltI (by omega) (by omega)] at c
        exact h1 j (by omega) (by omega) rfl
end
section
/-! the graph's own methods -/
theorem tg_u {a : Nat → Int32} {v : Int32} {j : Nat} (h : j < 2 ^ 31) : upd a (nI j).toNatClampNeg v = upd a j v := by rw [nI_clamp h]
theorem tg_uL {a : Nat → Int64} {v : Int64} {j : Nat} (h : j < 2 ^ 31) : vp_updL a (nI j).toNatClampNeg v = vp_updL a j v := by rw [nI_clamp h]
theorem tg_ft {m em : Int32} {ed yfr yto yty ywt : Nat → Int32} {e : Nat} (h : gr_E m em ed yfr yto yty ywt e) (hb : bt em e = true) :
    (ed e &&& 7) = yfr e ∧ ((ed e >>> ((3 : Int32) &&& 31)) &&& 7) = yto e ∧ ((ed e >>> ((6 : Int32) &&& 31)) &&& 3) = yty e ∧ (ed e >>> ((8 : Int32) &&& 31)) = ywt e := by
  rcases h with ⟨_, f, t, y, w, hf, ht, hy, hw, _, _, e1, e2, e3, e4, e5⟩ | ⟨a, _⟩
  · rw [e1, e2, e3, e4, e5, pk_andN (by omega) (m := 7) 3 (by decide), pk_shrN (by omega) _ 3 (by decide), pk_shrN (by omega) _ 6 (by decide), pk_shrN (by omega) _ 8 (by decide), pk_andN (by omega) (m := 7) 3 (by decide), pk_andN (by omega) (m := 3) 2 (by decide)]
    refine ⟨congrArg nI ?_, congrArg nI ?_, congrArg nI ?_, congrArg nI ?_⟩ <;> omega
  · rw [a] at hb; exact absurd hb (by decide)
section
variable {nT eT : Int32} {xla : Nat → Int32} {xpr : Nat → Int64} {xed yla : Nat → Int32} {ypr : Nat → Int64} {yfr yto yty ywt : Nat → Int32}
theorem gr_node (h : gr_R nT eT xla xpr xed yla ypr yfr yto yty ywt) {j l : Nat} (hj : j < 8) (hl : l < 16) (x : Int64) :
    gr_R (nT ||| ((1 : Int32) <<< (nI j &&& 31))) eT (upd xla j (nI l)) (vp_updL xpr j x) xed (upd yla j (nI l)) (vp_updL ypr j x) yfr yto yty ywt := by
  refine ⟨fun i hi => ?_, h.2.1, fun n hn => ?_, fun e he => ?_⟩
  · rw [tg_or nT (by omega), h.1 i hi, decide_eq_false (by omega)]; rfl
  · by_cases z : n = j
    · subst z
      exact Or.inl ⟨by rw [tg_or nT (by omega)]; simp, ⟨l, hl, pk_us, pk_us⟩, by rw [pk_uLs, pk_uLs]⟩
    · rcases h.2.2.1 n hn with ⟨a, ⟨l', b, c, d⟩, f⟩ | ⟨a, b⟩
      · exact Or.inl ⟨by rw [tg_or nT (by omega), a]; rfl, ⟨l', b, by rw [pk_un z]; exact c, by rw [pk_un z]; exact d⟩, by rw [pk_uLn z, pk_uLn z]; exact f⟩
      · exact Or.inr ⟨by rw [tg_or nT (by omega), a, decide_eq_false z]; rfl, by rw [pk_un z]; exact b⟩
  · rcases h.2.2.2 e he with ⟨a, f, t, y, w, h1, h2, h3, h4, h5, h6, h7⟩ | b
    · exact Or.inl ⟨a, f, t, y, w, h1, h2, h3, h4, by rw [tg_or nT (by omega), h5]; rfl, by rw [tg_or nT (by omega), h6]; rfl, h7⟩
    · exact Or.inr b
theorem gr_set (h : gr_R nT eT xla xpr xed yla ypr yfr yto yty ywt) (j : Nat) (x : Int64) :
    gr_R nT eT xla (vp_updL xpr j x) xed yla (vp_updL ypr j x) yfr yto yty ywt := by
  refine ⟨h.1, h.2.1, fun n hn => ?_, h.2.2.2⟩
  rcases h.2.2.1 n hn with ⟨a, b, c⟩ | b
  · refine Or.inl ⟨a, b, ?_⟩
    by_cases z : n = j
    · subst z; rw [pk_uLs, pk_uLs]
    · rw [pk_uLn z, pk_uLn z]; exact c
  · exact Or.inr b
theorem gr_label (h : gr_R nT eT xla xpr xed yla ypr yfr yto yty ywt) {j l : Nat} (hb : bt nT j = true) (hl : l < 16) :
    gr_R nT eT (upd xla j (nI l)) xpr xed (upd yla j (nI l)) ypr yfr yto yty ywt := by
  refine ⟨h.1, h.2.1, fun n hn => ?_, h.2.2.2⟩
  by_cases z : n = j
  · subst z
    rcases h.2.2.1 n hn with ⟨a, b, c⟩ | ⟨b, _⟩
    · exact Or.inl ⟨a, ⟨l, hl, pk_us, pk_us⟩, c⟩
    · rw [b] at hb; exact absurd hb (by decide)
  · unfold gr_N
    rw [pk_un z, pk_un z]
    exact h.2.2.1 n hn
theorem gr_edge (h : gr_R nT eT xla xpr xed yla ypr yfr yto yty ywt) {j f t y w : Nat} (hj : j < 12) (hf : f < 8) (ht : t < 8) (hy : y < 3) (hw : w ≤ 100) (bf : bt nT f = true) (btt : bt nT t = true) :
    gr_R nT (eT ||| ((1 : Int32) <<< (nI j &&& 31))) xla xpr (upd xed j (nI (f + 8 * t + 64 * y + 256 * w))) yla ypr (upd yfr j (nI f)) (upd yto j (nI t)) (upd yty j (nI y)) (upd ywt j (nI w)) := by
  refine ⟨h.1, fun i hi => ?_, h.2.2.1, fun e he => ?_⟩
  · rw [tg_or eT (by omega), h.2.1 i hi, decide_eq_false (by omega)]; rfl
  · by_cases z : e = j
    · subst z
      exact Or.inl ⟨by rw [tg_or eT (by omega)]; simp, f, t, y, w, hf, ht, hy, hw, bf, btt, pk_us, pk_us, pk_us, pk_us, pk_us⟩
    · unfold gr_E
      rw [pk_un z, pk_un z, pk_un z, pk_un z, pk_un z, tg_or eT (by omega), decide_eq_false z, Bool.or_false]
      exact h.2.2.2 e he
theorem gr_cut (h : gr_R nT eT xla xpr xed yla ypr yfr yto yty ywt) {j : Nat} (hj : j < 12) :
    gr_R nT (eT &&& (((1 : Int32) <<< (nI j &&& 31)) ^^^ (-1))) xla xpr xed yla ypr yfr (upd yto j (-1)) yty ywt := by
  refine ⟨h.1, fun i hi => ?_, h.2.2.1, fun e he => ?_⟩
  · rw [tg_andn eT (by omega), h.2.1 i hi]; rfl
  · by_cases z : e = j
    · subst z
      exact Or.inr ⟨by rw [tg_andn eT (by omega)]; simp, pk_us⟩
    · unfold gr_E
      rw [pk_un z, tg_andn eT (by omega), decide_eq_false z, Bool.not_false, Bool.and_true]
      exact h.2.2.2 e he
/-- edge e is there and meets node nd -/
def tg_inc (eT : Int32) (yfr yto : Nat → Int32) (nd : Int32) (e : Nat) : Bool := bt eT e && (decide (yfr e = nd) || decide (yto e = nd))
def tg_cnt (f : Nat → Bool) : Nat → Nat
  | 0 => 0
  | n + 1 => tg_cnt f n + (if f n then 1 else 0)
theorem tg_cntle (f : Nat → Bool) : ∀ n, tg_cnt f n ≤ n
  | 0 => Nat.le_refl 0
  | n + 1 => by
    have := tg_cntle f n
    show tg_cnt f n + (if f n then 1 else 0) ≤ n + 1
    split <;> omega
theorem gr_remove (h : gr_R nT eT xla xpr xed yla ypr yfr yto yty ywt) {j : Nat} (hj : j < 8) (x : Int64) {lf : Int32} {to' : Nat → Int32}
    (h1 : ∀ i, bt lf i = (bt eT i && !tg_inc eT yfr yto (nI j) i)) (h2 : ∀ e, e < 12 → to' e = if tg_inc eT yfr yto (nI j) e then -1 else yto e) :
    gr_R (nT &&& (((1 : Int32) <<< (nI j &&& 31)) ^^^ (-1))) lf xla xpr xed (upd yla j (-1)) (vp_updL ypr j x) yfr to' yty ywt := by
  refine ⟨fun i hi => ?_, fun i hi => ?_, fun n hn => ?_, fun e he => ?_⟩
  · rw [tg_andn nT (by omega), h.1 i hi]; rfl
  · rw [h1, h.2.1 i hi]; rfl
  · by_cases z : n = j
    · subst z
      exact Or.inr ⟨by rw [tg_andn nT (by omega)]; simp, pk_us⟩
    · unfold gr_N
      rw [pk_un z, pk_uLn z, tg_andn nT (by omega), decide_eq_false z, Bool.not_false, Bool.and_true]
      exact h.2.2.1 n hn
  · unfold gr_E
    rw [h1 e, h2 e he]
    rcases h.2.2.2 e he with ⟨a, f, t, y, w, hf, ht, hy, hw, h5, h6, h7, h8, h9, h10⟩ | ⟨a, b⟩
    · cases c : tg_inc eT yfr yto (nI j) e
      · left
        have c' := c
        unfold tg_inc at c'
        rw [a, Bool.true_and, Bool.or_eq_false_iff, decide_eq_false_iff_not, decide_eq_false_iff_not, h8, h9, nI_eq (by omega) (by omega), nI_eq (by omega) (by omega)] at c'
        refine ⟨by rw [a]; rfl, f, t, y, w, hf, ht, hy, hw, ?_, ?_, h7, h8, h9, h10⟩
        · rw [tg_andn nT (by omega), h5, decide_eq_false c'.1]; rfl
        · rw [tg_andn nT (by omega), h6, decide_eq_false c'.2]; rfl
      · right
        exact ⟨by rw [a]; rfl, rfl⟩
    · right
      have c : tg_inc eT yfr yto (nI j) e = false := by unfold tg_inc; rw [a]; rfl
      rw [c, a]
      exact ⟨rfl, b⟩
end
end
section
theorem tg_hi {x : Int32} (n : Nat) (hn : n < 2 ^ 30) (h : nI (n + 1) ≤ x) : ¬ x < 0 ∧ ¬ x ≤ nI n ∧ nI n < x := by
  have a : nI n < x := Int32.lt_of_lt_of_le (nI_lt (Nat.lt_succ_self n) (by omega)) h
  have b : (0 : Int32) ≤ nI n := nI_pos' (by omega)
  exact ⟨fun z => absurd (Int32.lt_of_lt_of_le (Int32.lt_trans z (Int32.lt_of_le_of_lt b a)) (Int32.le_refl x)) (Int32.lt_irrefl), fun z => absurd (Int32.lt_of_lt_of_le a z) Int32.lt_irrefl, a⟩
variable {nT : Int32} {eT : Int32} {xlv : Int32} {xpc : Int32} {xqc : Int32} {xcc : Int32} {xec : Int32} {mc : Int32} {lw : Int32} {rc : Int32} {xla : Nat → Int32} {xpr : Nat → Int64} {xed : Nat → Int32} {sN : Nat → Int32} {sE : Nat → Int32} {sL : Nat → Int32} {sP : Nat → Int64} {sD : Nat → Int32} {pva : Nat → Int32} {pwa : Nat → Int32} {pam : Nat → Int32} {pdi : Nat → Int32} {plo : Nat → Int32} {phi : Nat → Int32} {ptk : Nat → Int32} {pco : Nat → Int32} {pex : Nat → Int32} {tr : Nat → Int32} {ds : Nat → Int32} {ch : Nat → Int32} {ar : Nat → Int32} {rN : Nat → Int32} {rM : Nat → Int32} {s1 : Nat → Int32} {s2 : Nat → Int32} {s3 : Nat → Int32} {s4 : Nat → Int32} {s5 : Nat → Int32}
variable {ylv : Int32} {ypc : Int32} {yqc : Int32} {ycc : Int32} {yec : Int32} {yde : Int32} {yus : Int32} {ywe : Int32} {yfo : Int32} {yli : Int32} {yso : Int32} {ysu : Int64} {yla : Nat → Int32} {ypr : Nat → Int64} {yfr : Nat → Int32} {yto : Nat → Int32} {yty : Nat → Int32} {ywt : Nat → Int32} {yst : Nat → Int32} {ypa : Nat → Int32} {ysp : Nat → Int32} {ypl : Nat → Int32} {ycp : Nat → Int32} {ybo : Nat → Int32} {ytk : Nat → Int32} {yno : Nat → Int32} {ych : Nat → Int32} {yfa : Nat → Int32}
theorem tg_yi2 {post : SY → Prop} (h : ∀ yto : Nat → Int32, (∀ j, j < 60 → yto j = -1) → post (ylv, ypc, yqc, ycc, yec, yde, yus, ywe, yfo, yli, yso, ysu, yla, ypr, yfr, yto, yty, ywt, pva, pwa, pam, pdi, plo, phi, ptk, pco, pex, yst, ypa, ysp, ypl, ycp, ybo, ytk, yno, ych, yfa)) : ∀ d i (yto : Nat → Int32), i + d = 60 → (∀ j, j < i → yto j = -1) → wY_init_237 post ylv ypc yqc ycc yec yde yus ywe yfo yli yso ysu (d + 1) (nI i) yla ypr yfr yto yty ywt pva pwa pam pdi plo phi ptk pco pex yst ypa ysp ypl ycp ybo ytk yno ych yfa := by
  intro d
  induction d with
  | zero =>
    intro i yto hi hj
    exact br_t (nI_le (a := 60) (by omega) (by omega)) (h yto (fun j hj' => hj j (by omega)))
  | succ d ih =>
    intro i yto hi hj
    refine br_f (nI_ge (b := 60) (by omega) (by decide)) ⟨vp_in_nI (by omega) (by omega), nm_r (tg_u (by omega)) (nm_r (nI_1 i) (ih (i + 1) _ (by omega) (fun j hj' => ?_)))⟩
    by_cases z : j = i
    · subst z; exact pk_us
    · rw [pk_un z]; exact hj j (by omega)
theorem tg_yi1 {post : SY → Prop} (h : ∀ (yla : Nat → Int32) (ypr : Nat → Int64) (yto : Nat → Int32), (∀ j, j < 40 → yla j = -1) → (∀ j, j < 60 → yto j = -1) → post (ylv, ypc, yqc, ycc, yec, yde, yus, ywe, yfo, yli, yso, ysu, yla, ypr, yfr, yto, yty, ywt, pva, pwa, pam, pdi, plo, phi, ptk, pco, pex, yst, ypa, ysp, ypl, ycp, ybo, ytk, yno, ych, yfa)) : ∀ d i (yla : Nat → Int32) (ypr : Nat → Int64), i + d = 40 → (∀ j, j < i → yla j = -1) → wY_init_207 post ylv ypc yqc ycc yec yde yus ywe yfo yli yso ysu (d + 1) (nI i) yla ypr yfr yto yty ywt pva pwa pam pdi plo phi ptk pco pex yst ypa ysp ypl ycp ybo ytk yno ych yfa := by
  intro d
  induction d with
  | zero =>
    intro i yla ypr hi hj
    exact br_t (nI_le (a := 40) (by omega) (by omega)) ⟨61, tg_yi2 (fun yto ht => h yla ypr yto (fun j hj' => hj j (by omega)) ht) 60 0 yto (by omega) (fun j hj' => absurd hj' (Nat.not_lt_zero j))⟩
  | succ d ih =>
    intro i yla ypr hi hj
    refine br_f (nI_ge (b := 40) (by omega) (by decide)) ⟨vp_in_nI (by omega) (by omega), nm_r (tg_u (by omega)) ⟨vp_in_nI (by omega) (by omega), nm_r (tg_uL (by omega)) (nm_r (nI_1 i) (ih (i + 1) _ _ (by omega) (fun j hj' => ?_)))⟩⟩
    by_cases z : j = i
    · subst z; exact pk_us
    · rw [pk_un z]; exact hj j (by omega)
theorem i_vc0 : wpX_init (fun u => wpY_init (fun v => i_Rel 0 u v)) := by
  refine ⟨41, tg_yi1 (fun yla ypr yto h1 h2 => ?_) 40 0 _ _ (by omega) (fun j hj' => absurd hj' (Nat.not_lt_zero j))⟩
  refine rl_mk 0 ⟨⟨fun i _ => b_0 i, fun i _ => b_0 i, fun n hn => Or.inr ⟨b_0 n, h1 n (by omega)⟩, fun e he => Or.inr ⟨b_0 e, h2 e (by omega)⟩⟩, 0, by omega, rfl, rfl, fun b hb => absurd hb (Nat.not_lt_zero b)⟩ ⟨0, by omega, rfl, rfl, fun b hb => absurd hb (Nat.not_lt_zero b), Nat.zero_le _⟩ ⟨0, by omega, rfl, rfl, fun b hb => absurd hb (Nat.not_lt_zero b)⟩ ⟨0, fun _ => 0, by omega, rfl, rfl, fun b hb => absurd hb (Nat.not_lt_zero b), Or.inl rfl⟩ ⟨0, fun _ => 0, by omega, rfl, rfl, fun b hb => absurd hb (Nat.not_lt_zero b), Or.inl rfl⟩
/-! node -/
theorem tg_ynl {post : Int32 → SY → Prop} {x : Int32} (hR : gr_R nT eT xla xpr xed yla ypr yfr yto yty ywt) {j : Nat} (hj : j ≤ 8) (ha : ∀ i, i < j → bt nT i = true) (hf : j < 8 → bt nT j = false) (h1 : j < 8 → post (nI j) (ylv, ypc, yqc, ycc, yec, yde, yus, ywe, yfo, yli, yso, ysu, (upd yla j x), (vp_updL ypr j 9000000000000000000), yfr, yto, yty, ywt, pva, pwa, pam, pdi, plo, phi, ptk, pco, pex, yst, ypa, ysp, ypl, ycp, ybo, ytk, yno, ych, yfa)) (h2 : j = 8 → post (-2) (ylv, ypc, yqc, ycc, yec, yde, yus, ywe, yfo, yli, yso, ysu, yla, ypr, yfr, yto, yty, ywt, pva, pwa, pam, pdi, plo, phi, ptk, pco, pex, yst, ypa, ysp, ypl, ycp, ybo, ytk, yno, ych, yfa)) : ∀ d i, i + d = j → wY_node_14 post x ylv ypc yqc ycc yec yde yus ywe yfo yli yso ysu yla ypr yfr yto yty ywt pva pwa pam pdi plo phi ptk pco pex yst ypa ysp ypl ycp ybo ytk yno ych yfa (d + 1) (nI i) := by
  intro d
  induction d with
  | zero =>
    intro i hi
    have e : i = j := by omega
    subst e
    by_cases z : i < 8
    · refine br_f (nI_ge (b := 8) z (by decide)) (tg_yin z hR (tg_zbr (fun _ => ⟨vp_in_nI (by omega) (by omega), nm_r (tg_u (by omega)) ⟨vp_in_nI (by omega) (by omega), nm_r (tg_uL (by omega)) (h1 z)⟩⟩) (fun e => ?_)))
      rw [hf z] at e; exact absurd e (by decide)
    · have e : i = 8 := by omega
      exact br_t (nI_le (a := 8) (by omega) (by omega)) (h2 e)
  | succ d ih =>
    intro i hi
    refine br_f (nI_ge (b := 8) (by omega) (by decide)) (tg_yin (by omega) hR (tg_zbr (fun e => ?_) (fun _ => nm_r (nI_1 i) (ih (i + 1) (by omega)))))
    rw [ha i (by omega)] at e; exact absurd e (by decide)
theorem i_vc_node {k : Nat} {u : SX} {v : SY} (I : i_Rel k u v) (hk : k + 7 ≤ 3584) (v1 : Int32) : wpX_node (fun r u' => wpY_node (fun r' v' => r' = r ∧ i_Rel (k + 7) u' v') v v1) u v1 := by
  obtain ⟨nT, eT, xlv, xpc, xqc, xcc, xec, mc, lw, rc, xla, xpr, xed, sN, sE, sL, sP, sD, pva, pwa, pam, pdi, plo, phi, ptk, pco, pex, tr, ds, ch, ar, rN, rM, s1, s2, s3, s4, s5⟩ := u
  obtain ⟨ylv, ypc, yqc, ycc, yec, yde, yus, ywe, yfo, yli, yso, ysu, yla, ypr, yfr, yto, yty, ywt, qpva, qpwa, qpam, qpdi, qplo, qphi, qptk, qpco, qpex, yst, ypa, ysp, ypl, ycp, ybo, ytk, yno, ych, yfa⟩ := v
  obtain ⟨⟨rfl, rfl, rfl, rfl, rfl, rfl, rfl, rfl, rfl⟩, hG, hQ, hT, hC, hE⟩ := I
  obtain ⟨hR, L, hL, rfl, rfl, hS⟩ := hG
  rcases pk_ix v1 (n := 16) (by omega) with c | c | ⟨l, hl, rfl⟩
  · exact br_t c (br_t c (br_t rfl ⟨rfl, rl_mk _ ⟨hR, L, hL, rfl, rfl, hS⟩ hQ hT hC hE⟩))
  · obtain ⟨c0, c1, c2⟩ := tg_hi 15 (by omega) c
    exact br_f c0 (br_f c1 (br_f c0 (br_t c2 (br_t rfl ⟨rfl, rl_mk _ ⟨hR, L, hL, rfl, rfl, hS⟩ hQ hT hC hE⟩))))
  · have p0 : ¬ nI l < 0 := nI_pos (by omega)
    refine br_f p0 (br_t (nI_le (b := 15) (by omega) (by decide)) (tg_lf 8 (by omega) (fun j hj ha hf => ?_)))
    have p1 : ¬ nI 15 < nI l := nI_nlt (by omega) (by omega)
    by_cases z : j < 8
    · refine br_t (nI_lt (b := 8) z (by decide)) (nm_e ⟨vp_in_nI z (by decide), nm_r (tg_u (by omega)) ⟨vp_in_nI z (by decide), nm_r (tg_uL (by omega)) ?_⟩⟩)
      refine br_f p0 (br_f p1 (br_f tg_10 ⟨j + 1, tg_ynl hR hj ha hf (fun _ => ⟨rfl, ?_⟩) (fun e => absurd e (by omega)) j 0 (by omega)⟩))
      exact rl_mk _ ⟨gr_node hR z hl _, L, hL, rfl, rfl, gr_keep hS (fun i hi => ⟨pk_un (by omega), pk_uLn (by omega)⟩) (fun i hi => ⟨rfl, rfl, rfl, rfl⟩)⟩ hQ hT hC hE
    · refine br_f (nI_nlt (a := j) (b := 8) (by omega) (by omega)) ?_
      exact br_f p0 (br_f p1 (br_f tg_10 ⟨j + 1, tg_ynl hR hj ha hf (fun e => absurd e z) (fun _ => ⟨rfl, rl_mk _ ⟨hR, L, hL, rfl, rfl, hS⟩ hQ hT hC hE⟩) j 0 (by omega)⟩))
/-! set, clear, label -/
theorem tg_yas {post : Int32 → SY → Prop} {j : Nat} (hj : j < 8) (hR : gr_R nT eT xla xpr xed yla ypr yfr yto yty ywt) (x : Int64) (h1 : bt nT j = true → post 1 (ylv, ypc, yqc, ycc, yec, yde, yus, ywe, yfo, yli, yso, ysu, yla, (vp_updL ypr j x), yfr, yto, yty, ywt, pva, pwa, pam, pdi, plo, phi, ptk, pco, pex, yst, ypa, ysp, ypl, ycp, ybo, ytk, yno, ych, yfa)) (h0 : bt nT j = false → post 0 (ylv, ypc, yqc, ycc, yec, yde, yus, ywe, yfo, yli, yso, ysu, yla, ypr, yfr, yto, yty, ywt, pva, pwa, pam, pdi, plo, phi, ptk, pco, pex, yst, ypa, ysp, ypl, ycp, ybo, ytk, yno, ych, yfa)) : wpY_assign post (ylv, ypc, yqc, ycc, yec, yde, yus, ywe, yfo, yli, yso, ysu, yla, ypr, yfr, yto, yty, ywt, pva, pwa, pam, pdi, plo, phi, ptk, pco, pex, yst, ypa, ysp, ypl, ycp, ybo, ytk, yno, ych, yfa) (nI j) x := by
  unfold wpY_assign
  refine tg_yin hj hR (tg_zbr (fun e => ?_) (fun e => ⟨vp_in_nI (by omega) (by omega), nm_r (tg_uL (by omega)) ?_⟩))
  · unfold wY_assign_15
    refine tg_yin hj hR ?_
    rw [e]
    exact ⟨rfl, h0 e⟩
  · unfold wY_assign_15
    refine tg_yin hj (gr_set hR j x) ?_
    rw [e]
    exact ⟨rfl, h1 e⟩
theorem tg_yas0 {post : Int32 → SY → Prop} {i : Int32} (hi : i < 0 ∨ nI 8 ≤ i) (x : Int64) (h0 : post 0 (ylv, ypc, yqc, ycc, yec, yde, yus, ywe, yfo, yli, yso, ysu, yla, ypr, yfr, yto, yty, ywt, pva, pwa, pam, pdi, plo, phi, ptk, pco, pex, yst, ypa, ysp, ypl, ycp, ybo, ytk, yno, ych, yfa)) : wpY_assign post (ylv, ypc, yqc, ycc, yec, yde, yus, ywe, yfo, yli, yso, ysu, yla, ypr, yfr, yto, yty, ywt, pva, pwa, pam, pdi, plo, phi, ptk, pco, pex, yst, ypa, ysp, ypl, ycp, ybo, ytk, yno, ych, yfa) i x := by
  unfold wpY_assign
  refine tg_yin0 hi (br_t rfl ?_)
  unfold wY_assign_15
  exact tg_yin0 hi ⟨rfl, h0⟩
theorem i_vc_set {k : Nat} {u : SX} {v : SY} (I : i_Rel k u v) (hk : k + 7 ≤ 3584) (v1 : Int32) (v2 : Int32) : wpX_set (fun r u' => wpY_set (fun r' v' => r' = r ∧ i_Rel (k + 7) u' v') v v1 v2) u v1 v2 := by
  obtain ⟨nT, eT, xlv, xpc, xqc, xcc, xec, mc, lw, rc, xla, xpr, xed, sN, sE, sL, sP, sD, pva, pwa, pam, pdi, plo, phi, ptk, pco, pex, tr, ds, ch, ar, rN, rM, s1, s2, s3, s4, s5⟩ := u
  obtain ⟨ylv, ypc, yqc, ycc, yec, yde, yus, ywe, yfo, yli, yso, ysu, yla, ypr, yfr, yto, yty, ywt, qpva, qpwa, qpam, qpdi, qplo, qphi, qptk, qpco, qpex, yst, ypa, ysp, ypl, ycp, ybo, ytk, yno, ych, yfa⟩ := v
  obtain ⟨⟨rfl, rfl, rfl, rfl, rfl, rfl, rfl, rfl, rfl⟩, hG, hQ, hT, hC, hE⟩ := I
  obtain ⟨hR, L, hL, rfl, rfl, hS⟩ := hG
  unfold wpX_set wpY_set
  have K : v1 < 0 ∨ nI 8 ≤ v1 ∨ ∃ j : Nat, j < 8 ∧ v1 = nI j := pk_ix v1 (n := 8) (by omega)
  rw [← or_assoc] at K
  rcases K with c | ⟨j, hj, rfl⟩
  · exact tg_nit0 c (br_t rfl (tg_yas0 c _ ⟨rfl, rfl, rl_mk _ ⟨hR, L, hL, rfl, rfl, hS⟩ hQ hT hC hE⟩))
  · refine tg_nit hj (tg_zbr (fun e => ?_) (fun e => ⟨vp_in_nI hj (by decide), nm_r (tg_uL (by omega)) ?_⟩))
    · exact tg_yas hj hR _ (fun e' => absurd (e.symm.trans e') (by decide)) (fun _ => ⟨rfl, rfl, rl_mk _ ⟨hR, L, hL, rfl, rfl, hS⟩ hQ hT hC hE⟩)
    · exact tg_yas hj hR _ (fun _ => ⟨rfl, rfl, rl_mk _ ⟨gr_set hR j _, L, hL, rfl, rfl, gr_keep hS (fun i hi => ⟨rfl, pk_uLn (by omega)⟩) (fun i hi => ⟨rfl, rfl, rfl, rfl⟩)⟩ hQ hT hC hE⟩) (fun e' => absurd (e.symm.trans e') (by decide))
theorem i_vc_clear {k : Nat} {u : SX} {v : SY} (I : i_Rel k u v) (hk : k + 7 ≤ 3584) (v1 : Int32) : wpX_clear (fun r u' => wpY_clear (fun r' v' => r' = r ∧ i_Rel (k + 7) u' v') v v1) u v1 := by
  obtain ⟨nT, eT, xlv, xpc, xqc, xcc, xec, mc, lw, rc, xla, xpr, xed, sN, sE, sL, sP, sD, pva, pwa, pam, pdi, plo, phi, ptk, pco, pex, tr, ds, ch, ar, rN, rM, s1, s2, s3, s4, s5⟩ := u
  obtain ⟨ylv, ypc, yqc, ycc, yec, yde, yus, ywe, yfo, yli, yso, ysu, yla, ypr, yfr, yto, yty, ywt, qpva, qpwa, qpam, qpdi, qplo, qphi, qptk, qpco, qpex, yst, ypa, ysp, ypl, ycp, ybo, ytk, yno, ych, yfa⟩ := v
  obtain ⟨⟨rfl, rfl, rfl, rfl, rfl, rfl, rfl, rfl, rfl⟩, hG, hQ, hT, hC, hE⟩ := I
  obtain ⟨hR, L, hL, rfl, rfl, hS⟩ := hG
  unfold wpX_clear wpY_clear
  have K : v1 < 0 ∨ nI 8 ≤ v1 ∨ ∃ j : Nat, j < 8 ∧ v1 = nI j := pk_ix v1 (n := 8) (by omega)
  rw [← or_assoc] at K
  rcases K with c | ⟨j, hj, rfl⟩
  · exact tg_nit0 c (br_t rfl (tg_yas0 c _ ⟨rfl, rfl, rl_mk _ ⟨hR, L, hL, rfl, rfl, hS⟩ hQ hT hC hE⟩))
  · refine tg_nit hj (tg_zbr (fun e => ?_) (fun e => ⟨vp_in_nI hj (by decide), nm_r (tg_uL (by omega)) ?_⟩))
    · exact tg_yas hj hR _ (fun e' => absurd (e.symm.trans e') (by decide)) (fun _ => ⟨rfl, rfl, rl_mk _ ⟨hR, L, hL, rfl, rfl, hS⟩ hQ hT hC hE⟩)
    · exact tg_yas hj hR _ (fun _ => ⟨rfl, rfl, rl_mk _ ⟨gr_set hR j _, L, hL, rfl, rfl, gr_keep hS (fun i hi => ⟨rfl, pk_uLn (by omega)⟩) (fun i hi => ⟨rfl, rfl, rfl, rfl⟩)⟩ hQ hT hC hE⟩) (fun e' => absurd (e.symm.trans e') (by decide))
theorem i_vc_label {k : Nat} {u : SX} {v : SY} (I : i_Rel k u v) (hk : k + 7 ≤ 3584) (v1 : Int32) (v2 : Int32) : wpX_label (fun r u' => wpY_label (fun r' v' => r' = r ∧ i_Rel (k + 7) u' v') v v1 v2) u v1 v2 := by
  obtain ⟨nT, eT, xlv, xpc, xqc, xcc, xec, mc, lw, rc, xla, xpr, xed, sN, sE, sL, sP, sD, pva, pwa, pam, pdi, plo, phi, ptk, pco, pex, tr, ds, ch, ar, rN, rM, s1, s2, s3, s4, s5⟩ := u
  obtain ⟨ylv, ypc, yqc, ycc, yec, yde, yus, ywe, yfo, yli, yso, ysu, yla, ypr, yfr, yto, yty, ywt, qpva, qpwa, qpam, qpdi, qplo, qphi, qptk, qpco, qpex, yst, ypa, ysp, ypl, ycp, ybo, ytk, yno, ych, yfa⟩ := v
  obtain ⟨⟨rfl, rfl, rfl, rfl, rfl, rfl, rfl, rfl, rfl⟩, hG, hQ, hT, hC, hE⟩ := I
  obtain ⟨hR, L, hL, rfl, rfl, hS⟩ := hG
  unfold wpX_label wpY_label
  have K : v1 < 0 ∨ nI 8 ≤ v1 ∨ ∃ j : Nat, j < 8 ∧ v1 = nI j := pk_ix v1 (n := 8) (by omega)
  rw [← or_assoc] at K
  rcases K with c | ⟨j, hj, rfl⟩
  · exact tg_nit0 c (br_t rfl (tg_yin0 c (br_t rfl ⟨rfl, rl_mk _ ⟨hR, L, hL, rfl, rfl, hS⟩ hQ hT hC hE⟩)))
  · have J := rl_mk (k + 7) (mc := mc) (lw := lw) (rc := rc) (tr := tr) (ds := ds) (ch := ch) (ar := ar) (rN := rN) (rM := rM) (s1 := s1) (s2 := s2) (s3 := s3) (s4 := s4) (s5 := s5) (yde := yde) (yus := yus) (ywe := ywe) (yfo := yfo) (yli := yli) (yso := yso) (ysu := ysu) (yst := yst) (ypa := ypa) (ysp := ysp) (ypl := ypl) (ycp := ycp) (ybo := ybo) (ytk := ytk) (yno := yno) (ych := ych) (yfa := yfa) ⟨hR, L, hL, rfl, rfl, hS⟩ hQ hT hC hE
    refine tg_nit hj (tg_zbr (fun e => ?_) (fun e => ?_))
    · refine tg_yin hj hR ?_
      rw [e]
      exact br_t rfl ⟨rfl, J⟩
    · rcases pk_ix v2 (n := 16) (by omega) with c | c | ⟨l, hl, rfl⟩
      · refine br_t c (tg_yin hj hR ?_)
        rw [e]
        exact br_f tg_10 (br_t c (br_t rfl ⟨rfl, J⟩))
      · obtain ⟨c0, c1, c2⟩ := tg_hi 15 (by omega) c
        refine br_f c0 (br_f c1 (tg_yin hj hR ?_))
        rw [e]
        exact br_f tg_10 (br_f c0 (br_t c2 (br_t rfl ⟨rfl, J⟩)))
      · have p0 : ¬ nI l < 0 := nI_pos (by omega)
        have p1 : ¬ nI 15 < nI l := nI_nlt (by omega) (by omega)
        refine br_f p0 (br_t (nI_le (b := 15) (by omega) (by decide)) ⟨vp_in_nI hj (by decide), nm_r (by rw [nI_clamp (by omega)]) ⟨vp_in_nI hj (by decide), nm_r (tg_u (by omega)) (tg_yin hj hR ?_)⟩⟩)
        rw [e]
        refine br_f tg_10 (br_f p0 (br_f p1 (br_f tg_10 ⟨vp_in_nI (by omega) (by omega), nm_r (by rw [nI_clamp (by omega)]) ⟨vp_in_nI (by omega) (by omega), nm_r (tg_u (by omega)) ⟨?_, rl_mk _ ⟨gr_label hR e hl, L, hL, rfl, rfl, gr_keep hS (fun i hi => ⟨pk_un (by omega), rfl⟩) (fun i hi => ⟨rfl, rfl, rfl, rfl⟩)⟩ hQ hT hC hE⟩⟩⟩)))
        rcases hR.2.2.1 j hj with ⟨_, ⟨l', _, a, b⟩, _⟩ | ⟨b, _⟩
        · rw [a, b]
        · rw [b] at e; exact absurd e (by decide)
end
section
/-! edge, cut, remove, property, there -/
theorem nx_or (a b : Nat) : nI a ||| nI b = nI (a ||| b) := by
  apply Int32.toBitVec_inj.1
  show BitVec.ofNat 32 a ||| BitVec.ofNat 32 b = BitVec.ofNat 32 (a ||| b)
  apply BitVec.eq_of_getLsbD_eq
  intro i hi
  simp [hi]
theorem tg_pk (i : Nat) {s w : Nat} (hs : s < 2 ^ i) : nI s ||| nI (w * 2 ^ i) = nI (s + 2 ^ i * w) := by
  rw [nx_or, Nat.or_comm, Nat.mul_comm, ← Nat.two_pow_add_eq_or_of_lt hs, Nat.add_comm]
theorem tg_pack {f t y w : Nat} (hf : f < 8) (ht : t < 8) (hy : y < 3) (hw : w ≤ 100) :
    (((nI f ||| (nI t <<< ((3 : Int32) &&& 31))) ||| (nI y <<< ((6 : Int32) &&& 31))) ||| (nI w <<< ((8 : Int32) &&& 31))) = nI (f + 8 * t + 64 * y + 256 * w) := by
  rw [pk_shlN _ 3 (by decide) (by omega), pk_shlN _ 6 (by decide) (by omega), pk_shlN _ 8 (by decide) (by omega), tg_pk 3 (by omega), tg_pk 6 (by omega), tg_pk 8 (by omega)]
variable {nT : Int32} {eT : Int32} {xlv : Int32} {xpc : Int32} {xqc : Int32} {xcc : Int32} {xec : Int32} {mc : Int32} {lw : Int32} {rc : Int32} {xla : Nat → Int32} {xpr : Nat → Int64} {xed : Nat → Int32} {sN : Nat → Int32} {sE : Nat → Int32} {sL : Nat → Int32} {sP : Nat → Int64} {sD : Nat → Int32} {pva : Nat → Int32} {pwa : Nat → Int32} {pam : Nat → Int32} {pdi : Nat → Int32} {plo : Nat → Int32} {phi : Nat → Int32} {ptk : Nat → Int32} {pco : Nat → Int32} {pex : Nat → Int32} {tr : Nat → Int32} {ds : Nat → Int32} {ch : Nat → Int32} {ar : Nat → Int32} {rN : Nat → Int32} {rM : Nat → Int32} {s1 : Nat → Int32} {s2 : Nat → Int32} {s3 : Nat → Int32} {s4 : Nat → Int32} {s5 : Nat → Int32}
variable {ylv : Int32} {ypc : Int32} {yqc : Int32} {ycc : Int32} {yec : Int32} {yde : Int32} {yus : Int32} {ywe : Int32} {yfo : Int32} {yli : Int32} {yso : Int32} {ysu : Int64} {yla : Nat → Int32} {ypr : Nat → Int64} {yfr : Nat → Int32} {yto : Nat → Int32} {yty : Nat → Int32} {ywt : Nat → Int32} {yst : Nat → Int32} {ypa : Nat → Int32} {ysp : Nat → Int32} {ypl : Nat → Int32} {ycp : Nat → Int32} {ybo : Nat → Int32} {ytk : Nat → Int32} {yno : Nat → Int32} {ych : Nat → Int32} {yfa : Nat → Int32}
theorem tg_yieb {post : Int32 → Prop} {j : Nat} (hj : j < 12) (b : Bool) (h0 : b = false → yto j = -1) (h1 : b = true → ∃ t, t < 8 ∧ yto j = nI t) (h : post (tg_z b)) : wpY_isEdge post (ylv, ypc, yqc, ycc, yec, yde, yus, ywe, yfo, yli, yso, ysu, yla, ypr, yfr, yto, yty, ywt, pva, pwa, pam, pdi, plo, phi, ptk, pco, pex, yst, ypa, ysp, ypl, ycp, ybo, ytk, yno, ych, yfa) (nI j) := by
  have e : yto (nI j).toNatClampNeg = yto j := by rw [nI_clamp (by omega)]
  refine br_f (nI_pos (by omega)) (br_f (nI_ge (b := 12) hj (by decide)) ⟨vp_in_nI (by omega) (by omega), ?_⟩)
  rw [e]
  cases b
  · rw [h0 rfl]
    exact br_t (by decide) h
  · obtain ⟨t, ht, e⟩ := h1 rfl
    rw [e]
    exact br_f (nI_pos (by omega)) h
theorem gr_eb (hR : gr_R nT eT xla xpr xed yla ypr yfr yto yty ywt) {e : Nat} (he : e < 12) : (bt eT e = false → yto e = -1) ∧ (bt eT e = true → ∃ t, t < 8 ∧ yto e = nI t) := by
  rcases hR.2.2.2 e he with ⟨a, f, t, y, w, _, ht, _, _, _, _, _, _, b, _⟩ | ⟨a, b⟩
  · exact ⟨fun z => absurd (a.symm.trans z) (by decide), fun _ => ⟨t, ht, b⟩⟩
  · exact ⟨fun _ => b, fun z => absurd (a.symm.trans z) (by decide)⟩
theorem tg_yel {post : Int32 → SY → Prop} {x1 x2 x3 x4 : Int32} (hR : gr_R nT eT xla xpr xed yla ypr yfr yto yty ywt) {j : Nat} (hj : j ≤ 12) (ha : ∀ i, i < j → bt eT i = true) (hf : j < 12 → bt eT j = false) (h1 : j < 12 → post (nI j) (ylv, ypc, yqc, ycc, yec, yde, yus, ywe, yfo, yli, yso, ysu, yla, ypr, (upd yfr j x1), (upd yto j x2), (upd yty j x3), (upd ywt j x4), pva, pwa, pam, pdi, plo, phi, ptk, pco, pex, yst, ypa, ysp, ypl, ycp, ybo, ytk, yno, ych, yfa)) (h2 : j = 12 → post (-2) (ylv, ypc, yqc, ycc, yec, yde, yus, ywe, yfo, yli, yso, ysu, yla, ypr, yfr, yto, yty, ywt, pva, pwa, pam, pdi, plo, phi, ptk, pco, pex, yst, ypa, ysp, ypl, ycp, ybo, ytk, yno, ych, yfa)) : ∀ d i, i + d = j → wY_edge_41 post x1 x2 x3 x4 ylv ypc yqc ycc yec yde yus ywe yfo yli yso ysu yla ypr yfr yto yty ywt pva pwa pam pdi plo phi ptk pco pex yst ypa ysp ypl ycp ybo ytk yno ych yfa (d + 1) (nI i) := by
  intro d
  induction d with
  | zero =>
    intro i hi
    have e : i = j := by omega
    subst e
    by_cases z : i < 12
    · have w : vp_in (nI i) 60 := vp_in_nI (by omega) (by omega)
      refine br_f (nI_ge (b := 12) z (by decide)) (tg_yie z hR (tg_zbr (fun _ => ⟨w, nm_r (tg_u (by omega)) ⟨w, nm_r (tg_u (by omega)) ⟨w, nm_r (tg_u (by omega)) ⟨w, nm_r (tg_u (by omega)) (h1 z)⟩⟩⟩⟩) (fun e => ?_)))
      rw [hf z] at e; exact absurd e (by decide)
    · have e : i = 12 := by omega
      exact br_t (nI_le (a := 12) (by omega) (by omega)) (h2 e)
  | succ d ih =>
    intro i hi
    refine br_f (nI_ge (b := 12) (by omega) (by decide)) (tg_yie (by omega) hR (tg_zbr (fun e => ?_) (fun _ => nm_r (nI_1 i) (ih (i + 1) (by omega)))))
    rw [ha i (by omega)] at e; exact absurd e (by decide)
theorem i_vc_edge {k : Nat} {u : SX} {v : SY} (I : i_Rel k u v) (hk : k + 7 ≤ 3584) (v1 : Int32) (v2 : Int32) (v3 : Int32) (v4 : Int32) : wpX_edge (fun r u' => wpY_edge (fun r' v' => r' = r ∧ i_Rel (k + 7) u' v') v v1 v2 v3 v4) u v1 v2 v3 v4 := by
  obtain ⟨nT, eT, xlv, xpc, xqc, xcc, xec, mc, lw, rc, xla, xpr, xed, sN, sE, sL, sP, sD, pva, pwa, pam, pdi, plo, phi, ptk, pco, pex, tr, ds, ch, ar, rN, rM, s1, s2, s3, s4, s5⟩ := u
  obtain ⟨ylv, ypc, yqc, ycc, yec, yde, yus, ywe, yfo, yli, yso, ysu, yla, ypr, yfr, yto, yty, ywt, qpva, qpwa, qpam, qpdi, qplo, qphi, qptk, qpco, qpex, yst, ypa, ysp, ypl, ycp, ybo, ytk, yno, ych, yfa⟩ := v
  obtain ⟨⟨rfl, rfl, rfl, rfl, rfl, rfl, rfl, rfl, rfl⟩, hG, hQ, hT, hC, hE⟩ := I
  obtain ⟨hR, L, hL, rfl, rfl, hS⟩ := hG
  have J := rl_mk (k + 7) (mc := mc) (lw := lw) (rc := rc) (tr := tr) (ds := ds) (ch := ch) (ar := ar) (rN := rN) (rM := rM) (s1 := s1) (s2 := s2) (s3 := s3) (s4 := s4) (s5 := s5) (yde := yde) (yus := yus) (ywe := ywe) (yfo := yfo) (yli := yli) (yso := yso) (ysu := ysu) (yst := yst) (ypa := ypa) (ysp := ysp) (ypl := ypl) (ycp := ycp) (ybo := ybo) (ytk := ytk) (yno := yno) (ych := ych) (yfa := yfa) ⟨hR, L, hL, rfl, rfl, hS⟩ hQ hT hC hE
  unfold wpX_edge wpY_edge
  have K : v1 < 0 ∨ nI 8 ≤ v1 ∨ ∃ j : Nat, j < 8 ∧ v1 = nI j := pk_ix v1 (n := 8) (by omega)
  rw [← or_assoc] at K
  rcases K with c | ⟨f, hf, rfl⟩
  · exact tg_nit0 c (br_t rfl (tg_yin0 c (br_t rfl ⟨rfl, J⟩)))
  refine tg_nit hf (tg_zbr (fun e1 => ?_) (fun e1 => ?_))
  · refine tg_yin hf hR ?_
    rw [e1]
    exact br_t rfl ⟨rfl, J⟩
  have K : v2 < 0 ∨ nI 8 ≤ v2 ∨ ∃ j : Nat, j < 8 ∧ v2 = nI j := pk_ix v2 (n := 8) (by omega)
  rw [← or_assoc] at K
  rcases K with c | ⟨t, ht, rfl⟩
  · refine tg_nit0 c (br_t rfl (tg_yin hf hR ?_))
    rw [e1]
    exact br_f tg_10 (tg_yin0 c (br_t rfl ⟨rfl, J⟩))
  refine tg_nit ht (tg_zbr (fun e2 => ?_) (fun e2 => ?_))
  · refine tg_yin hf hR ?_
    rw [e1]
    refine br_f tg_10 (tg_yin ht hR ?_)
    rw [e2]
    exact br_t rfl ⟨rfl, J⟩
  rcases pk_ix v3 (n := 3) (by omega) with c | c | ⟨y, hy, rfl⟩
  · refine br_t c (tg_yin hf hR ?_)
    rw [e1]
    refine br_f tg_10 (tg_yin ht hR ?_)
    rw [e2]
    exact br_f tg_10 (br_t c (br_t rfl ⟨rfl, J⟩))
  · obtain ⟨c0, c1, c2⟩ := tg_hi 2 (by omega) c
    refine br_f c0 (br_t c (tg_yin hf hR ?_))
    rw [e1]
    refine br_f tg_10 (tg_yin ht hR ?_)
    rw [e2]
    exact br_f tg_10 (br_f c0 (br_t c2 (br_t rfl ⟨rfl, J⟩)))
  have y0 : ¬ nI y < 0 := nI_pos (by omega)
  have y1 : ¬ nI 2 < nI y := nI_nlt (by omega) (by omega)
  have y2 : ¬ nI 3 ≤ nI y := nI_ge (by omega) (by omega)
  rcases pk_ix v4 (n := 101) (by omega) with c | c | ⟨w, hw, rfl⟩
  · refine br_f y0 (br_f y2 (br_t c (tg_yin hf hR ?_)))
    rw [e1]
    refine br_f tg_10 (tg_yin ht hR ?_)
    rw [e2]
    exact br_f tg_10 (br_f y0 (br_f y1 (br_f tg_10 (br_t c (br_t rfl ⟨rfl, J⟩)))))
  · obtain ⟨c0, c1, c2⟩ := tg_hi 100 (by omega) c
    refine br_f y0 (br_f y2 (br_f c0 (br_f c1 (tg_yin hf hR ?_))))
    rw [e1]
    refine br_f tg_10 (tg_yin ht hR ?_)
    rw [e2]
    exact br_f tg_10 (br_f y0 (br_f y1 (br_f tg_10 (br_f c0 (br_t c2 (br_t rfl ⟨rfl, J⟩))))))
  have w0 : ¬ nI w < 0 := nI_pos (by omega)
  have w1 : ¬ nI 100 < nI w := nI_nlt (by omega) (by omega)
  refine br_f y0 (br_f y2 (br_f w0 (br_t (nI_le (b := 100) (by omega) (by omega)) (tg_lf 12 (by omega) (fun j hj ha hfr => ?_)))))
  by_cases z : j < 12
  · refine br_t (nI_lt (b := 12) z (by decide)) (nm_e ⟨vp_in_nI z (by decide), nm_r (by rw [tg_pack hf ht hy (by omega), tg_u (by omega)]) (tg_yin hf hR ?_)⟩)
    rw [e1]
    refine br_f tg_10 (tg_yin ht hR ?_)
    rw [e2]
    refine br_f tg_10 (br_f y0 (br_f y1 (br_f tg_10 (br_f w0 (br_f w1 (br_f tg_10 ⟨j + 1, tg_yel hR hj ha hfr (fun _ => ⟨rfl, ?_⟩) (fun e => absurd e (by omega)) j 0 (by omega)⟩))))))
    exact rl_mk _ ⟨gr_edge hR z hf ht hy (by omega) e1 e2, L, hL, rfl, rfl, gr_keep hS (fun i hi => ⟨rfl, rfl⟩) (fun i hi => ⟨pk_un (by omega), pk_un (by omega), pk_un (by omega), pk_un (by omega)⟩)⟩ hQ hT hC hE
  · refine br_f (nI_nlt (a := j) (b := 12) (by omega) (by omega)) (tg_yin hf hR ?_)
    rw [e1]
    refine br_f tg_10 (tg_yin ht hR ?_)
    rw [e2]
    exact br_f tg_10 (br_f y0 (br_f y1 (br_f tg_10 (br_f w0 (br_f w1 (br_f tg_10 ⟨j + 1, tg_yel hR hj ha hfr (fun e => absurd e z) (fun _ => ⟨rfl, J⟩) j 0 (by omega)⟩))))))
theorem i_vc_cut {k : Nat} {u : SX} {v : SY} (I : i_Rel k u v) (hk : k + 7 ≤ 3584) (v1 : Int32) : wpX_cut (fun r u' => wpY_cut (fun r' v' => r' = r ∧ i_Rel (k + 7) u' v') v v1) u v1 := by
  obtain ⟨nT, eT, xlv, xpc, xqc, xcc, xec, mc, lw, rc, xla, xpr, xed, sN, sE, sL, sP, sD, pva, pwa, pam, pdi, plo, phi, ptk, pco, pex, tr, ds, ch, ar, rN, rM, s1, s2, s3, s4, s5⟩ := u
  obtain ⟨ylv, ypc, yqc, ycc, yec, yde, yus, ywe, yfo, yli, yso, ysu, yla, ypr, yfr, yto, yty, ywt, qpva, qpwa, qpam, qpdi, qplo, qphi, qptk, qpco, qpex, yst, ypa, ysp, ypl, ycp, ybo, ytk, yno, ych, yfa⟩ := v
  obtain ⟨⟨rfl, rfl, rfl, rfl, rfl, rfl, rfl, rfl, rfl⟩, hG, hQ, hT, hC, hE⟩ := I
  obtain ⟨hR, L, hL, rfl, rfl, hS⟩ := hG
  have J := rl_mk (k + 7) (mc := mc) (lw := lw) (rc := rc) (tr := tr) (ds := ds) (ch := ch) (ar := ar) (rN := rN) (rM := rM) (s1 := s1) (s2 := s2) (s3 := s3) (s4 := s4) (s5 := s5) (yde := yde) (yus := yus) (ywe := ywe) (yfo := yfo) (yli := yli) (yso := yso) (ysu := ysu) (yst := yst) (ypa := ypa) (ysp := ysp) (ypl := ypl) (ycp := ycp) (ybo := ybo) (ytk := ytk) (yno := yno) (ych := ych) (yfa := yfa) ⟨hR, L, hL, rfl, rfl, hS⟩ hQ hT hC hE
  unfold wpX_cut wpY_cut
  rcases pk_ix v1 (n := 12) (by omega) with c | c | ⟨j, hj, rfl⟩
  · exact br_t c (br_t c (br_t rfl ⟨rfl, rfl, J⟩))
  · obtain ⟨c0, c1, c2⟩ := tg_hi 11 (by omega) c
    exact br_f c0 (br_t c (br_f c0 (br_t c (br_t rfl ⟨rfl, rfl, J⟩))))
  · refine br_f (nI_pos (by omega)) (br_f (nI_ge (b := 12) hj (by decide)) (tg_isIn (by omega) (tg_zbr (fun e => ?_) (fun e => nm_e ?_))))
    · refine tg_yie hj hR ?_
      rw [e]
      exact br_t rfl ⟨rfl, rfl, J⟩
    · refine tg_yie hj hR ?_
      rw [e]
      exact br_f tg_10 ⟨vp_in_nI (by omega) (by omega), nm_r (tg_u (by omega)) ⟨rfl, rfl, rl_mk _ ⟨gr_cut hR hj, L, hL, rfl, rfl, gr_keep hS (fun i hi => ⟨rfl, rfl⟩) (fun i hi => ⟨rfl, pk_un (by omega), rfl, rfl⟩)⟩ hQ hT hC hE⟩⟩
theorem i_vc_property {k : Nat} {u : SX} {v : SY} (I : i_Rel k u v) (hk : k + 7 ≤ 3584) (v1 : Int32) : wpX_property (fun r => wpY_property (fun r' => r' = r ∧ i_Rel (k + 7) u v) v v1) u v1 := by
  obtain ⟨nT, eT, xlv, xpc, xqc, xcc, xec, mc, lw, rc, xla, xpr, xed, sN, sE, sL, sP, sD, pva, pwa, pam, pdi, plo, phi, ptk, pco, pex, tr, ds, ch, ar, rN, rM, s1, s2, s3, s4, s5⟩ := u
  obtain ⟨ylv, ypc, yqc, ycc, yec, yde, yus, ywe, yfo, yli, yso, ysu, yla, ypr, yfr, yto, yty, ywt, qpva, qpwa, qpam, qpdi, qplo, qphi, qptk, qpco, qpex, yst, ypa, ysp, ypl, ycp, ybo, ytk, yno, ych, yfa⟩ := v
  obtain ⟨⟨rfl, rfl, rfl, rfl, rfl, rfl, rfl, rfl, rfl⟩, hG, hQ, hT, hC, hE⟩ := I
  obtain ⟨hR, L, hL, rfl, rfl, hS⟩ := hG
  have J := rl_mk (k + 7) (mc := mc) (lw := lw) (rc := rc) (tr := tr) (ds := ds) (ch := ch) (ar := ar) (rN := rN) (rM := rM) (s1 := s1) (s2 := s2) (s3 := s3) (s4 := s4) (s5 := s5) (yde := yde) (yus := yus) (ywe := ywe) (yfo := yfo) (yli := yli) (yso := yso) (ysu := ysu) (yst := yst) (ypa := ypa) (ysp := ysp) (ypl := ypl) (ycp := ycp) (ybo := ybo) (ytk := ytk) (yno := yno) (ych := ych) (yfa := yfa) ⟨hR, L, hL, rfl, rfl, hS⟩ hQ hT hC hE
  unfold wpX_property wpY_property
  have K : v1 < 0 ∨ nI 8 ≤ v1 ∨ ∃ j : Nat, j < 8 ∧ v1 = nI j := pk_ix v1 (n := 8) (by omega)
  rw [← or_assoc] at K
  rcases K with c | ⟨j, hj, rfl⟩
  · exact tg_nit0 c (br_t rfl (tg_yin0 c (br_t rfl ⟨rfl, J⟩)))
  · refine tg_nit hj (tg_zbr (fun e => tg_yin hj hR ?_) (fun e => ⟨vp_in_nI hj (by decide), tg_yin hj hR ?_⟩))
    · rw [e]
      exact br_t rfl ⟨rfl, J⟩
    · rw [e]
      refine br_f tg_10 ⟨vp_in_nI (by omega) (by omega), ?_, J⟩
      rcases hR.2.2.1 j hj with ⟨_, _, a⟩ | ⟨b, _⟩
      · rw [nI_clamp (by omega)]; exact a
      · rw [b] at e; exact absurd e (by decide)
end
section
/-! remove, there -/
theorem tg_incs {eT : Int32} {yfr yto : Nat → Int32} {nd : Int32} (i : Nat) : tg_cnt (tg_inc eT yfr yto nd) (i + 1) = tg_cnt (tg_inc eT yfr yto nd) i + (if tg_inc eT yfr yto nd i then 1 else 0) := rfl
variable {nT : Int32} {eT : Int32} {xlv : Int32} {xpc : Int32} {xqc : Int32} {xcc : Int32} {xec : Int32} {mc : Int32} {lw : Int32} {rc : Int32} {xla : Nat → Int32} {xpr : Nat → Int64} {xed : Nat → Int32} {sN : Nat → Int32} {sE : Nat → Int32} {sL : Nat → Int32} {sP : Nat → Int64} {sD : Nat → Int32} {pva : Nat → Int32} {pwa : Nat → Int32} {pam : Nat → Int32} {pdi : Nat → Int32} {plo : Nat → Int32} {phi : Nat → Int32} {ptk : Nat → Int32} {pco : Nat → Int32} {pex : Nat → Int32} {tr : Nat → Int32} {ds : Nat → Int32} {ch : Nat → Int32} {ar : Nat → Int32} {rN : Nat → Int32} {rM : Nat → Int32} {s1 : Nat → Int32} {s2 : Nat → Int32} {s3 : Nat → Int32} {s4 : Nat → Int32} {s5 : Nat → Int32}
variable {ylv : Int32} {ypc : Int32} {yqc : Int32} {ycc : Int32} {yec : Int32} {yde : Int32} {yus : Int32} {ywe : Int32} {yfo : Int32} {yli : Int32} {yso : Int32} {ysu : Int64} {yla : Nat → Int32} {ypr : Nat → Int64} {yfr : Nat → Int32} {yto : Nat → Int32} {yty : Nat → Int32} {ywt : Nat → Int32} {yst : Nat → Int32} {ypa : Nat → Int32} {ysp : Nat → Int32} {ypl : Nat → Int32} {ycp : Nat → Int32} {ybo : Nat → Int32} {ytk : Nat → Int32} {yno : Nat → Int32} {ych : Nat → Int32} {yfa : Nat → Int32}
theorem tg_inv_s {lf : Int32} {i : Nat} {nd : Int32} (hl : ∀ b, bt lf b = (bt eT b && !(decide (b < i) && tg_inc eT yfr yto nd b))) (h : tg_inc eT yfr yto nd i = false) : ∀ b, bt lf b = (bt eT b && !(decide (b < i + 1) && tg_inc eT yfr yto nd b)) := by
  intro b
  rw [hl b]
  by_cases z : b = i
  · subst z; rw [h]; simp
  · rw [show decide (b < i + 1) = decide (b < i) from by simp only [decide_eq_decide]; omega]
theorem tg_inv_t {lf : Int32} {i : Nat} (hi : i < 12) {nd : Int32} (hl : ∀ b, bt lf b = (bt eT b && !(decide (b < i) && tg_inc eT yfr yto nd b))) (h : tg_inc eT yfr yto nd i = true) : ∀ b, bt (lf &&& (((1 : Int32) <<< (nI i &&& 31)) ^^^ (-1))) b = (bt eT b && !(decide (b < i + 1) && tg_inc eT yfr yto nd b)) := by
  intro b
  rw [tg_andn lf (by omega), hl b]
  by_cases z : b = i
  · subst z; rw [h]; simp
  · rw [show decide (b < i + 1) = decide (b < i) from by simp only [decide_eq_decide]; omega, decide_eq_false z]; simp
theorem tg_xrm {post : Int32 → SX → Prop} {j : Nat} {x2 : Int32} (hR : gr_R nT eT xla xpr xed yla ypr yfr yto yty ywt)
    (h1 : (tg_cnt (tg_inc eT yfr yto (nI j)) 12 = 0 ∨ ¬ x2 = 0) → ∀ lf, (∀ i, bt lf i = (bt eT i && !tg_inc eT yfr yto (nI j) i)) → post (nI (tg_cnt (tg_inc eT yfr yto (nI j)) 12)) ((nT &&& (((1 : Int32) <<< (nI j &&& 31)) ^^^ (-1))), lf, xlv, xpc, xqc, xcc, xec, mc, lw, rc, xla, xpr, xed, sN, sE, sL, sP, sD, pva, pwa, pam, pdi, plo, phi, ptk, pco, pex, tr, ds, ch, ar, rN, rM, s1, s2, s3, s4, s5))
    (h2 : 0 < tg_cnt (tg_inc eT yfr yto (nI j)) 12 → x2 = 0 → post (-1) (nT, eT, xlv, xpc, xqc, xcc, xec, mc, lw, rc, xla, xpr, xed, sN, sE, sL, sP, sD, pva, pwa, pam, pdi, plo, phi, ptk, pco, pex, tr, ds, ch, ar, rN, rM, s1, s2, s3, s4, s5)) : ∀ d i lf, i + d = 12 → (∀ b, bt lf b = (bt eT b && !(decide (b < i) && tg_inc eT yfr yto (nI j) b))) → wX_remove_21 post (nI j) x2 nT eT xlv xpc xqc xcc xec mc lw rc xla xpr xed sN sE sL sP sD pva pwa pam pdi plo phi ptk pco pex tr ds ch ar rN rM s1 s2 s3 s4 s5 (d + 1) (nI (tg_cnt (tg_inc eT yfr yto (nI j)) i)) lf (nI i) := by
  intro d
  induction d with
  | zero =>
    intro i lf hi hl
    have e : i = 12 := by omega
    subst e
    have hc := tg_cntle (tg_inc eT yfr yto (nI j)) 12
    have hl' : ∀ b, bt lf b = (bt eT b && !tg_inc eT yfr yto (nI j) b) := by
      intro b
      rw [hl b]
      by_cases z : b < 12
      · simp [z]
      · rw [hR.2.1 b (by omega)]; rfl
    refine br_t (nI_le (a := 12) (by omega) (by omega)) ?_
    by_cases z : tg_cnt (tg_inc eT yfr yto (nI j)) 12 = 0
    · refine br_t (by rw [z]; decide) (nm_e ?_)
      exact h1 (Or.inl z) lf hl'
    · refine br_f (nI_nle (by omega) (by omega)) (br_c (fun e => h2 (by omega) e) (fun e => nm_e ?_))
      exact h1 (Or.inr e) lf hl'
  | succ d ih =>
    intro i lf hi hl
    have hc := tg_cntle (tg_inc eT yfr yto (nI j)) i
    refine br_f (nI_ge (b := 12) (by omega) (by decide)) (tg_isIn (by omega) (tg_zbr (fun e => ?_) (fun e => ?_)))
    · have z : tg_inc eT yfr yto (nI j) i = false := by unfold tg_inc; rw [e]; rfl
      refine nm_r (nI_1 i) ?_
      have := ih (i + 1) lf (by omega) (tg_inv_s hl z)
      rw [tg_incs, z] at this
      exact this
    · obtain ⟨q1, q2, _, _⟩ := tg_ft (hR.2.2.2 i (by omega)) e
      have w : vp_in (nI i) 12 := vp_in_nI (by omega) (by omega)
      have c0 : (nI i).toNatClampNeg = i := nI_clamp (by omega)
      have yes : tg_inc eT yfr yto (nI j) i = true → wX_remove_60 post (wX_remove_21 post (nI j) x2 nT eT xlv xpc xqc xcc xec mc lw rc xla xpr xed sN sE sL sP sD pva pwa pam pdi plo phi ptk pco pex tr ds ch ar rN rM s1 s2 s3 s4 s5 (d + 1)) (nI j) x2 (nI (tg_cnt (tg_inc eT yfr yto (nI j)) i)) lf (nI i) nT eT xlv xpc xqc xcc xec mc lw rc xla xpr xed sN sE sL sP sD pva pwa pam pdi plo phi ptk pco pex tr ds ch ar rN rM s1 s2 s3 s4 s5 := by
        intro z
        refine nm_e (nm_r (nI_1 _) (nm_r (nI_1 i) ?_))
        have := ih (i + 1) _ (by omega) (tg_inv_t (by omega) hl z)
        rw [tg_incs, z] at this
        exact this
      refine ⟨w, ?_⟩
      rw [c0, q1]
      refine br_c (fun e1 => yes (by unfold tg_inc; rw [e, decide_eq_true e1]; rfl)) (fun e1 => ⟨w, ?_⟩)
      rw [c0, q2]
      refine br_c (fun e2 => yes (by unfold tg_inc; rw [e, decide_eq_true e2]; simp)) (fun e2 => nm_r (nI_1 i) ?_)
      have z : tg_inc eT yfr yto (nI j) i = false := by unfold tg_inc; rw [decide_eq_false e1, decide_eq_false e2]; simp
      have := ih (i + 1) lf (by omega) (tg_inv_s hl z)
      rw [tg_incs, z] at this
      exact this
theorem tg_yrm1 {post : Int32 → SY → Prop} {j : Nat} {x2 : Int32} (hR : gr_R nT eT xla xpr xed yla ypr yfr yto yty ywt)
    (h1 : (tg_cnt (tg_inc eT yfr yto (nI j)) 12 = 0 ∨ ¬ x2 = 0) → ∃ n75, wY_remove_75 post (nI j) (nI (tg_cnt (tg_inc eT yfr yto (nI j)) 12)) ylv ypc yqc ycc yec yde yus ywe yfo yli yso ysu n75 0 yla ypr yfr yto yty ywt pva pwa pam pdi plo phi ptk pco pex yst ypa ysp ypl ycp ybo ytk yno ych yfa)
    (h2 : 0 < tg_cnt (tg_inc eT yfr yto (nI j)) 12 → x2 = 0 → post (-1) (ylv, ypc, yqc, ycc, yec, yde, yus, ywe, yfo, yli, yso, ysu, yla, ypr, yfr, yto, yty, ywt, pva, pwa, pam, pdi, plo, phi, ptk, pco, pex, yst, ypa, ysp, ypl, ycp, ybo, ytk, yno, ych, yfa)) : ∀ d i, i + d = 12 → wY_remove_15 post (nI j) x2 ylv ypc yqc ycc yec yde yus ywe yfo yli yso ysu yla ypr yfr yto yty ywt pva pwa pam pdi plo phi ptk pco pex yst ypa ysp ypl ycp ybo ytk yno ych yfa (d + 1) (nI (tg_cnt (tg_inc eT yfr yto (nI j)) i)) (nI i) := by
  intro d
  induction d with
  | zero =>
    intro i hi
    have e : i = 12 := by omega
    subst e
    have hc := tg_cntle (tg_inc eT yfr yto (nI j)) 12
    refine br_t (nI_le (a := 12) (by omega) (by omega)) ?_
    by_cases z : tg_cnt (tg_inc eT yfr yto (nI j)) 12 = 0
    · exact br_t (by rw [z]; decide) (h1 (Or.inl z))
    · exact br_f (nI_nle (by omega) (by omega)) (br_c (fun e => h2 (by omega) e) (fun e => h1 (Or.inr e)))
  | succ d ih =>
    intro i hi
    have hc := tg_cntle (tg_inc eT yfr yto (nI j)) i
    have T : tg_inc eT yfr yto (nI j) i = true → wY_remove_15 post (nI j) x2 ylv ypc yqc ycc yec yde yus ywe yfo yli yso ysu yla ypr yfr yto yty ywt pva pwa pam pdi plo phi ptk pco pex yst ypa ysp ypl ycp ybo ytk yno ych yfa (d + 1) (nI (tg_cnt (tg_inc eT yfr yto (nI j)) i + 1)) (nI (i + 1)) := fun z => by
      have := ih (i + 1) (by omega)
      rw [tg_incs, z] at this
      exact this
    have F : tg_inc eT yfr yto (nI j) i = false → wY_remove_15 post (nI j) x2 ylv ypc yqc ycc yec yde yus ywe yfo yli yso ysu yla ypr yfr yto yty ywt pva pwa pam pdi plo phi ptk pco pex yst ypa ysp ypl ycp ybo ytk yno ych yfa (d + 1) (nI (tg_cnt (tg_inc eT yfr yto (nI j)) i)) (nI (i + 1)) := fun z => by
      have := ih (i + 1) (by omega)
      rw [tg_incs, z] at this
      exact this
    have w : vp_in (nI i) 60 := vp_in_nI (by omega) (by omega)
    have c0 : (nI i).toNatClampNeg = i := nI_clamp (by omega)
    refine br_f (nI_ge (b := 12) (by omega) (by decide)) (tg_yie (by omega) hR (tg_zbr (fun e => nm_r (nI_1 i) (F (by unfold tg_inc; rw [e]; rfl))) (fun e => ⟨w, ?_⟩)))
    rw [c0]
    refine br_c (fun e1 => nm_r (nI_1 _) (nm_r (nI_1 i) (T (by unfold tg_inc; rw [e, decide_eq_true e1]; rfl)))) (fun e1 => ⟨w, br_c (fun e2 => nm_r (nI_1 _) (nm_r (nI_1 i) (T (by unfold tg_inc; rw [e, decide_eq_true e2]; simp)))) (fun e2 => nm_r (nI_1 i) (F (by unfold tg_inc; rw [decide_eq_false e1, decide_eq_false e2]; simp)))⟩)
theorem tg_yrm2 {post : Int32 → SY → Prop} {j : Nat} (hj : j < 8) {x3 : Int32} (hR : gr_R nT eT xla xpr xed yla ypr yfr yto yty ywt)
    (h : ∀ to', (∀ e, e < 12 → to' e = if tg_inc eT yfr yto (nI j) e then -1 else yto e) → (∀ e, 12 ≤ e → to' e = yto e) → post x3 (ylv, ypc, yqc, ycc, yec, yde, yus, ywe, yfo, yli, yso, ysu, (upd yla j (-1)), (vp_updL ypr j 9000000000000000000), yfr, to', yty, ywt, pva, pwa, pam, pdi, plo, phi, ptk, pco, pex, yst, ypa, ysp, ypl, ycp, ybo, ytk, yno, ych, yfa)) : ∀ d i to', i + d = 12 → (∀ e, e < i → to' e = if tg_inc eT yfr yto (nI j) e then -1 else yto e) → (∀ e, i ≤ e → to' e = yto e) → wY_remove_75 post (nI j) x3 ylv ypc yqc ycc yec yde yus ywe yfo yli yso ysu (d + 1) (nI i) yla ypr yfr to' yty ywt pva pwa pam pdi plo phi ptk pco pex yst ypa ysp ypl ycp ybo ytk yno ych yfa := by
  intro d
  induction d with
  | zero =>
    intro i to' hi k1 k2
    have e : i = 12 := by omega
    subst e
    exact br_t (nI_le (a := 12) (by omega) (by omega)) ⟨vp_in_nI (by omega) (by omega), nm_r (tg_u (by omega)) ⟨vp_in_nI (by omega) (by omega), nm_r (tg_uL (by omega)) (h to' k1 k2)⟩⟩
  | succ d ih =>
    intro i to' hi k1 k2
    have w : vp_in (nI i) 60 := vp_in_nI (by omega) (by omega)
    have c0 : (nI i).toNatClampNeg = i := nI_clamp (by omega)
    have F : tg_inc eT yfr yto (nI j) i = false → wY_remove_75 post (nI j) x3 ylv ypc yqc ycc yec yde yus ywe yfo yli yso ysu (d + 1) (nI (i + 1)) yla ypr yfr to' yty ywt pva pwa pam pdi plo phi ptk pco pex yst ypa ysp ypl ycp ybo ytk yno ych yfa := fun z => by
      refine ih (i + 1) to' (by omega) (fun e he => ?_) (fun e he => k2 e (by omega))
      by_cases q : e = i
      · subst q; rw [z]; exact k2 e (by omega)
      · exact k1 e (by omega)
    have T : tg_inc eT yfr yto (nI j) i = true → wY_remove_75 post (nI j) x3 ylv ypc yqc ycc yec yde yus ywe yfo yli yso ysu (d + 1) (nI (i + 1)) yla ypr yfr (upd to' i (-1)) yty ywt pva pwa pam pdi plo phi ptk pco pex yst ypa ysp ypl ycp ybo ytk yno ych yfa := fun z => by
      refine ih (i + 1) _ (by omega) (fun e he => ?_) (fun e he => ?_)
      · by_cases q : e = i
        · subst q; rw [z]; exact pk_us
        · rw [pk_un q]; exact k1 e (by omega)
      · rw [pk_un (by omega)]; exact k2 e (by omega)
    have g := gr_eb hR (e := i) (by omega)
    refine br_f (nI_ge (b := 12) (by omega) (by decide)) (tg_yieb (by omega) (bt eT i) (by rw [k2 i (by omega)]; exact g.1) (by rw [k2 i (by omega)]; exact g.2) (tg_zbr (fun e => nm_r (nI_1 i) (F (by unfold tg_inc; rw [e]; rfl))) (fun e => ⟨w, ?_⟩)))
    rw [c0, k2 i (by omega)]
    refine br_c (fun e1 => ⟨w, nm_e (nm_r (nI_1 i) (T (by unfold tg_inc; rw [e, decide_eq_true e1]; rfl)))⟩) (fun e1 => ⟨w, br_c (fun e2 => ⟨w, nm_e (nm_r (nI_1 i) (T (by unfold tg_inc; rw [e, decide_eq_true e2]; simp)))⟩) (fun e2 => nm_r (nI_1 i) (F (by unfold tg_inc; rw [decide_eq_false e1, decide_eq_false e2]; simp)))⟩)
theorem i_vc_remove {k : Nat} {u : SX} {v : SY} (I : i_Rel k u v) (hk : k + 7 ≤ 3584) (v1 : Int32) (v2 : Int32) : wpX_remove (fun r u' => wpY_remove (fun r' v' => r' = r ∧ i_Rel (k + 7) u' v') v v1 (lw_bz v2)) u v1 (lw_bz v2) := by
  obtain ⟨nT, eT, xlv, xpc, xqc, xcc, xec, mc, lw, rc, xla, xpr, xed, sN, sE, sL, sP, sD, pva, pwa, pam, pdi, plo, phi, ptk, pco, pex, tr, ds, ch, ar, rN, rM, s1, s2, s3, s4, s5⟩ := u
  obtain ⟨ylv, ypc, yqc, ycc, yec, yde, yus, ywe, yfo, yli, yso, ysu, yla, ypr, yfr, yto, yty, ywt, qpva, qpwa, qpam, qpdi, qplo, qphi, qptk, qpco, qpex, yst, ypa, ysp, ypl, ycp, ybo, ytk, yno, ych, yfa⟩ := v
  obtain ⟨⟨rfl, rfl, rfl, rfl, rfl, rfl, rfl, rfl, rfl⟩, hG, hQ, hT, hC, hE⟩ := I
  obtain ⟨hR, L, hL, rfl, rfl, hS⟩ := hG
  have J := rl_mk (k + 7) (mc := mc) (lw := lw) (rc := rc) (tr := tr) (ds := ds) (ch := ch) (ar := ar) (rN := rN) (rM := rM) (s1 := s1) (s2 := s2) (s3 := s3) (s4 := s4) (s5 := s5) (yde := yde) (yus := yus) (ywe := ywe) (yfo := yfo) (yli := yli) (yso := yso) (ysu := ysu) (yst := yst) (ypa := ypa) (ysp := ysp) (ypl := ypl) (ycp := ycp) (ybo := ybo) (ytk := ytk) (yno := yno) (ych := ych) (yfa := yfa) ⟨hR, L, hL, rfl, rfl, hS⟩ hQ hT hC hE
  unfold wpX_remove wpY_remove
  generalize lw_bz v2 = x2
  have K : v1 < 0 ∨ nI 8 ≤ v1 ∨ ∃ j : Nat, j < 8 ∧ v1 = nI j := pk_ix v1 (n := 8) (by omega)
  rw [← or_assoc] at K
  rcases K with c | ⟨j, hj, rfl⟩
  · exact tg_nit0 c (br_t rfl (tg_yin0 c (br_t rfl ⟨rfl, J⟩)))
  · refine tg_nit hj (tg_zbr (fun e => tg_yin hj hR ?_) (fun e => ⟨13, ?_⟩))
    · rw [e]
      exact br_t rfl ⟨rfl, J⟩
    · refine tg_xrm hR (fun hz lf hlf => ?_) (fun hz e2 => ?_) 12 0 eT (by omega) (fun b => by simp)
      · refine tg_yin hj hR ?_
        rw [e]
        refine br_f tg_10 ⟨13, tg_yrm1 hR (fun _ => ⟨13, tg_yrm2 hj hR (fun to' k1 k2 => ⟨rfl, ?_⟩) 12 0 yto (by omega) (fun e he => absurd he (Nat.not_lt_zero e)) (fun e he => rfl)⟩) (fun q1 q2 => hz.elim (fun a => absurd a (by omega)) (fun b => absurd q2 b)) 12 0 (by omega)⟩
        exact rl_mk _ ⟨gr_remove hR hj _ hlf k1, L, hL, rfl, rfl, gr_keep hS (fun i hi => ⟨pk_un (by omega), pk_uLn (by omega)⟩) (fun i hi => ⟨rfl, k2 i hi, rfl, rfl⟩)⟩ hQ hT hC hE
      · refine tg_yin hj hR ?_
        rw [e]
        exact br_f tg_10 ⟨13, tg_yrm1 hR (fun q => q.elim (fun a => absurd a (by omega)) (fun b => absurd e2 b)) (fun _ _ => ⟨rfl, J⟩) 12 0 (by omega)⟩
end
section
/-! there, begin, commit, rollback -/
theorem tg_sh8 {n i : Nat} (hn : n < 12) : bt ((256 : Int32) <<< (nI n &&& 31)) i = decide (i = n + 8) := by
  rcases Nat.lt_or_ge i 32 with h | h
  · rw [b_shl n (by omega) 256 h]
    have q : ∀ j, j < 32 → bt 256 j = decide (j = 8) := by decide +kernel
    by_cases z : n ≤ i
    · rw [q (i - n) (by omega), decide_eq_true z, Bool.true_and, decide_eq_decide]; omega
    · rw [decide_eq_false z, Bool.false_and, eq_comm, decide_eq_false_iff_not]; omega
  · rw [b_big h, decide_eq_false (by omega)]
variable {nT : Int32} {eT : Int32} {xlv : Int32} {xpc : Int32} {xqc : Int32} {xcc : Int32} {xec : Int32} {mc : Int32} {lw : Int32} {rc : Int32} {xla : Nat → Int32} {xpr : Nat → Int64} {xed : Nat → Int32} {sN : Nat → Int32} {sE : Nat → Int32} {sL : Nat → Int32} {sP : Nat → Int64} {sD : Nat → Int32} {pva : Nat → Int32} {pwa : Nat → Int32} {pam : Nat → Int32} {pdi : Nat → Int32} {plo : Nat → Int32} {phi : Nat → Int32} {ptk : Nat → Int32} {pco : Nat → Int32} {pex : Nat → Int32} {tr : Nat → Int32} {ds : Nat → Int32} {ch : Nat → Int32} {ar : Nat → Int32} {rN : Nat → Int32} {rM : Nat → Int32} {s1 : Nat → Int32} {s2 : Nat → Int32} {s3 : Nat → Int32} {s4 : Nat → Int32} {s5 : Nat → Int32}
variable {ylv : Int32} {ypc : Int32} {yqc : Int32} {ycc : Int32} {yec : Int32} {yde : Int32} {yus : Int32} {ywe : Int32} {yfo : Int32} {yli : Int32} {yso : Int32} {ysu : Int64} {yla : Nat → Int32} {ypr : Nat → Int64} {yfr : Nat → Int32} {yto : Nat → Int32} {yty : Nat → Int32} {ywt : Nat → Int32} {yst : Nat → Int32} {ypa : Nat → Int32} {ysp : Nat → Int32} {ypl : Nat → Int32} {ycp : Nat → Int32} {ybo : Nat → Int32} {ytk : Nat → Int32} {yno : Nat → Int32} {ych : Nat → Int32} {yfa : Nat → Int32}
theorem tg_yth2 {post : Int32 → Prop} (hR : gr_R nT eT xla xpr xed yla ypr yfr yto yty ywt) {s : Int32} (h : ∀ x, (∀ b, bt x b = (bt s b || (decide (8 ≤ b) && bt eT (b - 8)))) → post x) : ∀ d i x, i + d = 12 → (∀ b, bt x b = (bt s b || (decide (8 ≤ b ∧ b < i + 8) && bt eT (b - 8)))) → wY_there_38 post ylv ypc yqc ycc yec yde yus ywe yfo yli yso ysu yla ypr yfr yto yty ywt pva pwa pam pdi plo phi ptk pco pex yst ypa ysp ypl ycp ybo ytk yno ych yfa (d + 1) x (nI i) := by
  intro d
  induction d with
  | zero =>
    intro i x hi hx
    refine br_t (nI_le (a := 12) (by omega) (by omega)) (h x (fun b => ?_))
    rw [hx b]
    by_cases z : b < i + 8
    · rw [show decide (8 ≤ b ∧ b < i + 8) = decide (8 ≤ b) from by simp only [decide_eq_decide]; omega]
    · rw [hR.2.1 (b - 8) (by omega)]; simp
  | succ d ih =>
    intro i x hi hx
    refine br_f (nI_ge (b := 12) (by omega) (by decide)) (tg_yie (by omega) hR (tg_zbr (fun e => nm_r (nI_1 i) (ih (i + 1) x (by omega) (fun b => ?_))) (fun e => nm_e (nm_r (nI_1 i) (ih (i + 1) _ (by omega) (fun b => ?_))))))
    · rw [hx b]
      by_cases z : b = i + 8
      · subst z; rw [show i + 8 - 8 = i from by omega, e]; simp
      · rw [show decide (8 ≤ b ∧ b < i + 1 + 8) = decide (8 ≤ b ∧ b < i + 8) from by simp only [decide_eq_decide]; omega]
    · rw [b_or, tg_sh8 (by omega), hx b]
      by_cases z : b = i + 8
      · subst z; rw [show i + 8 - 8 = i from by omega, e]; simp
      · rw [show decide (8 ≤ b ∧ b < i + 1 + 8) = decide (8 ≤ b ∧ b < i + 8) from by simp only [decide_eq_decide]; omega, decide_eq_false z, Bool.or_false]
theorem tg_yth1 {post : Int32 → Prop} (hR : gr_R nT eT xla xpr xed yla ypr yfr yto yty ywt) {s : Int32} (h : ∀ x, (∀ b, bt x b = ((bt s b || bt nT b) || (decide (8 ≤ b) && bt eT (b - 8)))) → post x) : ∀ d i x, i + d = 8 → (∀ b, bt x b = (bt s b || (decide (b < i) && bt nT b))) → wY_there_10 post ylv ypc yqc ycc yec yde yus ywe yfo yli yso ysu yla ypr yfr yto yty ywt pva pwa pam pdi plo phi ptk pco pex yst ypa ysp ypl ycp ybo ytk yno ych yfa (d + 1) x (nI i) := by
  intro d
  induction d with
  | zero =>
    intro i x hi hx
    refine br_t (nI_le (a := 8) (by omega) (by omega)) ⟨13, tg_yth2 hR (s := x) (fun y hy => h y (fun b => ?_)) 12 0 x (by omega) (fun b => ?_)⟩
    · rw [hy b, hx b]
      by_cases z : b < i
      · rw [decide_eq_true z, Bool.true_and]
      · rw [hR.1 b (by omega)]; simp
    · rw [decide_eq_false (by omega), Bool.false_and, Bool.or_false]
  | succ d ih =>
    intro i x hi hx
    refine br_f (nI_ge (b := 8) (by omega) (by decide)) (tg_yin (by omega) hR (tg_zbr (fun e => nm_r (nI_1 i) (ih (i + 1) x (by omega) (fun b => ?_))) (fun e => nm_e (nm_r (nI_1 i) (ih (i + 1) _ (by omega) (fun b => ?_))))))
    · rw [hx b]
      by_cases z : b = i
      · subst z; rw [e]; simp
      · rw [show decide (b < i + 1) = decide (b < i) from by simp only [decide_eq_decide]; omega]
    · rw [tg_or x (by omega), hx b]
      by_cases z : b = i
      · subst z; rw [e]; simp
      · rw [show decide (b < i + 1) = decide (b < i) from by simp only [decide_eq_decide]; omega, decide_eq_false z, Bool.or_false]
theorem i_vc_there {k : Nat} {u : SX} {v : SY} (I : i_Rel k u v) (hk : k + 7 ≤ 3584) : wpX_there (fun r => wpY_there (fun r' => r' = r ∧ i_Rel (k + 7) u v) v) u := by
  obtain ⟨nT, eT, xlv, xpc, xqc, xcc, xec, mc, lw, rc, xla, xpr, xed, sN, sE, sL, sP, sD, pva, pwa, pam, pdi, plo, phi, ptk, pco, pex, tr, ds, ch, ar, rN, rM, s1, s2, s3, s4, s5⟩ := u
  obtain ⟨ylv, ypc, yqc, ycc, yec, yde, yus, ywe, yfo, yli, yso, ysu, yla, ypr, yfr, yto, yty, ywt, qpva, qpwa, qpam, qpdi, qplo, qphi, qptk, qpco, qpex, yst, ypa, ysp, ypl, ycp, ybo, ytk, yno, ych, yfa⟩ := v
  obtain ⟨⟨rfl, rfl, rfl, rfl, rfl, rfl, rfl, rfl, rfl⟩, hG, hQ, hT, hC, hE⟩ := I
  obtain ⟨hR, L, hL, rfl, rfl, hS⟩ := hG
  have J := rl_mk (k + 7) (mc := mc) (lw := lw) (rc := rc) (tr := tr) (ds := ds) (ch := ch) (ar := ar) (rN := rN) (rM := rM) (s1 := s1) (s2 := s2) (s3 := s3) (s4 := s4) (s5 := s5) (yde := yde) (yus := yus) (ywe := ywe) (yfo := yfo) (yli := yli) (yso := yso) (ysu := ysu) (yst := yst) (ypa := ypa) (ysp := ysp) (ypl := ypl) (ycp := ycp) (ybo := ybo) (ytk := ytk) (yno := yno) (ych := ych) (yfa := yfa) ⟨hR, L, hL, rfl, rfl, hS⟩ hQ hT hC hE
  unfold wpX_there wpY_there
  refine nm_e ⟨9, tg_yth1 hR (s := nI L <<< ((20 : Int32) &&& 31)) (fun x hx => ⟨?_, J⟩) 8 0 _ (by omega) (fun b => by simp)⟩
  apply b_ext
  intro i hi
  rw [hx i, b_or, b_or, b_shl8 eT hi]
  cases bt (nI L <<< ((20 : Int32) &&& 31)) i <;> cases bt nT i <;> simp
/-! begin, commit, rollback -/
theorem tg_ix {p i w : Nat} : nI p * nI w + nI i = nI (p * w + i) := by rw [pk_mul, nI_add]
theorem tg_iy {p i w : Nat} : nI w * nI p + nI i = nI (w * p + i) := by rw [pk_mul, nI_add]
theorem tg_xsv2 {post : SX → Prop} {p : Nat} (hp : p < 4) (h : ∀ sD', (∀ e, e < 12 → sD' (p * 12 + e) = xed e) → (∀ j, (j < p * 12 ∨ p * 12 + 12 ≤ j) → sD' j = sD j) → post (nT, eT, xlv, xpc, xqc, xcc, xec, mc, lw, rc, xla, xpr, xed, sN, sE, sL, sP, sD', pva, pwa, pam, pdi, plo, phi, ptk, pco, pex, tr, ds, ch, ar, rN, rM, s1, s2, s3, s4, s5)) : ∀ d i sD', i + d = 12 → (∀ e, e < i → sD' (p * 12 + e) = xed e) → (∀ j, (j < p * 12 ∨ p * 12 + i ≤ j) → sD' j = sD j) → wX_saveGraph_70 post (nI p) nT eT xlv xpc xqc xcc xec mc lw rc (d + 1) (nI i) xla xpr xed sN sE sL sP sD' pva pwa pam pdi plo phi ptk pco pex tr ds ch ar rN rM s1 s2 s3 s4 s5 := by
  intro d
  induction d with
  | zero =>
    intro i s hi k1 k2
    have e : i = 12 := by omega
    subst e
    exact br_t (nI_le (a := 12) (by omega) (by omega)) (h s k1 k2)
  | succ d ih =>
    intro i s hi k1 k2
    have e1 : nI p * 12 + nI i = nI (p * 12 + i) := tg_ix
    refine br_f (nI_ge (b := 12) (by omega) (by decide)) ⟨vp_in_nI (by omega) (by omega), ?_⟩
    rw [e1, nI_clamp (show i < 2 ^ 31 by omega)]
    refine ⟨vp_in_nI (by omega) (by omega), nm_r (tg_u (by omega)) (nm_r (nI_1 i) (ih (i + 1) _ (by omega) (fun e he => ?_) (fun j hj => ?_)))⟩
    · by_cases q : e = i
      · subst q; exact pk_us
      · rw [pk_un (by omega)]; exact k1 e (by omega)
    · rw [pk_un (by omega)]; exact k2 j (by omega)
theorem tg_xsv1 {post : SX → Prop} {p : Nat} (hp : p < 4) (h : ∀ (sL' : Nat → Int32) (sP' : Nat → Int64) (sD' : Nat → Int32), (∀ n, n < 8 → sL' (p * 8 + n) = xla n ∧ sP' (p * 8 + n) = xpr n) → (∀ j, (j < p * 8 ∨ p * 8 + 8 ≤ j) → sL' j = sL j ∧ sP' j = sP j) → (∀ e, e < 12 → sD' (p * 12 + e) = xed e) → (∀ j, (j < p * 12 ∨ p * 12 + 12 ≤ j) → sD' j = sD j) → post (nT, eT, xlv, xpc, xqc, xcc, xec, mc, lw, rc, xla, xpr, xed, sN, sE, sL', sP', sD', pva, pwa, pam, pdi, plo, phi, ptk, pco, pex, tr, ds, ch, ar, rN, rM, s1, s2, s3, s4, s5)) : ∀ d i (sL' : Nat → Int32) (sP' : Nat → Int64), i + d = 8 → (∀ n, n < i → sL' (p * 8 + n) = xla n ∧ sP' (p * 8 + n) = xpr n) → (∀ j, (j < p * 8 ∨ p * 8 + i ≤ j) → sL' j = sL j ∧ sP' j = sP j) → wX_saveGraph_22 post (nI p) nT eT xlv xpc xqc xcc xec mc lw rc (d + 1) (nI i) xla xpr xed sN sE sL' sP' sD pva pwa pam pdi plo phi ptk pco pex tr ds ch ar rN rM s1 s2 s3 s4 s5 := by
  intro d
  induction d with
  | zero =>
    intro i a b hi k1 k2
    have e : i = 8 := by omega
    subst e
    exact br_t (nI_le (a := 8) (by omega) (by omega)) ⟨13, tg_xsv2 hp (fun sD' q1 q2 => h a b sD' k1 k2 q1 q2) 12 0 sD (by omega) (fun e he => absurd he (Nat.not_lt_zero e)) (fun j hj => rfl)⟩
  | succ d ih =>
    intro i a b hi k1 k2
    have e1 : nI p * 8 + nI i = nI (p * 8 + i) := tg_ix
    refine br_f (nI_ge (b := 8) (by omega) (by decide)) ⟨vp_in_nI (by omega) (by omega), ?_⟩
    rw [e1, nI_clamp (show i < 2 ^ 31 by omega)]
    have w : vp_in (nI (p * 8 + i)) 32 := vp_in_nI (by omega) (by omega)
    refine ⟨w, nm_r (tg_u (by omega)) ⟨vp_in_nI (by omega) (by omega), w, nm_r (tg_uL (by omega)) (nm_r (nI_1 i) (ih (i + 1) _ _ (by omega) (fun e he => ?_) (fun j hj => ?_)))⟩⟩
    · by_cases q : e = i
      · subst q; exact ⟨pk_us, pk_uLs⟩
      · rw [pk_un (by omega), pk_uLn (by omega)]; exact k1 e (by omega)
    · rw [pk_un (by omega), pk_uLn (by omega)]; exact k2 j (by omega)
theorem tg_xsv {post : SX → Prop} {p : Nat} (hp : p < 4) (h : ∀ (sL' : Nat → Int32) (sP' : Nat → Int64) (sD' : Nat → Int32), (∀ n, n < 8 → sL' (p * 8 + n) = xla n ∧ sP' (p * 8 + n) = xpr n) → (∀ j, (j < p * 8 ∨ p * 8 + 8 ≤ j) → sL' j = sL j ∧ sP' j = sP j) → (∀ e, e < 12 → sD' (p * 12 + e) = xed e) → (∀ j, (j < p * 12 ∨ p * 12 + 12 ≤ j) → sD' j = sD j) → post (nT, eT, xlv, xpc, xqc, xcc, xec, mc, lw, rc, xla, xpr, xed, (upd sN p nT), (upd sE p eT), sL', sP', sD', pva, pwa, pam, pdi, plo, phi, ptk, pco, pex, tr, ds, ch, ar, rN, rM, s1, s2, s3, s4, s5)) : wpX_saveGraph post (nT, eT, xlv, xpc, xqc, xcc, xec, mc, lw, rc, xla, xpr, xed, sN, sE, sL, sP, sD, pva, pwa, pam, pdi, plo, phi, ptk, pco, pex, tr, ds, ch, ar, rN, rM, s1, s2, s3, s4, s5) (nI p) :=
  ⟨vp_in_nI hp (by decide), nm_r (tg_u (by omega)) ⟨vp_in_nI hp (by decide), nm_r (tg_u (by omega)) ⟨9, tg_xsv1 hp h 8 0 sL sP (by omega) (fun e he => absurd he (Nat.not_lt_zero e)) (fun j hj => ⟨rfl, rfl⟩)⟩⟩⟩
theorem tg_xrs2 {post : SX → Prop} {p : Nat} (hp : p < 4) (h : ∀ ed', (∀ e, e < 12 → ed' e = sD (p * 12 + e)) → post (nT, eT, xlv, xpc, xqc, xcc, xec, mc, lw, rc, xla, xpr, ed', sN, sE, sL, sP, sD, pva, pwa, pam, pdi, plo, phi, ptk, pco, pex, tr, ds, ch, ar, rN, rM, s1, s2, s3, s4, s5)) : ∀ d i ed', i + d = 12 → (∀ e, e < i → ed' e = sD (p * 12 + e)) → wX_restoreGraph_70 post (nI p) nT eT xlv xpc xqc xcc xec mc lw rc (d + 1) (nI i) xla xpr ed' sN sE sL sP sD pva pwa pam pdi plo phi ptk pco pex tr ds ch ar rN rM s1 s2 s3 s4 s5 := by
  intro d
  induction d with
  | zero =>
    intro i s hi k1
    have e : i = 12 := by omega
    subst e
    exact br_t (nI_le (a := 12) (by omega) (by omega)) (h s k1)
  | succ d ih =>
    intro i s hi k1
    have e1 : nI p * 12 + nI i = nI (p * 12 + i) := tg_ix
    refine br_f (nI_ge (b := 12) (by omega) (by decide)) ?_
    rw [e1, nI_clamp (show p * 12 + i < 2 ^ 31 by omega)]
    refine ⟨vp_in_nI (by omega) (by omega), vp_in_nI (by omega) (by omega), nm_r (tg_u (by omega)) (nm_r (nI_1 i) (ih (i + 1) _ (by omega) (fun e he => ?_)))⟩
    by_cases q : e = i
    · subst q; exact pk_us
    · rw [pk_un (by omega)]; exact k1 e (by omega)
theorem tg_xrs1 {post : SX → Prop} {p : Nat} (hp : p < 4) (h : ∀ (la' : Nat → Int32) (pr' : Nat → Int64) (ed' : Nat → Int32), (∀ n, n < 8 → la' n = sL (p * 8 + n) ∧ pr' n = sP (p * 8 + n)) → (∀ e, e < 12 → ed' e = sD (p * 12 + e)) → post (nT, eT, xlv, xpc, xqc, xcc, xec, mc, lw, rc, la', pr', ed', sN, sE, sL, sP, sD, pva, pwa, pam, pdi, plo, phi, ptk, pco, pex, tr, ds, ch, ar, rN, rM, s1, s2, s3, s4, s5)) : ∀ d i (la' : Nat → Int32) (pr' : Nat → Int64), i + d = 8 → (∀ n, n < i → la' n = sL (p * 8 + n) ∧ pr' n = sP (p * 8 + n)) → wX_restoreGraph_22 post (nI p) nT eT xlv xpc xqc xcc xec mc lw rc (d + 1) (nI i) la' pr' xed sN sE sL sP sD pva pwa pam pdi plo phi ptk pco pex tr ds ch ar rN rM s1 s2 s3 s4 s5 := by
  intro d
  induction d with
  | zero =>
    intro i a b hi k1
    have e : i = 8 := by omega
    subst e
    exact br_t (nI_le (a := 8) (by omega) (by omega)) ⟨13, tg_xrs2 hp (fun ed' q1 => h a b ed' k1 q1) 12 0 xed (by omega) (fun e he => absurd he (Nat.not_lt_zero e))⟩
  | succ d ih =>
    intro i a b hi k1
    have e1 : nI p * 8 + nI i = nI (p * 8 + i) := tg_ix
    refine br_f (nI_ge (b := 8) (by omega) (by decide)) ?_
    rw [e1, nI_clamp (show p * 8 + i < 2 ^ 31 by omega)]
    have w : vp_in (nI (p * 8 + i)) 32 := vp_in_nI (by omega) (by omega)
    have w2 : vp_in (nI i) 8 := vp_in_nI (by omega) (by omega)
    refine ⟨w, w2, nm_r (tg_u (by omega)) ⟨w, w2, nm_r (tg_uL (by omega)) (nm_r (nI_1 i) (ih (i + 1) _ _ (by omega) (fun e he => ?_)))⟩⟩
    by_cases q : e = i
    · subst q; exact ⟨pk_us, pk_uLs⟩
    · rw [pk_un (by omega), pk_uLn (by omega)]; exact k1 e (by omega)
theorem tg_xrs {post : SX → Prop} {p : Nat} (hp : p < 4) (h : ∀ (la' : Nat → Int32) (pr' : Nat → Int64) (ed' : Nat → Int32), (∀ n, n < 8 → la' n = sL (p * 8 + n) ∧ pr' n = sP (p * 8 + n)) → (∀ e, e < 12 → ed' e = sD (p * 12 + e)) → post ((sN p), (sE p), xlv, xpc, xqc, xcc, xec, mc, lw, rc, la', pr', ed', sN, sE, sL, sP, sD, pva, pwa, pam, pdi, plo, phi, ptk, pco, pex, tr, ds, ch, ar, rN, rM, s1, s2, s3, s4, s5)) : wpX_restoreGraph post (nT, eT, xlv, xpc, xqc, xcc, xec, mc, lw, rc, xla, xpr, xed, sN, sE, sL, sP, sD, pva, pwa, pam, pdi, plo, phi, ptk, pco, pex, tr, ds, ch, ar, rN, rM, s1, s2, s3, s4, s5) (nI p) :=
  ⟨vp_in_nI hp (by decide), nm_r (by rw [nI_clamp (by omega)]) ⟨vp_in_nI hp (by decide), nm_r (by rw [nI_clamp (by omega)]) ⟨9, tg_xrs1 hp h 8 0 xla xpr (by omega) (fun e he => absurd he (Nat.not_lt_zero e))⟩⟩⟩
/-- what Y's copy from level a to level b leaves: the cells from w * b on hold those from w * a on, for the first i of them -/
def cp_I {α : Type} (w a b i : Nat) (f f' : Nat → α) : Prop := (∀ n, n < i → f' (w * b + n) = f (w * a + n)) ∧ ∀ j, (j < w * b ∨ w * b + i ≤ j) → f' j = f j
theorem cp_0 {α : Type} (w a b : Nat) (f : Nat → α) : cp_I w a b 0 f f := ⟨fun n h => absurd h (Nat.not_lt_zero n), fun _ _ => rfl⟩
theorem cp_s {w a b i : Nat} {f f' : Nat → Int32} (h : cp_I w a b i f f') (hi : i < w) (hab : a < b ∨ b < a) : cp_I w a b (i + 1) f (upd f' (w * b + i) (f' (w * a + i))) := by
  have hw : w * a + w ≤ w * b ∨ w * b + w ≤ w * a := by
    rcases hab with h | h
    · left; rw [← Nat.mul_succ]; exact Nat.mul_le_mul_left w h
    · right; rw [← Nat.mul_succ]; exact Nat.mul_le_mul_left w h
  have e : f' (w * a + i) = f (w * a + i) := h.2 _ (by omega)
  rw [e]
  refine ⟨fun n hn => ?_, fun j hj => ?_⟩
  · by_cases q : n = i
    · subst q; exact pk_us
    · rw [pk_un (by omega)]; exact h.1 n (by omega)
  · rw [pk_un (by omega)]; exact h.2 j (by omega)
theorem cp_sL {w a b i : Nat} {f f' : Nat → Int64} (h : cp_I w a b i f f') (hi : i < w) (hab : a < b ∨ b < a) : cp_I w a b (i + 1) f (vp_updL f' (w * b + i) (f' (w * a + i))) := by
  have hw : w * a + w ≤ w * b ∨ w * b + w ≤ w * a := by
    rcases hab with h | h
    · left; rw [← Nat.mul_succ]; exact Nat.mul_le_mul_left w h
    · right; rw [← Nat.mul_succ]; exact Nat.mul_le_mul_left w h
  have e : f' (w * a + i) = f (w * a + i) := h.2 _ (by omega)
  rw [e]
  refine ⟨fun n hn => ?_, fun j hj => ?_⟩
  · by_cases q : n = i
    · subst q; exact pk_uLs
    · rw [pk_uLn (by omega)]; exact h.1 n (by omega)
  · rw [pk_uLn (by omega)]; exact h.2 j (by omega)
theorem tg_ycp2 {post : SY → Prop} {a b : Nat} (ha : a < 5) (hb : b < 5) (hab : a < b ∨ b < a) (h : ∀ f1 f2 f3 f4, cp_I 12 a b 12 yfr f1 → cp_I 12 a b 12 yto f2 → cp_I 12 a b 12 yty f3 → cp_I 12 a b 12 ywt f4 → post (ylv, ypc, yqc, ycc, yec, yde, yus, ywe, yfo, yli, yso, ysu, yla, ypr, f1, f2, f3, f4, pva, pwa, pam, pdi, plo, phi, ptk, pco, pex, yst, ypa, ysp, ypl, ycp, ybo, ytk, yno, ych, yfa)) : ∀ d i f1 f2 f3 f4, i + d = 12 → cp_I 12 a b i yfr f1 → cp_I 12 a b i yto f2 → cp_I 12 a b i yty f3 → cp_I 12 a b i ywt f4 → wY_copy_60 post (nI a) (nI b) ylv ypc yqc ycc yec yde yus ywe yfo yli yso ysu (d + 1) (nI i) yla ypr f1 f2 f3 f4 pva pwa pam pdi plo phi ptk pco pex yst ypa ysp ypl ycp ybo ytk yno ych yfa := by
  intro d
  induction d with
  | zero =>
    intro i f1 f2 f3 f4 hi c1 c2 c3 c4
    have e : i = 12 := by omega
    subst e
    exact br_t (nI_le (a := 12) (by omega) (by omega)) (h f1 f2 f3 f4 c1 c2 c3 c4)
  | succ d ih =>
    intro i f1 f2 f3 f4 hi c1 c2 c3 c4
    have e1 : 12 * nI a + nI i = nI (12 * a + i) := tg_iy
    have e2 : 12 * nI b + nI i = nI (12 * b + i) := tg_iy
    refine br_f (nI_ge (b := 12) (by omega) (by decide)) ?_
    rw [e1, e2, nI_clamp (show 12 * a + i < 2 ^ 31 by omega)]
    have w1 : vp_in (nI (12 * a + i)) 60 := vp_in_nI (by omega) (by omega)
    have w2 : vp_in (nI (12 * b + i)) 60 := vp_in_nI (by omega) (by omega)
    exact ⟨w1, w2, nm_r (tg_u (by omega)) ⟨w1, w2, nm_r (tg_u (by omega)) ⟨w1, w2, nm_r (tg_u (by omega)) ⟨w1, w2, nm_r (tg_u (by omega)) (nm_r (nI_1 i) (ih (i + 1) _ _ _ _ (by omega) (cp_s c1 (by omega) hab) (cp_s c2 (by omega) hab) (cp_s c3 (by omega) hab) (cp_s c4 (by omega) hab)))⟩⟩⟩⟩
theorem tg_ycp1 {post : SY → Prop} {a b : Nat} (ha : a < 5) (hb : b < 5) (hab : a < b ∨ b < a) (h : ∀ (g1 : Nat → Int32) (g2 : Nat → Int64) f1 f2 f3 f4, cp_I 8 a b 8 yla g1 → cp_I 8 a b 8 ypr g2 → cp_I 12 a b 12 yfr f1 → cp_I 12 a b 12 yto f2 → cp_I 12 a b 12 yty f3 → cp_I 12 a b 12 ywt f4 → post (ylv, ypc, yqc, ycc, yec, yde, yus, ywe, yfo, yli, yso, ysu, g1, g2, f1, f2, f3, f4, pva, pwa, pam, pdi, plo, phi, ptk, pco, pex, yst, ypa, ysp, ypl, ycp, ybo, ytk, yno, ych, yfa)) : ∀ d i (g1 : Nat → Int32) (g2 : Nat → Int64), i + d = 8 → cp_I 8 a b i yla g1 → cp_I 8 a b i ypr g2 → wY_copy_2 post (nI a) (nI b) ylv ypc yqc ycc yec yde yus ywe yfo yli yso ysu (d + 1) (nI i) g1 g2 yfr yto yty ywt pva pwa pam pdi plo phi ptk pco pex yst ypa ysp ypl ycp ybo ytk yno ych yfa := by
  intro d
  induction d with
  | zero =>
    intro i g1 g2 hi c1 c2
    have e : i = 8 := by omega
    subst e
    exact br_t (nI_le (a := 8) (by omega) (by omega)) ⟨13, tg_ycp2 ha hb hab (fun f1 f2 f3 f4 q1 q2 q3 q4 => h g1 g2 f1 f2 f3 f4 c1 c2 q1 q2 q3 q4) 12 0 yfr yto yty ywt (by omega) (cp_0 _ _ _ _) (cp_0 _ _ _ _) (cp_0 _ _ _ _) (cp_0 _ _ _ _)⟩
  | succ d ih =>
    intro i g1 g2 hi c1 c2
    have e1 : 8 * nI a + nI i = nI (8 * a + i) := tg_iy
    have e2 : 8 * nI b + nI i = nI (8 * b + i) := tg_iy
    refine br_f (nI_ge (b := 8) (by omega) (by decide)) ?_
    rw [e1, e2, nI_clamp (show 8 * a + i < 2 ^ 31 by omega)]
    have w1 : vp_in (nI (8 * a + i)) 40 := vp_in_nI (by omega) (by omega)
    have w2 : vp_in (nI (8 * b + i)) 40 := vp_in_nI (by omega) (by omega)
    exact ⟨w1, w2, nm_r (tg_u (by omega)) ⟨w1, w2, nm_r (tg_uL (by omega)) (nm_r (nI_1 i) (ih (i + 1) _ _ (by omega) (cp_s c1 (by omega) hab) (cp_sL c2 (by omega) hab)))⟩⟩
theorem tg_ycp {post : SY → Prop} {a b : Nat} (ha : a < 5) (hb : b < 5) (hab : a < b ∨ b < a) (h : ∀ (g1 : Nat → Int32) (g2 : Nat → Int64) f1 f2 f3 f4, cp_I 8 a b 8 yla g1 → cp_I 8 a b 8 ypr g2 → cp_I 12 a b 12 yfr f1 → cp_I 12 a b 12 yto f2 → cp_I 12 a b 12 yty f3 → cp_I 12 a b 12 ywt f4 → post (ylv, ypc, yqc, ycc, yec, yde, yus, ywe, yfo, yli, yso, ysu, g1, g2, f1, f2, f3, f4, pva, pwa, pam, pdi, plo, phi, ptk, pco, pex, yst, ypa, ysp, ypl, ycp, ybo, ytk, yno, ych, yfa)) : wpY_copy post (ylv, ypc, yqc, ycc, yec, yde, yus, ywe, yfo, yli, yso, ysu, yla, ypr, yfr, yto, yty, ywt, pva, pwa, pam, pdi, plo, phi, ptk, pco, pex, yst, ypa, ysp, ypl, ycp, ybo, ytk, yno, ych, yfa) (nI a) (nI b) :=
  ⟨9, tg_ycp1 ha hb hab h 8 0 yla ypr (by omega) (cp_0 _ _ _ _) (cp_0 _ _ _ _)⟩
end
section
/-! begin, commit, rollback -/
variable {nT : Int32} {eT : Int32} {xlv : Int32} {xpc : Int32} {xqc : Int32} {xcc : Int32} {xec : Int32} {mc : Int32} {lw : Int32} {rc : Int32} {xla : Nat → Int32} {xpr : Nat → Int64} {xed : Nat → Int32} {sN : Nat → Int32} {sE : Nat → Int32} {sL : Nat → Int32} {sP : Nat → Int64} {sD : Nat → Int32} {pva : Nat → Int32} {pwa : Nat → Int32} {pam : Nat → Int32} {pdi : Nat → Int32} {plo : Nat → Int32} {phi : Nat → Int32} {ptk : Nat → Int32} {pco : Nat → Int32} {pex : Nat → Int32} {tr : Nat → Int32} {ds : Nat → Int32} {ch : Nat → Int32} {ar : Nat → Int32} {rN : Nat → Int32} {rM : Nat → Int32} {s1 : Nat → Int32} {s2 : Nat → Int32} {s3 : Nat → Int32} {s4 : Nat → Int32} {s5 : Nat → Int32}
variable {ylv : Int32} {ypc : Int32} {yqc : Int32} {ycc : Int32} {yec : Int32} {yde : Int32} {yus : Int32} {ywe : Int32} {yfo : Int32} {yli : Int32} {yso : Int32} {ysu : Int64} {yla : Nat → Int32} {ypr : Nat → Int64} {yfr : Nat → Int32} {yto : Nat → Int32} {yty : Nat → Int32} {ywt : Nat → Int32} {yst : Nat → Int32} {ypa : Nat → Int32} {ysp : Nat → Int32} {ypl : Nat → Int32} {ycp : Nat → Int32} {ybo : Nat → Int32} {ytk : Nat → Int32} {yno : Nat → Int32} {ych : Nat → Int32} {yfa : Nat → Int32}
theorem gr_push {L : Nat} {sL' : Nat → Int32} {sP' : Nat → Int64} {sD' g1 : Nat → Int32} {g2 : Nat → Int64} {f1 f2 f3 f4 : Nat → Int32} (hR : gr_R nT eT xla xpr xed yla ypr yfr yto yty ywt) (hS : gr_S L sN sE sL sP sD yla ypr yfr yto yty ywt)
    (q1 : ∀ n, n < 8 → sL' (L * 8 + n) = xla n ∧ sP' (L * 8 + n) = xpr n) (q2 : ∀ j, (j < L * 8 ∨ L * 8 + 8 ≤ j) → sL' j = sL j ∧ sP' j = sP j) (q3 : ∀ e, e < 12 → sD' (L * 12 + e) = xed e) (q4 : ∀ j, (j < L * 12 ∨ L * 12 + 12 ≤ j) → sD' j = sD j)
    (c1 : cp_I 8 0 (L + 1) 8 yla g1) (c2 : cp_I 8 0 (L + 1) 8 ypr g2) (c3 : cp_I 12 0 (L + 1) 12 yfr f1) (c4 : cp_I 12 0 (L + 1) 12 yto f2) (c5 : cp_I 12 0 (L + 1) 12 yty f3) (c6 : cp_I 12 0 (L + 1) 12 ywt f4) :
    gr_R nT eT xla xpr xed g1 g2 f1 f2 f3 f4 ∧ gr_S (L + 1) (upd sN L nT) (upd sE L eT) sL' sP' sD' g1 g2 f1 f2 f3 f4 := by
  refine ⟨gr_cong hR (fun n hn => ⟨rfl, rfl, c1.2 n (by omega), c2.2 n (by omega)⟩) (fun e he => ⟨rfl, c3.2 e (by omega), c4.2 e (by omega), c5.2 e (by omega), c6.2 e (by omega)⟩), fun b hb => ?_⟩
  by_cases z : b = L
  · subst z
    rw [pk_us, pk_us]
    refine gr_cong hR (fun n hn => ⟨(q1 n hn).1, (q1 n hn).2, ?_, ?_⟩) (fun e he => ⟨q3 e he, ?_, ?_, ?_, ?_⟩)
    · have := c1.1 n hn; rw [show 8 * 0 + n = n from by omega] at this; exact this
    · have := c2.1 n hn; rw [show 8 * 0 + n = n from by omega] at this; exact this
    · have := c3.1 e he; rw [show 12 * 0 + e = e from by omega] at this; exact this
    · have := c4.1 e he; rw [show 12 * 0 + e = e from by omega] at this; exact this
    · have := c5.1 e he; rw [show 12 * 0 + e = e from by omega] at this; exact this
    · have := c6.1 e he; rw [show 12 * 0 + e = e from by omega] at this; exact this
  · rw [pk_un z, pk_un z]
    exact gr_cong (hS b (by omega)) (fun n hn => ⟨(q2 _ (by omega)).1, (q2 _ (by omega)).2, c1.2 _ (by omega), c2.2 _ (by omega)⟩) (fun e he => ⟨q4 _ (by omega), c3.2 _ (by omega), c4.2 _ (by omega), c5.2 _ (by omega), c6.2 _ (by omega)⟩)
theorem gr_pop {M : Nat} {la' : Nat → Int32} {pr' : Nat → Int64} {ed' g1 : Nat → Int32} {g2 : Nat → Int64} {f1 f2 f3 f4 : Nat → Int32} (hS : gr_S (M + 1) sN sE sL sP sD yla ypr yfr yto yty ywt)
    (q1 : ∀ n, n < 8 → la' n = sL (M * 8 + n) ∧ pr' n = sP (M * 8 + n)) (q3 : ∀ e, e < 12 → ed' e = sD (M * 12 + e))
    (c1 : cp_I 8 (M + 1) 0 8 yla g1) (c2 : cp_I 8 (M + 1) 0 8 ypr g2) (c3 : cp_I 12 (M + 1) 0 12 yfr f1) (c4 : cp_I 12 (M + 1) 0 12 yto f2) (c5 : cp_I 12 (M + 1) 0 12 yty f3) (c6 : cp_I 12 (M + 1) 0 12 ywt f4) :
    gr_R (sN M) (sE M) la' pr' ed' g1 g2 f1 f2 f3 f4 ∧ gr_S M sN sE sL sP sD g1 g2 f1 f2 f3 f4 := by
  refine ⟨gr_cong (hS M (by omega)) (fun n hn => ⟨(q1 n hn).1, (q1 n hn).2, ?_, ?_⟩) (fun e he => ⟨q3 e he, ?_, ?_, ?_, ?_⟩), ?_⟩
  · have := c1.1 n hn; rw [show 8 * 0 + n = n from by omega] at this; exact this
  · have := c2.1 n hn; rw [show 8 * 0 + n = n from by omega] at this; exact this
  · have := c3.1 e he; rw [show 12 * 0 + e = e from by omega] at this; exact this
  · have := c4.1 e he; rw [show 12 * 0 + e = e from by omega] at this; exact this
  · have := c5.1 e he; rw [show 12 * 0 + e = e from by omega] at this; exact this
  · have := c6.1 e he; rw [show 12 * 0 + e = e from by omega] at this; exact this
  · exact gr_keep (fun b hb => hS b (by omega)) (fun j hj => ⟨c1.2 j (by omega), c2.2 j (by omega)⟩) (fun j hj => ⟨c3.2 j (by omega), c4.2 j (by omega), c5.2 j (by omega), c6.2 j (by omega)⟩)
theorem i_vc_begin {k : Nat} {u : SX} {v : SY} (I : i_Rel k u v) (hk : k + 7 ≤ 3584) : wpX_begin (fun r u' => wpY_begin (fun r' v' => r' = r ∧ i_Rel (k + 7) u' v') v) u := by
  obtain ⟨nT, eT, xlv, xpc, xqc, xcc, xec, mc, lw, rc, xla, xpr, xed, sN, sE, sL, sP, sD, pva, pwa, pam, pdi, plo, phi, ptk, pco, pex, tr, ds, ch, ar, rN, rM, s1, s2, s3, s4, s5⟩ := u
  obtain ⟨ylv, ypc, yqc, ycc, yec, yde, yus, ywe, yfo, yli, yso, ysu, yla, ypr, yfr, yto, yty, ywt, qpva, qpwa, qpam, qpdi, qplo, qphi, qptk, qpco, qpex, yst, ypa, ysp, ypl, ycp, ybo, ytk, yno, ych, yfa⟩ := v
  obtain ⟨⟨rfl, rfl, rfl, rfl, rfl, rfl, rfl, rfl, rfl⟩, hG, hQ, hT, hC, hE⟩ := I
  obtain ⟨hR, L, hL, rfl, rfl, hS⟩ := hG
  unfold wpX_begin wpY_begin
  by_cases z : L < 4
  · have n4 : ¬ nI L = 4 := fun e => by
      have := (nI_eq (b := 4) (by omega) (by omega)).mp e
      omega
    refine br_t (nI_lt (b := 4) z (by decide)) (tg_xsv z (fun sL' sP' sD' q1 q2 q3 q4 => nm_r (nI_1 L) (br_f n4 (nm_r (nI_1 L) (tg_ycp (a := 0) (b := L + 1) (by omega) (by omega) (by omega) (fun g1 g2 f1 f2 f3 f4 c1 c2 c3 c4 c5 c6 => ⟨rfl, ?_⟩))))))
    have P := gr_push hR hS q1 q2 q3 q4 c1 c2 c3 c4 c5 c6
    exact rl_mk _ ⟨P.1, L + 1, by omega, rfl, rfl, P.2⟩ hQ hT hC hE
  · have e : L = 4 := by omega
    subst e
    exact br_f (by decide) (br_t rfl ⟨rfl, rl_mk _ ⟨hR, 4, hL, rfl, rfl, hS⟩ hQ hT hC hE⟩)
theorem i_vc_commit {k : Nat} {u : SX} {v : SY} (I : i_Rel k u v) (hk : k + 7 ≤ 3584) : wpX_commit (fun r u' => wpY_commit (fun r' v' => r' = r ∧ i_Rel (k + 7) u' v') v) u := by
  obtain ⟨nT, eT, xlv, xpc, xqc, xcc, xec, mc, lw, rc, xla, xpr, xed, sN, sE, sL, sP, sD, pva, pwa, pam, pdi, plo, phi, ptk, pco, pex, tr, ds, ch, ar, rN, rM, s1, s2, s3, s4, s5⟩ := u
  obtain ⟨ylv, ypc, yqc, ycc, yec, yde, yus, ywe, yfo, yli, yso, ysu, yla, ypr, yfr, yto, yty, ywt, qpva, qpwa, qpam, qpdi, qplo, qphi, qptk, qpco, qpex, yst, ypa, ysp, ypl, ycp, ybo, ytk, yno, ych, yfa⟩ := v
  obtain ⟨⟨rfl, rfl, rfl, rfl, rfl, rfl, rfl, rfl, rfl⟩, hG, hQ, hT, hC, hE⟩ := I
  obtain ⟨hR, L, hL, rfl, rfl, hS⟩ := hG
  unfold wpX_commit wpY_commit
  cases L with
  | zero => exact br_f (by decide) (br_t rfl ⟨rfl, rl_mk _ ⟨hR, 0, hL, rfl, rfl, hS⟩ hQ hT hC hE⟩)
  | succ M =>
    exact br_t (nI_lt (a := 0) (by omega) (by omega)) (nm_r (nI_pred M) (br_f (nI_ne0 (by omega) (by omega)) (nm_r (nI_pred M) ⟨nI_pred M, rl_mk _ ⟨hR, M, by omega, rfl, rfl, fun b hb => hS b (by omega)⟩ hQ hT hC hE⟩)))
theorem i_vc_rollback {k : Nat} {u : SX} {v : SY} (I : i_Rel k u v) (hk : k + 7 ≤ 3584) : wpX_rollback (fun r u' => wpY_rollback (fun r' v' => r' = r ∧ i_Rel (k + 7) u' v') v) u := by
  obtain ⟨nT, eT, xlv, xpc, xqc, xcc, xec, mc, lw, rc, xla, xpr, xed, sN, sE, sL, sP, sD, pva, pwa, pam, pdi, plo, phi, ptk, pco, pex, tr, ds, ch, ar, rN, rM, s1, s2, s3, s4, s5⟩ := u
  obtain ⟨ylv, ypc, yqc, ycc, yec, yde, yus, ywe, yfo, yli, yso, ysu, yla, ypr, yfr, yto, yty, ywt, qpva, qpwa, qpam, qpdi, qplo, qphi, qptk, qpco, qpex, yst, ypa, ysp, ypl, ycp, ybo, ytk, yno, ych, yfa⟩ := v
  obtain ⟨⟨rfl, rfl, rfl, rfl, rfl, rfl, rfl, rfl, rfl⟩, hG, hQ, hT, hC, hE⟩ := I
  obtain ⟨hR, L, hL, rfl, rfl, hS⟩ := hG
  unfold wpX_rollback wpY_rollback
  cases L with
  | zero => exact br_f (by decide) (br_t rfl ⟨rfl, rl_mk _ ⟨hR, 0, hL, rfl, rfl, hS⟩ hQ hT hC hE⟩)
  | succ M =>
    refine br_t (nI_lt (a := 0) (by omega) (by omega)) (nm_r (nI_pred M) (tg_xrs (by omega) (fun la' pr' ed' q1 q3 => br_f (nI_ne0 (by omega) (by omega)) (tg_ycp (a := M + 1) (b := 0) (by omega) (by omega) (by omega) (fun g1 g2 f1 f2 f3 f4 c1 c2 c3 c4 c5 c6 => nm_r (nI_pred M) ⟨nI_pred M, ?_⟩)))))
    have P := gr_pop hS q1 q3 c1 c2 c3 c4 c5 c6
    exact rl_mk _ ⟨P.1, M, by omega, rfl, rfl, P.2⟩ hQ hT hC hE
end
section
/-! forget, start, hop, token -/
theorem qu_Hc {am am' h h' : Nat → Int32} : ∀ P, (∀ k, k < P → am' k = am k ∧ h' k = h k) → qu_H am' h' P = qu_H am h P
  | 0, _ => rfl
  | P + 1, e => by
    show qu_H am' h' P + _ = qu_H am h P + _
    rw [qu_Hc P (fun k hk => e k (by omega)), (e P (by omega)).1, (e P (by omega)).2]
theorem qu_Pc {va wa am di lo h va' wa' am' di' lo' h' : Nat → Int32} {k : Nat} (q : qu_P va wa am di lo h k) (e1 : va' k = va k) (e2 : wa' k = wa k) (e3 : am' k = am k) (e4 : di' k = di k) (e5 : lo' k = lo k) (e6 : h' k = h k) : qu_P va' wa' am' di' lo' h' k := by
  unfold qu_P
  rw [e1, e2, e3, e4, e5, e6]
  exact q
theorem cd_mono {c : Nat → Nat} {nm nm' : Nat → Prop} {n : Nat} {cs os : Nat → Nat} {nu : Nat → Prop} (h : cd_W c nm n cs os nu) (m : ∀ v, nm v → nm' v) : cd_W c nm' n cs os nu := by
  refine ⟨h.1, h.2.1, h.2.2.1, h.2.2.2.1, fun k hk => ?_⟩
  rcases h.2.2.2.2 k hk with ⟨a, b, d, e, f⟩ | r
  · exact Or.inl ⟨a, b, d, e, f.imp (fun q => ⟨q.1, m _ q.2⟩) id⟩
  · exact Or.inr r
theorem rl_C0 {xpc : Int32} {va co : Nat → Int32} : rl_C 0 0 xpc va co := ⟨0, fun _ => 0, by omega, rfl, rfl, fun b hb => absurd hb (Nat.not_lt_zero b), Or.inl rfl⟩
theorem rl_Cs {xcc ycc : Int32} {va co : Nat → Int32} {P : Nat} {x : Int32} (hP : P < 6) (h : rl_C xcc ycc (nI P) va co) : rl_C xcc ycc (nI (P + 1)) (upd va P x) co := by
  obtain ⟨n, c, h1, h2, h3, h4, h5⟩ := h
  refine ⟨n, c, h1, h2, h3, h4, h5.imp id (fun ⟨cs, os, nu, w⟩ => ⟨cs, os, nu, cd_mono w ?_⟩)⟩
  rintro v ⟨k, P', a, b, e, f⟩
  have e' : P = P' := (nI_eq (by omega) (by omega)).mp e
  exact ⟨k, P + 1, by omega, by omega, rfl, by rw [pk_un (by omega)]; exact f⟩
theorem tg_rng {x : Int32} (a b : Nat) (hb : b < 2 ^ 30) (h1 : ¬ x < nI a) (h2 : ¬ nI b < x) (ha : a ≤ b) : ∃ j, a ≤ j ∧ j ≤ b ∧ x = nI j := by
  rcases pk_ix x (n := b + 1) (by omega) with z | z | ⟨j, hj, rfl⟩
  · exact absurd (Int32.lt_of_lt_of_le z (nI_pos' (by omega))) h1
  · exact absurd (Int32.lt_of_lt_of_le (nI_lt (Nat.lt_succ_self b) (by omega)) z) h2
  · rw [nI_ltI (by omega) (by omega)] at h1
    exact ⟨j, by omega, by omega, rfl⟩
theorem tg_can {post : Int32 → Prop} {x y : Int32} (h0 : ¬ ((∃ v, v < 4 ∧ x = nI v) ∧ (∃ w, w < 16 ∧ y = nI w)) → post 0) (h1 : ∀ v w, v < 4 → w < 16 → x = nI v → y = nI w → post 1) : wpX_canName post x y := by
  rcases pk_ix x (n := 4) (by omega) with c | c | ⟨v, hv, rfl⟩
  · exact br_t c (h0 (fun ⟨⟨v, hv, e⟩, _⟩ => absurd c (by rw [e]; exact nI_pos (by omega))))
  · obtain ⟨c0, c1, c2⟩ := tg_hi 3 (by omega) c
    exact br_f c0 (br_t c (h0 (fun ⟨⟨v, hv, e⟩, _⟩ => absurd c (by rw [e]; exact nI_ge hv (by omega)))))
  · rcases pk_ix y (n := 16) (by omega) with c | c | ⟨w, hw, rfl⟩
    · exact br_f (nI_pos (by omega)) (br_f (nI_ge (b := 4) hv (by decide)) (br_t c (h0 (fun ⟨_, ⟨v, hv, e⟩⟩ => absurd c (by rw [e]; exact nI_pos (by omega))))))
    · obtain ⟨c0, c1, c2⟩ := tg_hi 15 (by omega) c
      exact br_f (nI_pos (by omega)) (br_f (nI_ge (b := 4) hv (by decide)) (br_f c0 (br_t c2 (h0 (fun ⟨_, ⟨v, hv, e⟩⟩ => absurd c (by rw [e]; exact nI_ge hv (by omega)))))))
    · exact br_f (nI_pos (by omega)) (br_f (nI_ge (b := 4) hv (by decide)) (br_f (nI_pos (by omega)) (br_f (nI_nlt (b := w) (a := 15) (by omega) (by omega)) (h1 v w hv hw rfl rfl))))
theorem tg_nr {x : Int32} {a b : Nat} (hb : b < 2 ^ 30) (h : x < nI a ∨ nI b < x) : ¬ ∃ j, a ≤ j ∧ j ≤ b ∧ x = nI j := by
  rintro ⟨j, h1, h2, rfl⟩
  rcases h with h | h
  · exact nI_nlt h1 (by omega) h
  · exact nI_nlt h2 (by omega) h
variable {nT : Int32} {eT : Int32} {xlv : Int32} {xpc : Int32} {xqc : Int32} {xcc : Int32} {xec : Int32} {mc : Int32} {lw : Int32} {rc : Int32} {xla : Nat → Int32} {xpr : Nat → Int64} {xed : Nat → Int32} {sN : Nat → Int32} {sE : Nat → Int32} {sL : Nat → Int32} {sP : Nat → Int64} {sD : Nat → Int32} {pva : Nat → Int32} {pwa : Nat → Int32} {pam : Nat → Int32} {pdi : Nat → Int32} {plo : Nat → Int32} {phi : Nat → Int32} {ptk : Nat → Int32} {pco : Nat → Int32} {pex : Nat → Int32} {tr : Nat → Int32} {ds : Nat → Int32} {ch : Nat → Int32} {ar : Nat → Int32} {rN : Nat → Int32} {rM : Nat → Int32} {s1 : Nat → Int32} {s2 : Nat → Int32} {s3 : Nat → Int32} {s4 : Nat → Int32} {s5 : Nat → Int32}
variable {ylv : Int32} {ypc : Int32} {yqc : Int32} {ycc : Int32} {yec : Int32} {yde : Int32} {yus : Int32} {ywe : Int32} {yfo : Int32} {yli : Int32} {yso : Int32} {ysu : Int64} {yla : Nat → Int32} {ypr : Nat → Int64} {yfr : Nat → Int32} {yto : Nat → Int32} {yty : Nat → Int32} {ywt : Nat → Int32} {yst : Nat → Int32} {ypa : Nat → Int32} {ysp : Nat → Int32} {ypl : Nat → Int32} {ycp : Nat → Int32} {ybo : Nat → Int32} {ytk : Nat → Int32} {yno : Nat → Int32} {ych : Nat → Int32} {yfa : Nat → Int32}
theorem i_vc_forget {k : Nat} {u : SX} {v : SY} (I : i_Rel k u v) (hk : k + 7 ≤ 3584) : wpX_forget (fun r u' => wpY_forget (fun r' v' => r' = r ∧ i_Rel (k + 7) u' v') v) u := by
  obtain ⟨nT, eT, xlv, xpc, xqc, xcc, xec, mc, lw, rc, xla, xpr, xed, sN, sE, sL, sP, sD, pva, pwa, pam, pdi, plo, phi, ptk, pco, pex, tr, ds, ch, ar, rN, rM, s1, s2, s3, s4, s5⟩ := u
  obtain ⟨ylv, ypc, yqc, ycc, yec, yde, yus, ywe, yfo, yli, yso, ysu, yla, ypr, yfr, yto, yty, ywt, qpva, qpwa, qpam, qpdi, qplo, qphi, qptk, qpco, qpex, yst, ypa, ysp, ypl, ycp, ybo, ytk, yno, ych, yfa⟩ := v
  obtain ⟨⟨rfl, rfl, rfl, rfl, rfl, rfl, rfl, rfl, rfl⟩, hG, hQ, hT, hC, hE⟩ := I
  obtain ⟨P, hP, rfl, rfl, hp, hH⟩ := hQ
  exact ⟨rfl, rl_mk _ hG ⟨0, by omega, rfl, rfl, fun b hb => absurd hb (Nat.not_lt_zero b), Nat.zero_le _⟩ hT rl_C0 hE⟩
theorem tg_xadd {post : SX → Prop} {P : Nat} (hP : P < 6) {x y : Int32} (h : post (nT, eT, xlv, (nI (P + 1)), xqc, xcc, xec, mc, lw, rc, xla, xpr, xed, sN, sE, sL, sP, sD, (upd pva P x), (upd pwa P y), pam, pdi, plo, phi, ptk, pco, pex, tr, ds, ch, ar, rN, rM, s1, s2, s3, s4, s5)) : wpX_addPart post (nT, eT, xlv, (nI P), xqc, xcc, xec, mc, lw, rc, xla, xpr, xed, sN, sE, sL, sP, sD, pva, pwa, pam, pdi, plo, phi, ptk, pco, pex, tr, ds, ch, ar, rN, rM, s1, s2, s3, s4, s5) x y :=
  ⟨vp_in_nI hP (by decide), nm_r (tg_u (by omega)) ⟨vp_in_nI hP (by decide), nm_r (tg_u (by omega)) (nm_r (nI_1 P) h)⟩⟩
theorem tg_yadd {post : Int32 → SY → Prop} {P : Nat} (hP : P < 6) {x y z : Int32} (h : post (nI (P + 1)) (ylv, (nI (P + 1)), yqc, ycc, yec, yde, yus, ywe, yfo, yli, yso, ysu, yla, ypr, yfr, yto, yty, ywt, (upd pva P x), (upd pwa P y), (upd pam P z), pdi, plo, phi, ptk, pco, pex, yst, ypa, ysp, ypl, ycp, ybo, ytk, yno, ych, yfa)) : wpY_add post (ylv, (nI P), yqc, ycc, yec, yde, yus, ywe, yfo, yli, yso, ysu, yla, ypr, yfr, yto, yty, ywt, pva, pwa, pam, pdi, plo, phi, ptk, pco, pex, yst, ypa, ysp, ypl, ycp, ybo, ytk, yno, ych, yfa) x y z :=
  br_f (fun e => by have := (nI_eq (b := 6) (by omega) (by omega)).mp e; omega) ⟨vp_in_nI hP (by decide), nm_r (tg_u (by omega)) ⟨vp_in_nI hP (by decide), nm_r (tg_u (by omega)) (nm_r (nI_1 P) ⟨vp_in_nI hP (by decide), nm_r (tg_u (by omega)) h⟩)⟩⟩
theorem tg_yadd6 {post : Int32 → SY → Prop} {x y z : Int32} (h : post (-2) (ylv, (nI 6), yqc, ycc, yec, yde, yus, ywe, yfo, yli, yso, ysu, yla, ypr, yfr, yto, yty, ywt, pva, pwa, pam, pdi, plo, phi, ptk, pco, pex, yst, ypa, ysp, ypl, ycp, ybo, ytk, yno, ych, yfa)) : wpY_add post (ylv, (nI 6), yqc, ycc, yec, yde, yus, ywe, yfo, yli, yso, ysu, yla, ypr, yfr, yto, yty, ywt, pva, pwa, pam, pdi, plo, phi, ptk, pco, pex, yst, ypa, ysp, ypl, ycp, ybo, ytk, yno, ych, yfa) x y z := br_t rfl h
theorem i_vc_start {k : Nat} {u : SX} {v : SY} (I : i_Rel k u v) (hk : k + 7 ≤ 3584) (v1 : Int32) (v2 : Int32) : wpX_start (fun r u' => wpY_start (fun r' v' => r' = r ∧ i_Rel (k + 7) u' v') v v1 v2) u v1 v2 := by
  obtain ⟨nT, eT, xlv, xpc, xqc, xcc, xec, mc, lw, rc, xla, xpr, xed, sN, sE, sL, sP, sD, pva, pwa, pam, pdi, plo, phi, ptk, pco, pex, tr, ds, ch, ar, rN, rM, s1, s2, s3, s4, s5⟩ := u
  obtain ⟨ylv, ypc, yqc, ycc, yec, yde, yus, ywe, yfo, yli, yso, ysu, yla, ypr, yfr, yto, yty, ywt, qpva, qpwa, qpam, qpdi, qplo, qphi, qptk, qpco, qpex, yst, ypa, ysp, ypl, ycp, ybo, ytk, yno, ych, yfa⟩ := v
  obtain ⟨⟨rfl, rfl, rfl, rfl, rfl, rfl, rfl, rfl, rfl⟩, hG, hQ, hT, hC, hE⟩ := I
  obtain ⟨P, hP, rfl, rfl, hp, hH⟩ := hQ
  have J := rl_mk (k + 7) (mc := mc) (lw := lw) (rc := rc) (tr := tr) (ds := ds) (ch := ch) (ar := ar) (rN := rN) (rM := rM) (s1 := s1) (s2 := s2) (s3 := s3) (s4 := s4) (s5 := s5) (yde := yde) (yus := yus) (ywe := ywe) (yfo := yfo) (yli := yli) (yso := yso) (ysu := ysu) (yst := yst) (ypa := ypa) (ysp := ysp) (ypl := ypl) (ycp := ycp) (ybo := ybo) (ytk := ytk) (yno := yno) (ych := ych) (yfa := yfa) hG ⟨P, hP, rfl, rfl, hp, hH⟩ hT hC hE
  unfold wpX_start wpY_start
  refine tg_can (fun hb => br_t rfl ?_) (fun v w hv hw e1 e2 => br_f tg_10 ?_)
  · refine tg_wi 0 3 (by omega) (by omega) (fun _ => br_t rfl ⟨rfl, J⟩) (fun v _ hv e1 => br_f tg_10 (tg_wi 0 15 (by omega) (by omega) (fun _ => br_t rfl ⟨rfl, J⟩) (fun w _ hw e2 => ?_)))
    exact absurd ⟨⟨v, by omega, e1⟩, ⟨w, by omega, e2⟩⟩ hb
  · subst e1 e2
    have Y : ∀ A : Prop, A → ∀ B C : Prop, (wpY_within (fun r_1 => (r_1 = 0 → B) ∧ (¬ r_1 = 0 → wpY_within (fun r_3 => (r_3 = 0 → C) ∧ (¬ r_3 = 0 → A)) (nI w) 0 15)) (nI v) 0 3) := fun A hA B C =>
      tg_wi 0 3 (by omega) (by omega) (fun z => absurd ⟨v, by omega, by omega, rfl⟩ (tg_nr (by omega) z)) (fun _ _ _ _ => br_f tg_10 (tg_wi 0 15 (by omega) (by omega) (fun z => absurd ⟨w, by omega, by omega, rfl⟩ (tg_nr (by omega) z)) (fun _ _ _ _ => br_f tg_10 hA)))
    by_cases z : P < 6
    · refine br_t (nI_lt (b := 6) z (by decide)) ⟨vp_in_nI z (by decide), nm_r (tg_u (by omega)) (tg_xadd z (Y _ (tg_yadd z ⟨rfl, ?_⟩) _ _))⟩
      refine rl_mk _ hG ⟨P + 1, by omega, rfl, rfl, fun j hj => ?_, ?_⟩ hT (rl_Cs z hC) hE
      · by_cases q : j = P
        · subst q
          exact ⟨v, w, 0, hv, hw, by omega, pk_us, pk_us, pk_us, fun q => absurd q (by omega)⟩
        · exact qu_Pc (hp j (by omega)) (pk_un q) (pk_un q) (pk_un q) rfl rfl rfl
      · show qu_H _ _ P + _ ≤ 5
        rw [qu_Hc P (fun j hj => ⟨pk_un (by omega), rfl⟩), pk_us, if_pos rfl]
        exact hH
    · have e : P = 6 := by omega
      subst e
      exact br_f (by decide) (Y _ (tg_yadd6 ⟨rfl, J⟩) _ _)
end
section
/-! hop, token -/
theorem qu_am {va wa am di lo h : Nat → Int32} {k : Nat} (q : qu_P va wa am di lo h k) : (am k = 0 ∧ qu_H am h (k + 1) = qu_H am h k) ∨ (¬ am k = 0 ∧ ¬ am k ≤ 0 ∧ ∃ c, h k = nI c ∧ c ≤ 3 ∧ qu_H am h (k + 1) = qu_H am h k + c) := by
  obtain ⟨v, w, t, _, _, ht, _, _, e, f⟩ := q
  rcases Nat.eq_zero_or_pos t with z | z
  · subst z
    have e' : am k = 0 := e
    exact Or.inl ⟨e', by show qu_H am h k + _ = _; rw [if_pos e']; rfl⟩
  · obtain ⟨_, d, l, c, _, _, _, hc, _, _, e2⟩ := f z
    have n0 : ¬ am k = 0 := by rw [e]; exact nI_ne0 z (by omega)
    refine Or.inr ⟨n0, by rw [e]; exact nI_nle z (by omega), c, e2, hc, ?_⟩
    show qu_H am h k + _ = _
    rw [if_neg n0, e2, nI_clamp (by omega)]
theorem qu_Hm {am h : Nat → Int32} (i d : Nat) : qu_H am h i ≤ qu_H am h (i + d) := by
  induction d with
  | zero => exact Nat.le_refl _
  | succ d ih => exact Nat.le_trans ih (Nat.le_add_right _ _)
/-- the six arguments of a hop that is neither refused nor too long -/
def hp_G (P : Nat) (am h : Nat → Int32) (p0 p1 p2 p3 p4 p5 : Int32) : Prop :=
  0 < P ∧ (∃ t, 1 ≤ t ∧ t ≤ 7 ∧ p0 = nI t) ∧ (∃ d, d < 3 ∧ p1 = nI d) ∧ (∃ l c, 1 ≤ l ∧ l ≤ c ∧ c ≤ 3 ∧ p2 = nI l ∧ p3 = nI c ∧ qu_H am h P + c ≤ 5) ∧ (∃ v, v < 4 ∧ p4 = nI v) ∧ (∃ w, w < 16 ∧ p5 = nI w)
theorem tg_lh {x y : Int32} (h1 : ¬ x < 1) (h2 : ¬ y < x) (h3 : ¬ 3 < y) : ∃ l c, 1 ≤ l ∧ l ≤ c ∧ c ≤ 3 ∧ x = nI l ∧ y = nI c := by
  have h0 : ¬ y < nI 1 := fun z => h1 (Int32.lt_of_le_of_lt (Int32.not_lt.mp h2) z)
  obtain ⟨c, a, b, rfl⟩ := tg_rng 1 3 (by omega) h0 h3 (by omega)
  obtain ⟨l, a', b', rfl⟩ := tg_rng (x := x) 1 3 (by omega) h1 (fun z => h2 (Int32.lt_of_le_of_lt (nI_le (b := 3) b (by omega)) z)) (by omega)
  rw [nI_ltI (by omega) (by omega)] at h2
  exact ⟨l, c, a', by omega, b, rfl, rfl⟩
variable {nT : Int32} {eT : Int32} {xlv : Int32} {xpc : Int32} {xqc : Int32} {xcc : Int32} {xec : Int32} {mc : Int32} {lw : Int32} {rc : Int32} {xla : Nat → Int32} {xpr : Nat → Int64} {xed : Nat → Int32} {sN : Nat → Int32} {sE : Nat → Int32} {sL : Nat → Int32} {sP : Nat → Int64} {sD : Nat → Int32} {pva : Nat → Int32} {pwa : Nat → Int32} {pam : Nat → Int32} {pdi : Nat → Int32} {plo : Nat → Int32} {phi : Nat → Int32} {ptk : Nat → Int32} {pco : Nat → Int32} {pex : Nat → Int32} {tr : Nat → Int32} {ds : Nat → Int32} {ch : Nat → Int32} {ar : Nat → Int32} {rN : Nat → Int32} {rM : Nat → Int32} {s1 : Nat → Int32} {s2 : Nat → Int32} {s3 : Nat → Int32} {s4 : Nat → Int32} {s5 : Nat → Int32}
variable {ylv : Int32} {ypc : Int32} {yqc : Int32} {ycc : Int32} {yec : Int32} {yde : Int32} {yus : Int32} {ywe : Int32} {yfo : Int32} {yli : Int32} {yso : Int32} {ysu : Int64} {yla : Nat → Int32} {ypr : Nat → Int64} {yfr : Nat → Int32} {yto : Nat → Int32} {yty : Nat → Int32} {ywt : Nat → Int32} {yst : Nat → Int32} {ypa : Nat → Int32} {ysp : Nat → Int32} {ypl : Nat → Int32} {ycp : Nat → Int32} {ybo : Nat → Int32} {ytk : Nat → Int32} {yno : Nat → Int32} {ych : Nat → Int32} {yfa : Nat → Int32}
theorem tg_xht {post : Int32 → Prop} {P : Nat} (hP : P ≤ 6) (hp : ∀ k, k < P → qu_P pva pwa pam pdi plo phi k) (h : post (nI (qu_H pam phi P))) : wpX_highsTogether post (nT, eT, xlv, (nI P), xqc, xcc, xec, mc, lw, rc, xla, xpr, xed, sN, sE, sL, sP, sD, pva, pwa, pam, pdi, plo, phi, ptk, pco, pex, tr, ds, ch, ar, rN, rM, s1, s2, s3, s4, s5) := by
  have K : ∀ d i, i + d = P → wX_highsTogether_4 post nT eT xlv (nI P) xqc xcc xec mc lw rc xla xpr xed sN sE sL sP sD pva pwa pam pdi plo phi ptk pco pex tr ds ch ar rN rM s1 s2 s3 s4 s5 (d + 1) (nI (qu_H pam phi i)) (nI i) := by
    intro d
    induction d with
    | zero =>
      intro i hi
      have e : i = P := by omega
      subst e
      exact br_t (nI_le (by omega) (by omega)) h
    | succ d ih =>
      intro i hi
      have w : vp_in (nI i) 6 := vp_in_nI (by omega) (by omega)
      refine br_f (nI_ge (by omega) (by omega)) ⟨w, ?_⟩
      rw [nI_clamp (by omega)]
      rcases qu_am (hp i (by omega)) with ⟨e, e2⟩ | ⟨e, _, c, e3, _, e2⟩
      · refine br_t e (nm_r (nI_1 i) ?_)
        rw [← e2]
        exact ih (i + 1) (by omega)
      · refine br_f e ⟨w, nm_r (by rw [e3, nI_add, ← e2]) (nm_r (nI_1 i) (ih (i + 1) (by omega)))⟩
  exact ⟨P + 1, K P 0 (by omega)⟩
theorem tg_xhB {post : Int32 → SX → Prop} {P : Nat} (hP : P ≤ 6) (hp : ∀ k, k < P → qu_P pva pwa pam pdi plo phi k) (hH : qu_H pam phi P ≤ 5) {p0 p1 p2 p3 p4 p5 : Int32} (hB : ¬ hp_G P pam phi p0 p1 p2 p3 p4 p5) (h : post (-1) (nT, eT, xlv, (nI P), xqc, xcc, xec, mc, lw, rc, xla, xpr, xed, sN, sE, sL, sP, sD, pva, pwa, pam, pdi, plo, phi, ptk, pco, pex, tr, ds, ch, ar, rN, rM, s1, s2, s3, s4, s5)) : wpX_hop post (nT, eT, xlv, (nI P), xqc, xcc, xec, mc, lw, rc, xla, xpr, xed, sN, sE, sL, sP, sD, pva, pwa, pam, pdi, plo, phi, ptk, pco, pex, tr, ds, ch, ar, rN, rM, s1, s2, s3, s4, s5) p0 p1 p2 p3 p4 p5 := by
  unfold wpX_hop
  refine br_c (fun _ => h) (fun c0 => br_c (fun _ => h) (fun c1 => br_c (fun _ => h) (fun c2 => tg_can (fun _ => br_t rfl h) (fun v w hv hw e1 e2 => br_f tg_10 (br_c (fun _ => h) (fun c3 => br_c (fun c4 => br_c (fun _ => h) (fun c5 => br_c (fun _ => h) (fun c6 => br_c (fun _ => h) (fun c7 => tg_xht hP hp (br_c (fun c8 => ?_) (fun _ => h)))))) (fun _ => h)))))))
  exfalso
  obtain ⟨t, t1, t2, et⟩ := tg_rng 1 7 (by omega) c1 c2 (by omega)
  obtain ⟨d, d1, d2, ed⟩ := tg_rng (x := p1) 0 2 (by omega) c3 (Int32.not_lt.mpr c4) (by omega)
  obtain ⟨l, c, l1, l2, l3, el, ec⟩ := tg_lh c5 c6 c7
  refine hB ⟨?_, ⟨t, t1, t2, et⟩, ⟨d, by omega, ed⟩, ⟨l, c, l1, l2, l3, el, ec, ?_⟩, ⟨v, hv, e1⟩, ⟨w, hw, e2⟩⟩
  · rcases Nat.eq_zero_or_pos P with z | z
    · subst z; exact absurd rfl c0
    · exact z
  · rw [ec, nI_add] at c8
    exact (nI_leI (b := 5) (by omega) (by omega)).mp c8
theorem tg_xhG {post : Int32 → SX → Prop} {P : Nat} (hP : P ≤ 6) (hp : ∀ k, k < P → qu_P pva pwa pam pdi plo phi k) (hH : qu_H pam phi P ≤ 5) {p0 p1 p2 p3 p4 p5 : Int32} (hB : hp_G P pam phi p0 p1 p2 p3 p4 p5) (h : P < 6 → post (nI (P + 1)) (nT, eT, xlv, (nI (P + 1)), xqc, xcc, xec, mc, lw, rc, xla, xpr, xed, sN, sE, sL, sP, sD, (upd pva P p4), (upd pwa P p5), (upd pam P p0), (upd pdi P p1), (upd plo P p2), (upd phi P p3), ptk, pco, pex, tr, ds, ch, ar, rN, rM, s1, s2, s3, s4, s5)) (h6 : P = 6 → post (-2) (nT, eT, xlv, (nI P), xqc, xcc, xec, mc, lw, rc, xla, xpr, xed, sN, sE, sL, sP, sD, pva, pwa, pam, pdi, plo, phi, ptk, pco, pex, tr, ds, ch, ar, rN, rM, s1, s2, s3, s4, s5)) : wpX_hop post (nT, eT, xlv, (nI P), xqc, xcc, xec, mc, lw, rc, xla, xpr, xed, sN, sE, sL, sP, sD, pva, pwa, pam, pdi, plo, phi, ptk, pco, pex, tr, ds, ch, ar, rN, rM, s1, s2, s3, s4, s5) p0 p1 p2 p3 p4 p5 := by
  obtain ⟨z, ⟨t, t1, t2, rfl⟩, ⟨d, hd, rfl⟩, ⟨l, c, l1, l2, l3, rfl, rfl, hs⟩, ⟨v, hv, rfl⟩, ⟨w, hw, rfl⟩⟩ := hB
  unfold wpX_hop
  refine br_f (nI_ne0 z (by omega)) (br_f (nI_nlt (b := 1) t1 (by omega)) (br_f (nI_nlt (b := t) (a := 7) t2 (by omega)) (tg_can (fun q => absurd ⟨⟨v, hv, rfl⟩, ⟨w, hw, rfl⟩⟩ q) (fun v' w' hv' hw' e1 e2 => br_f tg_10 (br_f (nI_pos (by omega)) (br_t (nI_le (b := 2) (by omega) (by omega)) (br_f (nI_nlt (b := 1) l1 (by omega)) (br_f (nI_nlt l2 (by omega)) (br_f (nI_nlt (b := c) (a := 3) l3 (by omega)) (tg_xht hP hp (br_t ?_ ?_)))))))))))
  · rw [nI_add]; exact nI_le (b := 5) hs (by omega)
  · by_cases q : P < 6
    · have w : vp_in (nI P) 6 := vp_in_nI q (by decide)
      exact br_t (nI_lt (b := 6) q (by decide)) ⟨w, nm_r (tg_u (by omega)) ⟨w, nm_r (tg_u (by omega)) ⟨w, nm_r (tg_u (by omega)) ⟨w, nm_r (tg_u (by omega)) (tg_xadd q (h q))⟩⟩⟩⟩
    · exact br_f (nI_nlt (a := P) (b := 6) (by omega) (by omega)) (h6 (by omega))
theorem tg_yhl {post : Int32 → SY → Prop} {P : Nat} (hP : P ≤ 6) (hp : ∀ k, k < P → qu_P pva pwa pam pdi plo phi k) {p0 p1 p2 p3 p4 p5 : Int32} (h : wY_hop_7 post p0 p1 p2 p3 p4 p5 ylv (nI P) yqc ycc yec yde yus ywe yfo yli yso ysu yla ypr yfr yto yty ywt pva pwa pam pdi plo phi ptk pco pex yst ypa ysp ypl ycp ybo ytk yno ych yfa 1 (p3 + nI (qu_H pam phi P)) (nI P)) : wpY_hop post (ylv, (nI P), yqc, ycc, yec, yde, yus, ywe, yfo, yli, yso, ysu, yla, ypr, yfr, yto, yty, ywt, pva, pwa, pam, pdi, plo, phi, ptk, pco, pex, yst, ypa, ysp, ypl, ycp, ybo, ytk, yno, ych, yfa) p0 p1 p2 p3 p4 p5 := by
  have K : ∀ d i, i + d = P → wY_hop_7 post p0 p1 p2 p3 p4 p5 ylv (nI P) yqc ycc yec yde yus ywe yfo yli yso ysu yla ypr yfr yto yty ywt pva pwa pam pdi plo phi ptk pco pex yst ypa ysp ypl ycp ybo ytk yno ych yfa (d + 1) (p3 + nI (qu_H pam phi i)) (nI i) := by
    intro d
    induction d with
    | zero =>
      intro i hi
      have e : i = P := by omega
      subst e
      exact h
    | succ d ih =>
      intro i hi
      have w : vp_in (nI i) 6 := vp_in_nI (by omega) (by omega)
      refine br_f (nI_ge (by omega) (by omega)) ⟨w, ?_⟩
      rw [nI_clamp (by omega)]
      rcases qu_am (hp i (by omega)) with ⟨e, e2⟩ | ⟨_, e, c, e3, _, e2⟩
      · refine br_t (by rw [e]; decide) (nm_r (nI_1 i) ?_)
        rw [← e2]
        exact ih (i + 1) (by omega)
      · refine br_f e ⟨w, nm_r (by rw [e3, Int32.add_assoc, nI_add, ← e2]) (nm_r (nI_1 i) (ih (i + 1) (by omega)))⟩
  refine ⟨P + 1, ?_⟩
  have := K P 0 (by omega)
  rw [show p3 + nI (qu_H pam phi 0) = p3 from Int32.add_zero p3] at this
  exact this
theorem tg_yhB {post : Int32 → SY → Prop} {P : Nat} (hP : P ≤ 6) (hp : ∀ k, k < P → qu_P pva pwa pam pdi plo phi k) (hH : qu_H pam phi P ≤ 5) {p0 p1 p2 p3 p4 p5 : Int32} (hB : ¬ hp_G P pam phi p0 p1 p2 p3 p4 p5) (h : post (-1) (ylv, (nI P), yqc, ycc, yec, yde, yus, ywe, yfo, yli, yso, ysu, yla, ypr, yfr, yto, yty, ywt, pva, pwa, pam, pdi, plo, phi, ptk, pco, pex, yst, ypa, ysp, ypl, ycp, ybo, ytk, yno, ych, yfa)) : wpY_hop post (ylv, (nI P), yqc, ycc, yec, yde, yus, ywe, yfo, yli, yso, ysu, yla, ypr, yfr, yto, yty, ywt, pva, pwa, pam, pdi, plo, phi, ptk, pco, pex, yst, ypa, ysp, ypl, ycp, ybo, ytk, yno, ych, yfa) p0 p1 p2 p3 p4 p5 := by
  refine tg_yhl hP hp ?_
  have h0 : wY_hop_91 post p0 p1 p2 p3 p4 p5 (p3 + nI (qu_H pam phi P)) ylv (nI P) yqc ycc yec yde yus ywe yfo yli yso ysu yla ypr yfr yto yty ywt pva pwa pam pdi plo phi ptk pco pex yst ypa ysp ypl ycp ybo ytk yno ych yfa := br_t rfl h
  refine br_t (Int32.le_refl _) (br_c (fun _ => h0) (fun c0 => tg_wi 1 7 (by omega) (by omega) (fun _ => br_t rfl h0) (fun t t1 t2 et => br_f tg_10 (tg_wi 0 2 (by omega) (by omega) (fun _ => br_t rfl h0) (fun d d1 d2 ed => br_f tg_10 (br_c (fun _ => h0) (fun c5 => br_c (fun _ => h0) (fun c6 => br_c (fun _ => h0) (fun c7 => ?_)))))))))
  refine br_f tg_10 (tg_wi 0 3 (by omega) (by omega) (fun _ => br_t rfl h) (fun v _ hv e1 => br_f tg_10 (tg_wi 0 15 (by omega) (by omega) (fun _ => br_t rfl h) (fun w _ hw e2 => br_f tg_10 (br_c (fun c8 => ?_) (fun _ => h))))))
  exfalso
  obtain ⟨l, c, l1, l2, l3, el, ec⟩ := tg_lh c5 c6 c7
  refine hB ⟨?_, ⟨t, t1, t2, et⟩, ⟨d, by omega, ed⟩, ⟨l, c, l1, l2, l3, el, ec, ?_⟩, ⟨v, by omega, e1⟩, ⟨w, by omega, e2⟩⟩
  · rcases Nat.eq_zero_or_pos P with z | z
    · subst z; exact absurd (by decide) c0
    · exact z
  · rw [ec, nI_add] at c8
    have := (nI_leI (b := 5) (by omega) (by omega)).mp c8
    omega
theorem tg_yhG {post : Int32 → SY → Prop} {P : Nat} (hP : P ≤ 6) (hp : ∀ k, k < P → qu_P pva pwa pam pdi plo phi k) (hH : qu_H pam phi P ≤ 5) {p0 p1 p2 p3 p4 p5 : Int32} (hB : hp_G P pam phi p0 p1 p2 p3 p4 p5) (h : P < 6 → post (nI (P + 1)) (ylv, (nI (P + 1)), yqc, ycc, yec, yde, yus, ywe, yfo, yli, yso, ysu, yla, ypr, yfr, yto, yty, ywt, (upd pva P p4), (upd pwa P p5), (upd pam P p0), (upd pdi P p1), (upd plo P p2), (upd phi P p3), ptk, pco, pex, yst, ypa, ysp, ypl, ycp, ybo, ytk, yno, ych, yfa)) (h6 : P = 6 → post (-2) (ylv, (nI P), yqc, ycc, yec, yde, yus, ywe, yfo, yli, yso, ysu, yla, ypr, yfr, yto, yty, ywt, pva, pwa, pam, pdi, plo, phi, ptk, pco, pex, yst, ypa, ysp, ypl, ycp, ybo, ytk, yno, ych, yfa)) : wpY_hop post (ylv, (nI P), yqc, ycc, yec, yde, yus, ywe, yfo, yli, yso, ysu, yla, ypr, yfr, yto, yty, ywt, pva, pwa, pam, pdi, plo, phi, ptk, pco, pex, yst, ypa, ysp, ypl, ycp, ybo, ytk, yno, ych, yfa) p0 p1 p2 p3 p4 p5 := by
  obtain ⟨z, ⟨t, t1, t2, rfl⟩, ⟨d, hd, rfl⟩, ⟨l, c, l1, l2, l3, rfl, rfl, hs⟩, ⟨v, hv, rfl⟩, ⟨w, hw, rfl⟩⟩ := hB
  refine tg_yhl hP hp ?_
  have W : ∀ {post : Int32 → Prop} {j : Nat} (a b : Nat) (hb : b < 2 ^ 30), a ≤ j → j ≤ b → post 1 → wpY_within post (nI j) (nI a) (nI b) := fun a b hb h1 h2 hq => br_f (nI_nlt h1 (by omega)) (br_f (nI_nlt h2 (by omega)) hq)
  refine br_t (Int32.le_refl _) (br_f (nI_nle z (by omega)) (W 1 7 (by omega) t1 t2 (br_f tg_10 (W 0 2 (by omega) (by omega) (by omega) (br_f tg_10 (br_f (nI_nlt (b := 1) l1 (by omega)) (br_f (nI_nlt l2 (by omega)) (br_f (nI_nlt (b := c) (a := 3) l3 (by omega)) (br_f tg_10 (W 0 3 (by omega) (by omega) (by omega) (br_f tg_10 (W 0 15 (by omega) (by omega) (by omega) (br_f tg_10 (br_t ?_ ?_))))))))))))))
  · rw [nI_add]; exact nI_le (b := 5) (by omega) (by omega)
  · by_cases q : P < 6
    · have w : vp_in (nI P) 6 := vp_in_nI q (by decide)
      exact br_f (fun e => by have := (nI_eq (b := 6) (by omega) (by omega)).mp e; omega) ⟨w, nm_r (tg_u (by omega)) ⟨w, nm_r (tg_u (by omega)) ⟨w, nm_r (tg_u (by omega)) (tg_yadd q (h q))⟩⟩⟩
    · have e : P = 6 := by omega
      subst e
      exact br_t rfl (h6 rfl)
theorem i_vc_hop {k : Nat} {u : SX} {v : SY} (I : i_Rel k u v) (hk : k + 7 ≤ 3584) (v1 : Int32) (v2 : Int32) (v3 : Int32) (v4 : Int32) (v5 : Int32) (v6 : Int32) : wpX_hop (fun r u' => wpY_hop (fun r' v' => r' = r ∧ i_Rel (k + 7) u' v') v v1 v2 v3 v4 v5 v6) u v1 v2 v3 v4 v5 v6 := by
  obtain ⟨nT, eT, xlv, xpc, xqc, xcc, xec, mc, lw, rc, xla, xpr, xed, sN, sE, sL, sP, sD, pva, pwa, pam, pdi, plo, phi, ptk, pco, pex, tr, ds, ch, ar, rN, rM, s1, s2, s3, s4, s5⟩ := u
  obtain ⟨ylv, ypc, yqc, ycc, yec, yde, yus, ywe, yfo, yli, yso, ysu, yla, ypr, yfr, yto, yty, ywt, qpva, qpwa, qpam, qpdi, qplo, qphi, qptk, qpco, qpex, yst, ypa, ysp, ypl, ycp, ybo, ytk, yno, ych, yfa⟩ := v
  obtain ⟨⟨rfl, rfl, rfl, rfl, rfl, rfl, rfl, rfl, rfl⟩, hG, hQ, hT, hC, hE⟩ := I
  obtain ⟨P, hP, rfl, rfl, hp, hH⟩ := hQ
  have J := rl_mk (k + 7) (mc := mc) (lw := lw) (rc := rc) (tr := tr) (ds := ds) (ch := ch) (ar := ar) (rN := rN) (rM := rM) (s1 := s1) (s2 := s2) (s3 := s3) (s4 := s4) (s5 := s5) (yde := yde) (yus := yus) (ywe := ywe) (yfo := yfo) (yli := yli) (yso := yso) (ysu := ysu) (yst := yst) (ypa := ypa) (ysp := ysp) (ypl := ypl) (ycp := ycp) (ybo := ybo) (ytk := ytk) (yno := yno) (ych := ych) (yfa := yfa) hG ⟨P, hP, rfl, rfl, hp, hH⟩ hT hC hE
  by_cases g : hp_G P pam phi v1 v2 v3 v4 v5 v6
  · refine tg_xhG hP hp hH g (fun z => tg_yhG hP hp hH g (fun _ => ⟨rfl, ?_⟩) (fun e => absurd e (by omega))) (fun e => tg_yhG hP hp hH g (fun z => absurd z (by omega)) (fun _ => ⟨rfl, J⟩))
    obtain ⟨z0, ⟨t, t1, t2, rfl⟩, ⟨d, hd, rfl⟩, ⟨l, c, l1, l2, l3, rfl, rfl, hs⟩, ⟨v, hv, rfl⟩, ⟨w, hw, rfl⟩⟩ := g
    refine rl_mk _ hG ⟨P + 1, by omega, rfl, rfl, fun j hj => ?_, ?_⟩ hT (rl_Cs z hC) hE
    · by_cases q : j = P
      · subst q
        exact ⟨v, w, t, hv, hw, by omega, pk_us, pk_us, pk_us, fun _ => ⟨z0, d, l, c, hd, l1, l2, l3, pk_us, pk_us, pk_us⟩⟩
      · exact qu_Pc (hp j (by omega)) (pk_un q) (pk_un q) (pk_un q) (pk_un q) (pk_un q) (pk_un q)
    · show qu_H _ _ P + _ ≤ 5
      rw [qu_Hc P (fun j hj => ⟨pk_un (by omega), pk_un (by omega)⟩), pk_us, pk_us, if_neg (nI_ne0 t1 (by omega)), nI_clamp (by omega)]
      exact hs
  · exact tg_xhB hP hp hH g (tg_yhB hP hp hH g ⟨rfl, J⟩)
/-! token -/
theorem tg_xtok {post : Int32 → SX → Prop} {x : Int32} (hv : (∃ t, qu_T t ∧ x = nI t) → wX_token_67 post x nT eT xlv xpc xqc xcc xec mc lw rc xla xpr xed sN sE sL sP sD pva pwa pam pdi plo phi ptk pco pex tr ds ch ar rN rM s1 s2 s3 s4 s5) (hn : (¬ ∃ t, qu_T t ∧ x = nI t) → post (-1) (nT, eT, xlv, xpc, xqc, xcc, xec, mc, lw, rc, xla, xpr, xed, sN, sE, sL, sP, sD, pva, pwa, pam, pdi, plo, phi, ptk, pco, pex, tr, ds, ch, ar, rN, rM, s1, s2, s3, s4, s5)) : wpX_token post (nT, eT, xlv, xpc, xqc, xcc, xec, mc, lw, rc, xla, xpr, xed, sN, sE, sL, sP, sD, pva, pwa, pam, pdi, plo, phi, ptk, pco, pex, tr, ds, ch, ar, rN, rM, s1, s2, s3, s4, s5) x := by
  rcases pk_ix x (n := 11000) (by omega) with c | c | ⟨t, ht, rfl⟩
  · have n : ¬ ∃ t, qu_T t ∧ x = nI t := fun ⟨t, ht, e⟩ => absurd c (by rw [e]; exact nI_pos (by unfold qu_T at ht; omega))
    exact br_t c (br_t (Int32.lt_trans c (by decide)) (br_t (Int32.lt_trans c (by decide)) (br_t rfl (br_t rfl (br_t rfl (hn n))))))
  · obtain ⟨c0, c1, c2⟩ := tg_hi 10999 (by omega) c
    have n : ¬ ∃ t, qu_T t ∧ x = nI t := fun ⟨t, ht, e⟩ => absurd c (by rw [e]; exact nI_ge (by unfold qu_T at ht; omega) (by omega))
    have lt : ∀ a, a ≤ 10999 → nI a < x := fun a ha => Int32.lt_of_le_of_lt (nI_le ha (by omega)) c2
    have nl : ∀ a, a ≤ 10999 → ¬ x < nI a := fun a ha z => Int32.lt_irrefl (Int32.lt_trans z (lt a ha))
    exact br_f c0 (br_t (lt 5 (by omega)) (br_f (nl 10 (by omega)) (br_t (lt 16 (by omega)) (br_f (nl 1000 (by omega)) (br_t (lt 10999 (by omega)) (br_t rfl (br_t rfl (br_t rfl (hn n)))))))))
  · have p0 : ¬ nI t < 0 := nI_pos (by omega)
    have L : ∀ a, t < a → a < 20000 → nI t < nI a := fun a h1 h2 => nI_lt h1 (by omega)
    have N : ∀ a, a ≤ t → ¬ nI t < nI a := fun a h1 => nI_nlt h1 (by omega)
    have G : ∀ a, a < t → nI a < nI t := fun a h1 => nI_lt h1 (by omega)
    have M : ∀ a, t ≤ a → a < 20000 → ¬ nI a < nI t := fun a h1 h2 => nI_nlt h1 (by omega)
    have nn : ¬ qu_T t → post (-1) (nT, eT, xlv, xpc, xqc, xcc, xec, mc, lw, rc, xla, xpr, xed, sN, sE, sL, sP, sD, pva, pwa, pam, pdi, plo, phi, ptk, pco, pex, tr, ds, ch, ar, rN, rM, s1, s2, s3, s4, s5) := fun q => hn (fun ⟨s, hs, e⟩ => q (by rw [(nI_eq (by omega) (by unfold qu_T at hs; omega)).mp e]; exact hs))
    by_cases a1 : t ≤ 5
    · exact br_f p0 (br_f (M 5 a1 (by omega)) (br_t (L 10 (by omega) (by omega)) (br_t (L 1000 (by omega) (by omega)) (br_f tg_10 (hv ⟨t, Or.inl a1, rfl⟩)))))
    by_cases a2 : t < 10
    · exact br_f p0 (br_t (G 5 (by omega)) (br_t (L 10 (by omega) (by omega)) (br_t (L 1000 (by omega) (by omega)) (br_t rfl (br_t rfl (br_t rfl (nn (by unfold qu_T; omega))))))))
    by_cases a3 : t ≤ 16
    · exact br_f p0 (br_t (G 5 (by omega)) (br_f (N 10 (by omega)) (br_f (M 16 a3 (by omega)) (br_t (L 1000 (by omega) (by omega)) (br_t rfl (br_f tg_10 (hv ⟨t, Or.inr (Or.inl ⟨by omega, a3⟩), rfl⟩)))))))
    by_cases a4 : t < 1000
    · exact br_f p0 (br_t (G 5 (by omega)) (br_f (N 10 (by omega)) (br_t (G 16 (by omega)) (br_t (L 1000 (by omega) (by omega)) (br_t rfl (br_t rfl (br_t rfl (nn (by unfold qu_T; omega)))))))))
    · exact br_f p0 (br_t (G 5 (by omega)) (br_f (N 10 (by omega)) (br_t (G 16 (by omega)) (br_f (N 1000 (by omega)) (br_f (M 10999 (by omega) (by omega)) (br_t rfl (br_t rfl (br_f tg_10 (hv ⟨t, Or.inr (Or.inr ⟨by omega, by omega⟩), rfl⟩)))))))))
theorem tg_ytok {post : Int32 → SY → Prop} {x : Int32} (hv : (∃ t, qu_T t ∧ x = nI t) → wY_token_33 post x ylv ypc yqc ycc yec yde yus ywe yfo yli yso ysu yla ypr yfr yto yty ywt pva pwa pam pdi plo phi ptk pco pex yst ypa ysp ypl ycp ybo ytk yno ych yfa) (hn : (¬ ∃ t, qu_T t ∧ x = nI t) → post (-1) (ylv, ypc, yqc, ycc, yec, yde, yus, ywe, yfo, yli, yso, ysu, yla, ypr, yfr, yto, yty, ywt, pva, pwa, pam, pdi, plo, phi, ptk, pco, pex, yst, ypa, ysp, ypl, ycp, ybo, ytk, yno, ych, yfa)) : wpY_token post (ylv, ypc, yqc, ycc, yec, yde, yus, ywe, yfo, yli, yso, ysu, yla, ypr, yfr, yto, yty, ywt, pva, pwa, pam, pdi, plo, phi, ptk, pco, pex, yst, ypa, ysp, ypl, ycp, ybo, ytk, yno, ych, yfa) x := by
  unfold wpY_token
  refine tg_wi 0 5 (by omega) (by omega) (fun n1 => br_t rfl ?_) (fun j _ h e => br_f tg_10 (hv ⟨j, Or.inl h, e⟩))
  refine tg_wi 10 16 (by omega) (by omega) (fun n2 => br_t rfl ?_) (fun j h0 h e => br_f tg_10 (hv ⟨j, Or.inr (Or.inl ⟨h0, h⟩), e⟩))
  refine tg_wi 1000 10999 (by omega) (by omega) (fun n3 => br_t rfl (hn ?_)) (fun j h0 h e => br_f tg_10 (hv ⟨j, Or.inr (Or.inr ⟨h0, h⟩), e⟩))
  rintro ⟨t, q | q | q, e⟩
  · exact tg_nr (by omega) n1 ⟨t, by omega, q, e⟩
  · exact tg_nr (by omega) n2 ⟨t, q.1, q.2, e⟩
  · exact tg_nr (by omega) n3 ⟨t, q.1, q.2, e⟩
theorem i_vc_token {k : Nat} {u : SX} {v : SY} (I : i_Rel k u v) (hk : k + 7 ≤ 3584) (v1 : Int32) : wpX_token (fun r u' => wpY_token (fun r' v' => r' = r ∧ i_Rel (k + 7) u' v') v v1) u v1 := by
  obtain ⟨nT, eT, xlv, xpc, xqc, xcc, xec, mc, lw, rc, xla, xpr, xed, sN, sE, sL, sP, sD, pva, pwa, pam, pdi, plo, phi, ptk, pco, pex, tr, ds, ch, ar, rN, rM, s1, s2, s3, s4, s5⟩ := u
  obtain ⟨ylv, ypc, yqc, ycc, yec, yde, yus, ywe, yfo, yli, yso, ysu, yla, ypr, yfr, yto, yty, ywt, qpva, qpwa, qpam, qpdi, qplo, qphi, qptk, qpco, qpex, yst, ypa, ysp, ypl, ycp, ybo, ytk, yno, ych, yfa⟩ := v
  obtain ⟨⟨rfl, rfl, rfl, rfl, rfl, rfl, rfl, rfl, rfl⟩, hG, hQ, hT, hC, hE⟩ := I
  obtain ⟨n, hn, rfl, rfl, ht⟩ := hT
  have J := rl_mk (k + 7) (mc := mc) (lw := lw) (rc := rc) (tr := tr) (ds := ds) (ch := ch) (ar := ar) (rN := rN) (rM := rM) (s1 := s1) (s2 := s2) (s3 := s3) (s4 := s4) (s5 := s5) (yde := yde) (yus := yus) (ywe := ywe) (yfo := yfo) (yli := yli) (yso := yso) (ysu := ysu) (yst := yst) (ypa := ypa) (ysp := ysp) (ypl := ypl) (ycp := ycp) (ybo := ybo) (ytk := ytk) (yno := yno) (ych := ych) (yfa := yfa) hG hQ ⟨n, hn, rfl, rfl, ht⟩ hC hE
  refine tg_xtok (fun q => ?_) (fun q => tg_ytok (fun q' => absurd q' q) (fun _ => ⟨rfl, J⟩))
  by_cases z : n < 12
  · have w : vp_in (nI n) 12 := vp_in_nI z (by decide)
    refine br_t (nI_lt (b := 12) z (by decide)) ⟨w, nm_r (tg_u (by omega)) (nm_r (nI_1 n) (tg_ytok (fun _ => br_f (fun e => by have := (nI_eq (b := 12) (by omega) (by omega)).mp e; omega) (nm_r (nI_1 n) ⟨w, nm_r (tg_u (by omega)) ⟨rfl, ?_⟩⟩)) (fun q' => absurd q q')))⟩
    refine rl_mk _ hG hQ ⟨n + 1, by omega, rfl, rfl, fun j hj => ?_⟩ hC hE
    by_cases e : j = n
    · subst e
      rw [pk_us]
      exact q
    · rw [pk_un e]
      exact ht j (by omega)
  · have e : n = 12 := by omega
    subst e
    exact br_f (by decide) (tg_ytok (fun _ => br_t rfl ⟨rfl, J⟩) (fun q' => absurd q q'))
end
section
/-! where -/
def cd_s (c : Nat → Nat) : Nat → Nat × Nat × Bool
  | 0 => (1, 0, false)
  | k + 1 => if 0 < (cd_s c k).2.1 then ((cd_s c k).1, (cd_s c k).2.1 - 1, (cd_s c k).2.2)
    else if c k = 14 ∨ c k = 15 then ((cd_s c k).1 + 1, 0, (cd_s c k).2.2)
    else if c k = 16 then ((cd_s c k).1, 0, (cd_s c k).2.2)
    else ((cd_s c k).1 - 1, (if c k = 12 then 1 else 2), decide (c k ≠ 13))
def cd_ok (nm : Nat → Prop) (c : Nat → Nat) (k : Nat) : Prop :=
  (0 < (cd_s c k).2.1 ∧ ((c k < 4 ∧ nm (c k)) ∨ ((cd_s c k).2.2 = true ∧ 1000 ≤ c k))) ∨ ((cd_s c k).2.1 = 0 ∧ 0 < (cd_s c k).1 ∧ 10 ≤ c k ∧ c k ≤ 16)
def cd_G (nm : Nat → Prop) (c : Nat → Nat) (n : Nat) : Prop := (∀ k, k < n → cd_ok nm c k) ∧ (cd_s c n).1 = 0 ∧ (cd_s c n).2.1 = 0
theorem cd_so {c : Nat → Nat} {k : Nat} (h : 0 < (cd_s c k).2.1) : cd_s c (k + 1) = ((cd_s c k).1, (cd_s c k).2.1 - 1, (cd_s c k).2.2) := if_pos h
theorem cd_sb {c : Nat → Nat} {k : Nat} (h : ¬ 0 < (cd_s c k).2.1) (h1 : c k = 14 ∨ c k = 15) : cd_s c (k + 1) = ((cd_s c k).1 + 1, 0, (cd_s c k).2.2) := (if_neg h).trans (if_pos h1)
theorem cd_sn {c : Nat → Nat} {k : Nat} (h : ¬ 0 < (cd_s c k).2.1) (h1 : c k = 16) : cd_s c (k + 1) = ((cd_s c k).1, 0, (cd_s c k).2.2) := (if_neg h).trans ((if_neg (by omega)).trans (if_pos h1))
theorem cd_sc {c : Nat → Nat} {k : Nat} (h : ¬ 0 < (cd_s c k).2.1) (h1 : c k ≤ 13) : cd_s c (k + 1) = ((cd_s c k).1 - 1, (if c k = 12 then 1 else 2), decide (c k ≠ 13)) := (if_neg h).trans ((if_neg (by omega)).trans (if_neg (by omega)))
theorem cd_GW {nm : Nat → Prop} {c : Nat → Nat} {n : Nat} (h : cd_G nm c n) (hv : ∀ k, k < n → c k ≤ 10999) : cd_W c nm n (fun k => (cd_s c k).1) (fun k => (cd_s c k).2.1) (fun k => (cd_s c k).2.2 = true) := by
  refine ⟨rfl, rfl, h.2.1, h.2.2, fun k hk => ?_⟩
  dsimp only
  rcases h.1 k hk with ⟨a, b⟩ | ⟨a, b, d, e⟩
  · refine Or.inl ⟨a, ?_, ?_, ?_, b.imp id (fun q => ⟨q.1, q.2, hv k hk⟩)⟩ <;> rw [cd_so a]
  · have a' : ¬ 0 < (cd_s c k).2.1 := by omega
    by_cases z : c k = 14 ∨ c k = 15
    · exact Or.inr (Or.inl ⟨a, b, by omega, by omega, by rw [cd_sb a' z], by rw [cd_sb a' z]⟩)
    · by_cases z2 : c k = 16
      · exact Or.inr (Or.inr (Or.inl ⟨a, b, z2, by rw [cd_sn a' z2], by rw [cd_sn a' z2]⟩))
      · refine Or.inr (Or.inr (Or.inr ⟨a, b, d, by omega, by rw [cd_sc a' (by omega)], by rw [cd_sc a' (by omega)], ?_⟩))
        rw [cd_sc a' (by omega)]
        simp
theorem cd_bd (c : Nat → Nat) : ∀ k, (cd_s c k).1 + (cd_s c k).2.1 ≤ k + 1 ∧ (cd_s c k).2.1 ≤ 2
  | 0 => ⟨Nat.le_refl 1, Nat.zero_le 2⟩
  | k + 1 => by
    have := cd_bd c k
    by_cases a : 0 < (cd_s c k).2.1
    · rw [cd_so a]; dsimp only; omega
    · by_cases z : c k = 14 ∨ c k = 15
      · rw [cd_sb a z]; dsimp only; omega
      · by_cases z2 : c k = 16
        · rw [cd_sn a z2]; dsimp only; omega
        · unfold cd_s
          rw [if_neg a, if_neg z, if_neg z2]
          dsimp only
          split <;> omega
/-- n cells copied -/
def cy_f (a b : Nat → Int32) : Nat → Nat → Int32
  | 0 => b
  | n + 1 => upd (cy_f a b n) n (a n)
theorem cy_lt {a b : Nat → Int32} : ∀ {n j : Nat}, j < n → cy_f a b n j = a j
  | 0, _, h => absurd h (Nat.not_lt_zero _)
  | n + 1, j, h => by
    show upd (cy_f a b n) n (a n) j = a j
    by_cases z : j = n
    · subst z; exact pk_us
    · rw [pk_un z]; exact cy_lt (by omega)
variable {nT : Int32} {eT : Int32} {xlv : Int32} {xpc : Int32} {xqc : Int32} {xcc : Int32} {xec : Int32} {mc : Int32} {lw : Int32} {rc : Int32} {xla : Nat → Int32} {xpr : Nat → Int64} {xed : Nat → Int32} {sN : Nat → Int32} {sE : Nat → Int32} {sL : Nat → Int32} {sP : Nat → Int64} {sD : Nat → Int32} {pva : Nat → Int32} {pwa : Nat → Int32} {pam : Nat → Int32} {pdi : Nat → Int32} {plo : Nat → Int32} {phi : Nat → Int32} {ptk : Nat → Int32} {pco : Nat → Int32} {pex : Nat → Int32} {tr : Nat → Int32} {ds : Nat → Int32} {ch : Nat → Int32} {ar : Nat → Int32} {rN : Nat → Int32} {rM : Nat → Int32} {s1 : Nat → Int32} {s2 : Nat → Int32} {s3 : Nat → Int32} {s4 : Nat → Int32} {s5 : Nat → Int32}
variable {ylv : Int32} {ypc : Int32} {yqc : Int32} {ycc : Int32} {yec : Int32} {yde : Int32} {yus : Int32} {ywe : Int32} {yfo : Int32} {yli : Int32} {yso : Int32} {ysu : Int64} {yla : Nat → Int32} {ypr : Nat → Int64} {yfr : Nat → Int32} {yto : Nat → Int32} {yty : Nat → Int32} {ywt : Nat → Int32} {yst : Nat → Int32} {ypa : Nat → Int32} {ysp : Nat → Int32} {ypl : Nat → Int32} {ycp : Nat → Int32} {ybo : Nat → Int32} {ytk : Nat → Int32} {yno : Nat → Int32} {ych : Nat → Int32} {yfa : Nat → Int32}
theorem tg_xnm {post : Int32 → Prop} {P : Nat} (hP : P ≤ 6) {x : Int32} (h1 : (∃ k, k < P ∧ pva k = x) → post 1) (h0 : (¬ ∃ k, k < P ∧ pva k = x) → post 0) : wpX_isNamed post (nT, eT, xlv, (nI P), xqc, xcc, xec, mc, lw, rc, xla, xpr, xed, sN, sE, sL, sP, sD, pva, pwa, pam, pdi, plo, phi, ptk, pco, pex, tr, ds, ch, ar, rN, rM, s1, s2, s3, s4, s5) x := by
  have K : ∀ d i, i + d = P → (∀ k, k < i → ¬ pva k = x) → wX_isNamed_2 post x nT eT xlv (nI P) xqc xcc xec mc lw rc xla xpr xed sN sE sL sP sD pva pwa pam pdi plo phi ptk pco pex tr ds ch ar rN rM s1 s2 s3 s4 s5 (d + 1) (nI i) := by
    intro d
    induction d with
    | zero =>
      intro i hi hj
      have e : i = P := by omega
      subst e
      exact br_t (nI_le (by omega) (by omega)) (h0 (fun ⟨k, a, b⟩ => hj k a b))
    | succ d ih =>
      intro i hi hj
      refine br_f (nI_ge (by omega) (by omega)) ⟨vp_in_nI (by omega) (by omega), ?_⟩
      rw [nI_clamp (by omega)]
      refine br_c (fun e => h1 ⟨i, by omega, e⟩) (fun e => nm_r (nI_1 i) (ih (i + 1) (by omega) (fun k hk => ?_)))
      by_cases z : k = i
      · subst z; exact e
      · exact hj k (by omega)
  exact ⟨P + 1, K P 0 (by omega) (fun k hk => absurd hk (Nat.not_lt_zero k))⟩
theorem tg_ynm {post : Int32 → Prop} {P : Nat} (hP : P ≤ 6) {x : Int32} (h1 : (∃ k, k < P ∧ pva k = x) → post 1) (h0 : (¬ ∃ k, k < P ∧ pva k = x) → post 0) : wpY_isNamed post (ylv, (nI P), yqc, ycc, yec, yde, yus, ywe, yfo, yli, yso, ysu, yla, ypr, yfr, yto, yty, ywt, pva, pwa, pam, pdi, plo, phi, ptk, pco, pex, yst, ypa, ysp, ypl, ycp, ybo, ytk, yno, ych, yfa) x := by
  have K : ∀ d i, i + d = P → (∀ k, k < i → ¬ pva k = x) → wY_isNamed_2 post x ylv (nI P) yqc ycc yec yde yus ywe yfo yli yso ysu yla ypr yfr yto yty ywt pva pwa pam pdi plo phi ptk pco pex yst ypa ysp ypl ycp ybo ytk yno ych yfa (d + 1) (nI i) := by
    intro d
    induction d with
    | zero =>
      intro i hi hj
      have e : i = P := by omega
      subst e
      exact br_t (nI_le (by omega) (by omega)) (h0 (fun ⟨k, a, b⟩ => hj k a b))
    | succ d ih =>
      intro i hi hj
      refine br_f (nI_ge (by omega) (by omega)) ⟨vp_in_nI (by omega) (by omega), ?_⟩
      rw [nI_clamp (by omega)]
      refine br_c (fun e => h1 ⟨i, by omega, e⟩) (fun e => nm_r (nI_1 i) (ih (i + 1) (by omega) (fun k hk => ?_)))
      by_cases z : k = i
      · subst z; exact e
      · exact hj k (by omega)
  exact ⟨P + 1, K P 0 (by omega) (fun k hk => absurd hk (Nat.not_lt_zero k))⟩
/-- v is named by one of the first P parts -/
def nm_P (va : Nat → Int32) (P v : Nat) : Prop := ∃ k, k < P ∧ va k = nI v
theorem nm_4 {va wa am di lo h : Nat → Int32} {P v : Nat} (hp : ∀ k, k < P → qu_P va wa am di lo h k) (hv : v < 2 ^ 31) (q : nm_P va P v) : v < 4 := by
  obtain ⟨k, hk, e⟩ := q
  obtain ⟨v', _, _, h1, _, _, e', _⟩ := hp k hk
  have := (nI_eq hv (by omega)).mp (e.symm.trans e')
  omega
theorem tg_xic {post : Int32 → Prop} {P n : Nat} (hP : P ≤ 6) (hn : n ≤ 12) {c : Nat → Nat} (hp : ∀ k, k < P → qu_P pva pwa pam pdi plo phi k) (hc : ∀ k, k < n → ptk k = nI (c k) ∧ qu_T (c k)) (h1 : cd_G (nm_P pva P) c n → post 1) (h0 : ¬ cd_G (nm_P pva P) c n → post 0) : ∀ d i, i + d = n → (∀ k, k < i → cd_ok (nm_P pva P) c k) → wX_isCondition_10 post (nI n) nT eT xlv (nI P) xqc xcc xec mc lw rc xla xpr xed sN sE sL sP sD pva pwa pam pdi plo phi ptk pco pex tr ds ch ar rN rM s1 s2 s3 s4 s5 (d + 1) (nI (cd_s c i).1) (nI (cd_s c i).2.1) (tg_z (cd_s c i).2.2) (nI i) := by
  intro d
  induction d with
  | zero =>
    intro i hi hk
    have e : i = n := by omega
    subst e
    have b := cd_bd c i
    refine br_t (nI_le (by omega) (by omega)) ?_
    rcases Nat.eq_zero_or_pos (cd_s c i).1 with z | z
    · rcases Nat.eq_zero_or_pos (cd_s c i).2.1 with y | y
      · rw [z, y]
        exact br_t rfl (br_t rfl (h1 ⟨hk, z, y⟩))
      · rw [z]
        exact br_t rfl (br_f (nI_ne0 y (by omega)) (h0 (fun g => by have := g.2.2; omega)))
    · exact br_f (nI_ne0 z (by omega)) (h0 (fun g => by have := g.2.1; omega))
  | succ d ih =>
    intro i hi hk
    have b := cd_bd c i
    obtain ⟨et, hT⟩ := hc i (by omega)
    have hT2 : c i < 2 ^ 31 := by unfold qu_T at hT; omega
    have bad : ¬ cd_ok (nm_P pva P) c i → post 0 := fun q => h0 (fun g => q (g.1 i (by omega)))
    have next : cd_ok (nm_P pva P) c i → wX_isCondition_10 post (nI n) nT eT xlv (nI P) xqc xcc xec mc lw rc xla xpr xed sN sE sL sP sD pva pwa pam pdi plo phi ptk pco pex tr ds ch ar rN rM s1 s2 s3 s4 s5 (d + 1) (nI (cd_s c (i + 1)).1) (nI (cd_s c (i + 1)).2.1) (tg_z (cd_s c (i + 1)).2.2) (nI (i + 1)) := fun q => ih (i + 1) (by omega) (fun k hk' => by
      by_cases z : k = i
      · subst z; exact q
      · exact hk k (by omega))
    refine br_f (nI_ge (by omega) (by omega)) ⟨vp_in_nI (by omega) (by omega), nm_r (by rw [nI_clamp (by omega), et]) ?_⟩
    rcases Nat.eq_zero_or_pos (cd_s c i).2.1 with o | o
    · have o' : ¬ 0 < (cd_s c i).2.1 := by omega
      rw [o]
      refine br_t (by decide) ?_
      rcases Nat.eq_zero_or_pos (cd_s c i).1 with z | z
      · rw [z]
        exact br_t rfl (bad (fun q => by unfold cd_ok at q; omega))
      refine br_f (nI_ne0 z (by omega)) ?_
      by_cases t1 : c i < 10
      · exact br_t (nI_lt (b := 10) t1 (by decide)) (bad (fun q => by unfold cd_ok at q; omega))
      refine br_f (nI_nlt (b := 10) (by omega) (by omega)) ?_
      by_cases t2 : c i ≤ 16
      · have ok : cd_ok (nm_P pva P) c i := Or.inr ⟨o, z, by omega, t2⟩
        have nx := next ok
        have ne : ∀ a, a < 100 → c i ≠ a → ¬ nI (c i) = nI a := fun a ha q e => q ((nI_eq (by omega) (by omega)).mp e)
        refine br_t (nI_le (b := 16) t2 (by decide)) ?_
        by_cases t3 : c i = 14
        · rw [cd_sb o' (Or.inl t3)] at nx
          exact br_t (by rw [t3]; rfl) (nm_r (nI_1 _) (nm_r (nI_1 i) nx))
        refine br_f (ne 14 (by omega) t3) ?_
        by_cases t4 : c i = 15
        · rw [cd_sb o' (Or.inr t4)] at nx
          exact br_t (by rw [t4]; rfl) (nm_r (nI_1 _) (nm_r (nI_1 i) nx))
        refine br_f (ne 15 (by omega) t4) ?_
        by_cases t5 : c i = 16
        · rw [cd_sn o' t5] at nx
          exact br_t (by rw [t5]; rfl) (nm_r (nI_1 i) nx)
        refine br_f (ne 16 (by omega) t5) ?_
        rw [cd_sc o' (by omega)] at nx
        refine nm_r (show _ = nI ((cd_s c i).1 - 1) from ?_) ?_
        · rw [show (cd_s c i).1 = ((cd_s c i).1 - 1) + 1 from by omega, pk_m1]; rfl
        · by_cases t6 : c i = 12
          · rw [if_pos t6, decide_eq_true (by omega)] at nx
            exact br_t (by rw [t6]; rfl) (br_f (ne 13 (by omega) (by omega)) (nm_r (nI_1 i) nx))
          · refine br_f (ne 12 (by omega) t6) ?_
            rw [if_neg t6] at nx
            by_cases t7 : c i = 13
            · rw [decide_eq_false (by omega)] at nx
              exact br_t (by rw [t7]; rfl) (nm_r (nI_1 i) nx)
            · rw [decide_eq_true t7] at nx
              exact br_f (ne 13 (by omega) t7) (nm_r (nI_1 i) nx)
      · exact br_f (nI_ge (b := c i) (a := 16) (by omega) (by omega)) (bad (fun q => by unfold cd_ok at q; omega))
    · refine br_f (nI_nle o (by omega)) ?_
      have nx := next
      rw [cd_so o] at nx
      have go : cd_ok (nm_P pva P) c i → ∀ x3_63 : Int32, x3_63 = nI (cd_s c i).2.1 + (-1) → ∀ x5_64 : Int32, x5_64 = nI i + 1 → wX_isCondition_10 post (nI n) nT eT xlv (nI P) xqc xcc xec mc lw rc xla xpr xed sN sE sL sP sD pva pwa pam pdi plo phi ptk pco pex tr ds ch ar rN rM s1 s2 s3 s4 s5 (d + 1) (nI (cd_s c i).1) x3_63 (tg_z (cd_s c i).2.2) x5_64 := fun q => nm_r (show _ = nI ((cd_s c i).2.1 - 1) from by
        rw [show (cd_s c i).2.1 = ((cd_s c i).2.1 - 1) + 1 from by omega, pk_m1]; rfl) (nm_r (nI_1 i) (nx q))
      by_cases t1 : 1000 ≤ c i
      · refine br_t (nI_le (a := 1000) t1 (by omega)) ⟨tg_zn _, tg_zbr (fun e => bad ?_) (fun e => go (Or.inl ⟨o, Or.inr ⟨e, t1⟩⟩))⟩
        rintro (⟨_, ⟨q, _⟩ | ⟨q, _⟩⟩ | ⟨q, _⟩)
        · omega
        · rw [e] at q; exact absurd q (by decide)
        · omega
      · refine br_f (nI_ge (b := 1000) (by omega) (by omega)) (tg_xnm hP (fun q => ⟨rfl, br_f tg_10 (go (Or.inl ⟨o, Or.inl ⟨nm_4 hp (by omega) q, q⟩⟩))⟩) (fun q => ⟨rfl, br_t rfl (bad (fun w => ?_))⟩))
        rcases w with ⟨_, ⟨_, w⟩ | ⟨_, w⟩⟩ | ⟨w, _⟩
        · exact q w
        · omega
        · omega
end
section
/-! where: Y's stack, and the owed statement -/
def tg_w (b : Bool) : Int32 := if b then 1 else 2
def st_I (st : Nat → Int32) (cs os : Nat) (nu : Bool) : Prop := (∀ j, j < cs → st j = 0) ∧ ∀ j, cs ≤ j → j < cs + os → st j = tg_w nu
theorem st_0 {st : Nat → Int32} : st_I (upd st 0 0) 1 0 false := ⟨fun j hj => by rw [show j = 0 from by omega]; exact pk_us, fun j h1 h2 => absurd h1 (by omega)⟩
theorem st_1 {st : Nat → Int32} {cs os : Nat} {nu : Bool} {m : Nat} (h : st_I st cs os nu) (hm : m ≤ cs) (b : Bool) (x : Int32) (hx : x = tg_w b) : st_I (upd st m x) m 1 b :=
  ⟨fun j hj => by rw [pk_un (by omega)]; exact h.1 j (by omega), fun j h1 h2 => by rw [show j = m from by omega, pk_us]; exact hx⟩
theorem st_2 {st : Nat → Int32} {cs os : Nat} {nu : Bool} {m : Nat} (h : st_I st cs os nu) (hm : m ≤ cs) (b : Bool) (x : Int32) (hx : x = tg_w b) : st_I (upd (upd st m x) (m + 1) x) m 2 b :=
  ⟨fun j hj => by rw [pk_un (by omega), pk_un (by omega)]; exact h.1 j (by omega), fun j h1 h2 => by
    by_cases z : j = m + 1
    · rw [z, pk_us]; exact hx
    · rw [pk_un z, show j = m from by omega, pk_us]; exact hx⟩
theorem st_z {st : Nat → Int32} {cs os : Nat} {nu b : Bool} {m : Nat} (h : st_I st cs os nu) (hm : m ≤ cs) : st_I (upd st m 0) (m + 1) 0 b :=
  ⟨fun j hj => by
    by_cases z : j = m
    · rw [z, pk_us]
    · rw [pk_un z]; exact h.1 j (by omega), fun j h1 h2 => absurd h1 (by omega)⟩
theorem st_zz {st : Nat → Int32} {cs os : Nat} {nu b : Bool} {m : Nat} (h : st_I st cs os nu) (hm : m ≤ cs) : st_I (upd (upd st m 0) (m + 1) 0) (m + 2) 0 b :=
  st_z (st_z (b := b) h hm) (Nat.le_refl _)
variable {nT : Int32} {eT : Int32} {xlv : Int32} {xpc : Int32} {xqc : Int32} {xcc : Int32} {xec : Int32} {mc : Int32} {lw : Int32} {rc : Int32} {xla : Nat → Int32} {xpr : Nat → Int64} {xed : Nat → Int32} {sN : Nat → Int32} {sE : Nat → Int32} {sL : Nat → Int32} {sP : Nat → Int64} {sD : Nat → Int32} {pva : Nat → Int32} {pwa : Nat → Int32} {pam : Nat → Int32} {pdi : Nat → Int32} {plo : Nat → Int32} {phi : Nat → Int32} {ptk : Nat → Int32} {pco : Nat → Int32} {pex : Nat → Int32} {tr : Nat → Int32} {ds : Nat → Int32} {ch : Nat → Int32} {ar : Nat → Int32} {rN : Nat → Int32} {rM : Nat → Int32} {s1 : Nat → Int32} {s2 : Nat → Int32} {s3 : Nat → Int32} {s4 : Nat → Int32} {s5 : Nat → Int32}
variable {ylv : Int32} {ypc : Int32} {yqc : Int32} {ycc : Int32} {yec : Int32} {yde : Int32} {yus : Int32} {ywe : Int32} {yfo : Int32} {yli : Int32} {yso : Int32} {ysu : Int64} {yla : Nat → Int32} {ypr : Nat → Int64} {yfr : Nat → Int32} {yto : Nat → Int32} {yty : Nat → Int32} {ywt : Nat → Int32} {yst : Nat → Int32} {ypa : Nat → Int32} {ysp : Nat → Int32} {ypl : Nat → Int32} {ycp : Nat → Int32} {ybo : Nat → Int32} {ytk : Nat → Int32} {yno : Nat → Int32} {ych : Nat → Int32} {yfa : Nat → Int32}
theorem tg_yp1 {post : Int32 → SY → Prop} {J : Int32 → Int32 → (Nat → Int32) → (Nat → Int64) → (Nat → Int32) → (Nat → Int32) → (Nat → Int32) → (Nat → Int32) → (Nat → Int32) → (Nat → Int32) → (Nat → Int32) → (Nat → Int32) → (Nat → Int32) → (Nat → Int32) → (Nat → Int32) → (Nat → Int32) → (Nat → Int32) → (Nat → Int32) → (Nat → Int32) → (Nat → Int32) → (Nat → Int32) → (Nat → Int32) → (Nat → Int32) → (Nat → Int32) → (Nat → Int32) → (Nat → Int32) → (Nat → Int32) → Prop} {x1 z : Int32} {m i t : Nat} (hm : m + 1 < 30) (ht : t < 100) (h1 : (t = 12 ∨ t = 16) → J (nI (m + 1)) (nI (i + 1)) yla ypr yfr yto yty ywt pva pwa pam pdi plo phi ptk pco pex (upd yst m z) ypa ysp ypl ycp ybo ytk yno ych yfa) (h2 : ¬ (t = 12 ∨ t = 16) → J (nI (m + 2)) (nI (i + 1)) yla ypr yfr yto yty ywt pva pwa pam pdi plo phi ptk pco pex (upd (upd yst m z) (m + 1) z) ypa ysp ypl ycp ybo ytk yno ych yfa) : wY_isCondition_136 post J x1 (nI m) (nI i) (nI t) z ylv ypc yqc ycc yec yde yus ywe yfo yli yso ysu yla ypr yfr yto yty ywt pva pwa pam pdi plo phi ptk pco pex yst ypa ysp ypl ycp ybo ytk yno ych yfa := by
  refine nm_r (nI_1 m) ⟨vp_in_nI (by omega) (by omega), nm_r (tg_u (by omega)) ?_⟩
  by_cases a : t = 12
  · exact br_t (by rw [a]; rfl) (nm_r (nI_1 i) (h1 (Or.inl a)))
  refine br_f (fun e => a ((nI_eq (b := 12) (by omega) (by omega)).mp e)) ?_
  by_cases b : t = 16
  · exact br_t (by rw [b]; rfl) (nm_r (nI_1 i) (h1 (Or.inr b)))
  refine br_f (fun e => b ((nI_eq (b := 16) (by omega) (by omega)).mp e)) ?_
  exact nm_r (nI_1 _) ⟨vp_in_nI (by omega) (by omega), nm_r (tg_u (by omega)) (nm_r (nI_1 i) (h2 (by omega)))⟩
theorem tg_yic {post : Int32 → SY → Prop} {P n : Nat} (hP : P ≤ 6) (hn : n ≤ 12) {c : Nat → Nat} (hp : ∀ k, k < P → qu_P pva pwa pam pdi plo phi k) (hc : ∀ k, k < n → ptk k = nI (c k) ∧ qu_T (c k)) (h1 : cd_G (nm_P pva P) c n → ∀ st, post 1 (ylv, (nI P), yqc, ycc, yec, yde, yus, ywe, yfo, yli, yso, ysu, yla, ypr, yfr, yto, yty, ywt, pva, pwa, pam, pdi, plo, phi, ptk, pco, pex, st, ypa, ysp, ypl, ycp, ybo, ytk, yno, ych, yfa)) (h0 : ¬ cd_G (nm_P pva P) c n → ∀ st, post 0 (ylv, (nI P), yqc, ycc, yec, yde, yus, ywe, yfo, yli, yso, ysu, yla, ypr, yfr, yto, yty, ywt, pva, pwa, pam, pdi, plo, phi, ptk, pco, pex, st, ypa, ysp, ypl, ycp, ybo, ytk, yno, ych, yfa)) : ∀ d i st, i + d = n → (∀ k, k < i → cd_ok (nm_P pva P) c k) → st_I st (cd_s c i).1 (cd_s c i).2.1 (cd_s c i).2.2 → wY_isCondition_11 post (nI n) ylv (nI P) yqc ycc yec yde yus ywe yfo yli yso ysu (d + 1) (nI ((cd_s c i).1 + (cd_s c i).2.1)) (nI i) yla ypr yfr yto yty ywt pva pwa pam pdi plo phi ptk pco pex st ypa ysp ypl ycp ybo ytk yno ych yfa := by
  intro d
  induction d with
  | zero =>
    intro i st hi hk hs
    have e : i = n := by omega
    subst e
    have b := cd_bd c i
    refine br_t (nI_le (by omega) (by omega)) ?_
    by_cases z : (cd_s c i).1 + (cd_s c i).2.1 = 0
    · rw [z]
      exact br_t rfl (h1 ⟨hk, by omega, by omega⟩ st)
    · exact br_f (nI_ne0 (by omega) (by omega)) (h0 (fun g => by have := g.2.1; have := g.2.2; omega) st)
  | succ d ih =>
    intro i st hi hk hs
    have b := cd_bd c i
    obtain ⟨et, hT⟩ := hc i (by omega)
    have hT2 : c i < 2 ^ 31 := by unfold qu_T at hT; omega
    have bad : ¬ cd_ok (nm_P pva P) c i → post 0 (ylv, (nI P), yqc, ycc, yec, yde, yus, ywe, yfo, yli, yso, ysu, yla, ypr, yfr, yto, yty, ywt, pva, pwa, pam, pdi, plo, phi, ptk, pco, pex, st, ypa, ysp, ypl, ycp, ybo, ytk, yno, ych, yfa) := fun q => h0 (fun g => q (g.1 i (by omega))) st
    have next : cd_ok (nm_P pva P) c i → ∀ st', st_I st' (cd_s c (i + 1)).1 (cd_s c (i + 1)).2.1 (cd_s c (i + 1)).2.2 → wY_isCondition_11 post (nI n) ylv (nI P) yqc ycc yec yde yus ywe yfo yli yso ysu (d + 1) (nI ((cd_s c (i + 1)).1 + (cd_s c (i + 1)).2.1)) (nI (i + 1)) yla ypr yfr yto yty ywt pva pwa pam pdi plo phi ptk pco pex st' ypa ysp ypl ycp ybo ytk yno ych yfa := fun q st' hs' => ih (i + 1) st' (by omega) (fun k hk' => by
      by_cases z : k = i
      · subst z; exact q
      · exact hk k (by omega)) hs'
    refine br_f (nI_ge (by omega) (by omega)) ?_
    by_cases z : (cd_s c i).1 + (cd_s c i).2.1 = 0
    · rw [z]
      exact br_t rfl (bad (fun q => by unfold cd_ok at q; omega))
    obtain ⟨m, em⟩ : ∃ m, (cd_s c i).1 + (cd_s c i).2.1 = m + 1 := ⟨(cd_s c i).1 + (cd_s c i).2.1 - 1, by omega⟩
    rw [em]
    refine br_f (nI_ne0 (by omega) (by omega)) (nm_r (pk_m1 m) ⟨vp_in_nI (by omega) (by omega), nm_r (show _ = st m from by rw [nI_clamp (by omega)]) ⟨vp_in_nI (by omega) (by omega), nm_r (show _ = nI (c i) from by rw [nI_clamp (by omega), et]) ?_⟩⟩)
    rcases Nat.eq_zero_or_pos (cd_s c i).2.1 with o | o
    · have o' : ¬ 0 < (cd_s c i).2.1 := by omega
      have s0 : st m = 0 := hs.1 m (by omega)
      rw [s0]
      refine br_t rfl (tg_wi 10 16 (by omega) (by omega) (fun q => br_t rfl (bad (fun w => ?_))) (fun t t1 t2 e => ?_))
      · rcases w with ⟨w, _⟩ | ⟨_, _, w1, w2⟩
        · omega
        · exact tg_nr (by omega) q ⟨c i, w1, w2, rfl⟩
      have ec : c i = t := (nI_eq (by omega) (by omega)).mp e
      have ok : cd_ok (nm_P pva P) c i := Or.inr ⟨o, by omega, by omega, by omega⟩
      have nx := next ok
      refine br_f tg_10 (br_t (by decide) ?_)
      by_cases t3 : 13 ≤ c i
      · refine br_t (nI_le (a := 13) t3 (by omega)) ?_
        by_cases t4 : c i = 13
        · refine br_t (by rw [t4]; rfl) (tg_yp1 (by omega) (by omega) (fun q => absurd q (by omega)) (fun _ => ?_))
          have nx' := nx (upd (upd st m 2) (m + 1) 2)
          rw [cd_sc o' (by omega), if_neg (by omega), decide_eq_false (by omega)] at nx'
          have := nx' (by rw [show (cd_s c i).1 - 1 = m from by omega]; exact st_2 hs (by omega) false 2 rfl)
          rw [show (cd_s c i).1 - 1 + 2 = m + 2 from by omega] at this
          exact this
        · refine br_f (fun e => t4 ((nI_eq (b := 13) (by omega) (by omega)).mp e)) (tg_yp1 (by omega) (by omega) (fun q => ?_) (fun q => ?_))
          · have nx' := nx (upd st m 0)
            rw [cd_sn o' (by omega)] at nx'
            have := nx' (by rw [show (cd_s c i).1 = m + 1 from by omega]; exact st_z hs (by omega))
            rw [show (cd_s c i).1 + 0 = m + 1 from by omega] at this
            exact this
          · have nx' := nx (upd (upd st m 0) (m + 1) 0)
            rw [cd_sb o' (by omega)] at nx'
            have := nx' (by rw [show (cd_s c i).1 + 1 = m + 2 from by omega]; exact st_zz hs (by omega))
            rw [show (cd_s c i).1 + 1 + 0 = m + 2 from by omega] at this
            exact this
      · refine br_f (nI_ge (b := 13) (by omega) (by omega)) (tg_yp1 (by omega) (by omega) (fun q => ?_) (fun q => ?_))
        · have nx' := nx (upd st m 1)
          rw [cd_sc o' (by omega), if_pos (by omega), decide_eq_true (by omega)] at nx'
          have := nx' (by rw [show (cd_s c i).1 - 1 = m from by omega]; exact st_1 hs (by omega) true 1 rfl)
          rw [show (cd_s c i).1 - 1 + 1 = m + 1 from by omega] at this
          exact this
        · have nx' := nx (upd (upd st m 1) (m + 1) 1)
          rw [cd_sc o' (by omega), if_neg (by omega), decide_eq_true (by omega)] at nx'
          have := nx' (by rw [show (cd_s c i).1 - 1 = m from by omega]; exact st_2 hs (by omega) true 1 rfl)
          rw [show (cd_s c i).1 - 1 + 2 = m + 2 from by omega] at this
          exact this
    · have s0 : st m = tg_w (cd_s c i).2.2 := hs.2 m (by omega) (by omega)
      have w0 : ∀ b : Bool, ¬ tg_w b = 0 := by decide
      have w1 : ∀ b : Bool, ¬ tg_w b ≤ 0 := by decide
      rw [s0]
      have nx := fun q => next q st
      rw [cd_so o] at nx
      have good : cd_ok (nm_P pva P) c i → wY_isCondition_91 post (wY_isCondition_11 post (nI n) ylv (nI P) yqc ycc yec yde yus ywe yfo yli yso ysu (d + 1)) (nI n) (nI m) (nI i) (tg_w (cd_s c i).2.2) (nI (c i)) ylv (nI P) yqc ycc yec yde yus ywe yfo yli yso ysu yla ypr yfr yto yty ywt pva pwa pam pdi plo phi ptk pco pex st ypa ysp ypl ycp ybo ytk yno ych yfa := fun q => by
        refine br_f tg_10 (br_f (w1 _) (nm_r (nI_1 i) ?_))
        have := nx q ⟨hs.1, fun j h1 h2 => hs.2 j h1 (by dsimp only at h2; omega)⟩
        rw [show (cd_s c i).1 + ((cd_s c i).2.1 - 1) = m from by omega] at this
        exact this
      have no : ¬ cd_ok (nm_P pva P) c i → wY_isCondition_95 post (wY_isCondition_11 post (nI n) ylv (nI P) yqc ycc yec yde yus ywe yfo yli yso ysu (d + 1)) (nI n) (nI m) (nI i) (tg_w (cd_s c i).2.2) (nI (c i)) ylv (nI P) yqc ycc yec yde yus ywe yfo yli yso ysu yla ypr yfr yto yty ywt pva pwa pam pdi plo phi ptk pco pex st ypa ysp ypl ycp ybo ytk yno ych yfa := fun q => br_t rfl (bad q)
      have r77 : ¬ (c i < 4 ∧ nm_P pva P (c i)) → wY_isCondition_77 post (wY_isCondition_11 post (nI n) ylv (nI P) yqc ycc yec yde yus ywe yfo yli yso ysu (d + 1)) (nI n) (nI m) (nI i) (tg_w (cd_s c i).2.2) (nI (c i)) ylv (nI P) yqc ycc yec yde yus ywe yfo yli yso ysu yla ypr yfr yto yty ywt pva pwa pam pdi plo phi ptk pco pex st ypa ysp ypl ycp ybo ytk yno ych yfa := fun q => by
        cases e : (cd_s c i).2.2
        · rw [e] at no
          refine br_f (show ¬ (2 : Int32) = 1 by decide) (no ?_)
          rintro (⟨_, ⟨w, w'⟩ | ⟨w, _⟩⟩ | ⟨w, _⟩)
          · exact q ⟨w, w'⟩
          · rw [e] at w; exact absurd w (by decide)
          · omega
        · rw [e] at no good
          refine br_t rfl ?_
          by_cases t1 : c i < 1000
          · refine br_t (nI_lt (b := 1000) t1 (by omega)) (no ?_)
            rintro (⟨_, ⟨w, w'⟩ | ⟨w, _⟩⟩ | ⟨w, _⟩)
            · exact q ⟨w, w'⟩
            · omega
            · omega
          · exact br_f (nI_nlt (b := 1000) (by omega) (by omega)) (good (Or.inl ⟨o, Or.inr ⟨e, by omega⟩⟩))
      refine br_f (w0 _) (tg_wi 0 3 (by omega) (by omega) (fun q => br_t rfl (r77 (fun w => tg_nr (by omega) q ⟨c i, by omega, by omega, rfl⟩))) (fun t t1 t2 e => br_f tg_10 (tg_ynm hP (fun q => br_f tg_10 (good (Or.inl ⟨o, Or.inl ⟨?_, q⟩⟩))) (fun q => br_t rfl (r77 (fun w => q w.2))))))
      have ec : c i = t := (nI_eq (by omega) (by omega)).mp e
      omega
theorem tg_xwl {post : Int32 → SX → Prop} {n : Nat} (hn : n ≤ 12) (h : post 1 (nT, eT, xlv, xpc, xqc, (nI n), xec, mc, lw, rc, xla, xpr, xed, sN, sE, sL, sP, sD, pva, pwa, pam, pdi, plo, phi, ptk, (cy_f ptk pco n), pex, tr, ds, ch, ar, rN, rM, s1, s2, s3, s4, s5)) : ∀ d i, i + d = n → wX_where_26 post (nI n) nT eT xlv xpc xqc xcc xec mc lw rc (d + 1) (nI i) xla xpr xed sN sE sL sP sD pva pwa pam pdi plo phi ptk (cy_f ptk pco i) pex tr ds ch ar rN rM s1 s2 s3 s4 s5 := by
  intro d
  induction d with
  | zero =>
    intro i hi
    have e : i = n := by omega
    subst e
    exact br_t (nI_le (by omega) (by omega)) h
  | succ d ih =>
    intro i hi
    have w : vp_in (nI i) 12 := vp_in_nI (by omega) (by omega)
    refine br_f (nI_ge (by omega) (by omega)) ⟨w, w, ?_⟩
    rw [nI_clamp (by omega)]
    exact nm_e (nm_r (nI_1 i) (ih (i + 1) (by omega)))
theorem tg_ywl {post : Int32 → SY → Prop} {n : Nat} (hn : n ≤ 12) (h : post 1 (ylv, ypc, yqc, ycc, yec, yde, yus, ywe, yfo, yli, yso, ysu, yla, ypr, yfr, yto, yty, ywt, pva, pwa, pam, pdi, plo, phi, ptk, (cy_f ptk pco n), pex, yst, ypa, ysp, ypl, ycp, ybo, ytk, yno, ych, yfa)) : ∀ d i, i + d = n → wY_where_31 post (nI n) ylv ypc yqc ycc yec yde yus ywe yfo yli yso ysu (d + 1) (nI i) yla ypr yfr yto yty ywt pva pwa pam pdi plo phi ptk (cy_f ptk pco i) pex yst ypa ysp ypl ycp ybo ytk yno ych yfa := by
  intro d
  induction d with
  | zero =>
    intro i hi
    have e : i = n := by omega
    subst e
    exact br_t (nI_le (by omega) (by omega)) h
  | succ d ih =>
    intro i hi
    have w : vp_in (nI i) 12 := vp_in_nI (by omega) (by omega)
    refine br_f (nI_ge (by omega) (by omega)) ⟨w, w, ?_⟩
    rw [nI_clamp (by omega)]
    exact nm_e (nm_r (nI_1 i) (ih (i + 1) (by omega)))
theorem i_vc_where {k : Nat} {u : SX} {v : SY} (I : i_Rel k u v) (hk : k + 7 ≤ 3584) : wpX_where (fun r u' => wpY_where (fun r' v' => r' = r ∧ i_Rel (k + 7) u' v') v) u := by
  obtain ⟨nT, eT, xlv, xpc, xqc, xcc, xec, mc, lw, rc, xla, xpr, xed, sN, sE, sL, sP, sD, pva, pwa, pam, pdi, plo, phi, ptk, pco, pex, tr, ds, ch, ar, rN, rM, s1, s2, s3, s4, s5⟩ := u
  obtain ⟨ylv, ypc, yqc, ycc, yec, yde, yus, ywe, yfo, yli, yso, ysu, yla, ypr, yfr, yto, yty, ywt, qpva, qpwa, qpam, qpdi, qplo, qphi, qptk, qpco, qpex, yst, ypa, ysp, ypl, ycp, ybo, ytk, yno, ych, yfa⟩ := v
  obtain ⟨⟨rfl, rfl, rfl, rfl, rfl, rfl, rfl, rfl, rfl⟩, hG, hQ, hT, hC, hE⟩ := I
  obtain ⟨n, hn, rfl, rfl, ht⟩ := hT
  obtain ⟨P, hP, rfl, rfl, hp, hH⟩ := hQ
  have hQ : rl_Q (nI P) (nI P) pva pwa pam pdi plo phi := ⟨P, hP, rfl, rfl, hp, hH⟩
  have hT0 : rl_T 0 0 ptk := ⟨0, by omega, rfl, rfl, fun b hb => absurd hb (Nat.not_lt_zero b)⟩
  unfold wpX_where wpY_where
  rcases Nat.eq_zero_or_pos n with z | z
  · subst z
    exact br_t (by decide) ⟨1, tg_xwl (n := 0) (by omega) (br_t (by decide) ⟨1, tg_ywl (n := 0) (by omega) ⟨rfl, rl_mk _ hG hQ hT0 rl_C0 hE⟩ 0 0 rfl⟩) 0 0 rfl⟩
  · have hc : ∀ k, k < n → ptk k = nI ((fun k => (ptk k).toNatClampNeg) k) ∧ qu_T ((fun k => (ptk k).toNatClampNeg) k) := fun k hk => by
      obtain ⟨t, h1, h2⟩ := ht k hk
      have : (ptk k).toNatClampNeg = t := by rw [h2, nI_clamp (by unfold qu_T at h1; omega)]
      dsimp only
      rw [this]
      exact ⟨h2, h1⟩
    generalize (fun k => (ptk k).toNatClampNeg) = c at hc
    refine br_f (nI_nle z (by omega)) ⟨n + 1, tg_xic hP hn hp hc (fun g => br_f tg_10 ⟨n + 1, tg_xwl hn (br_f (nI_nle z (by omega)) (nm_e ⟨n + 1, tg_yic hP hn hp hc (fun _ st => br_f tg_10 ⟨n + 1, tg_ywl hn ⟨rfl, ?_⟩ n 0 (by omega)⟩) (fun g' => absurd g g') n 0 _ (by omega) (fun k hk => absurd hk (Nat.not_lt_zero k)) st_0⟩)) n 0 (by omega)⟩) (fun g => br_t rfl (br_f (nI_nle z (by omega)) (nm_e ⟨n + 1, tg_yic hP hn hp hc (fun g' => absurd g' g) (fun _ st => br_t rfl ⟨rfl, rl_mk _ hG hQ hT0 hC hE⟩) n 0 _ (by omega) (fun k hk => absurd hk (Nat.not_lt_zero k)) st_0⟩))) n 0 (by omega) (fun k hk => absurd hk (Nat.not_lt_zero k))⟩
    refine rl_mk _ hG hQ hT0 ⟨n, c, hn, rfl, rfl, fun j hj => by rw [cy_lt hj]; exact (hc j hj).1, Or.inr ⟨_, _, _, cd_mono (cd_GW g (fun j hj => by have := (hc j hj).2; unfold qu_T at this; omega)) ?_⟩⟩ hE
    rintro v ⟨j, hj, e⟩
    exact ⟨j, P, hj, hP, rfl, e⟩
end
section
/-! spell -/
def ep_s (c : Nat → Nat) : Nat → Nat
  | 0 => 1
  | k + 1 => if c k ≤ 5 then ep_s c k - 1 else if c k = 10 ∨ c k = 11 then ep_s c k + 1 else ep_s c k
def ep_G (c : Nat → Nat) (n : Nat) : Prop := n ≤ 10 ∧ (∀ k, k < n → 0 < ep_s c k ∧ c k ≤ 14) ∧ ep_s c n = 0
theorem ep_bd (c : Nat → Nat) : ∀ k, ep_s c k ≤ k + 1
  | 0 => Nat.le_refl 1
  | k + 1 => by
    have := ep_bd c k
    unfold ep_s
    split
    · omega
    · split <;> omega
theorem ep_GW {c : Nat → Nat} {n : Nat} (h : ep_G c n) (hv : ∀ k, k < n → qu_T (c k)) : ep_W c n (ep_s c) := by
  refine ⟨rfl, h.2.2, fun k hk => ⟨(h.2.1 k hk).1, ?_⟩⟩
  have a := (h.2.1 k hk).2
  have b := hv k hk
  unfold qu_T at b
  have e : ep_s c (k + 1) = if c k ≤ 5 then ep_s c k - 1 else if c k = 10 ∨ c k = 11 then ep_s c k + 1 else ep_s c k := rfl
  rw [e]
  by_cases z : c k ≤ 5
  · exact Or.inl ⟨z, if_pos z⟩
  · rw [if_neg z]
    by_cases y : c k = 10 ∨ c k = 11
    · exact Or.inr (Or.inl ⟨y, if_pos y⟩)
    · exact Or.inr (Or.inr ⟨by omega, a, if_neg y⟩)
theorem ep_0 (c : Nat → Nat) : ¬ ep_s c 0 = 0 := Nat.one_ne_zero
theorem ep_l {c : Nat → Nat} {k : Nat} (h : c k ≤ 5) : ep_s c (k + 1) = ep_s c k - 1 := if_pos h
theorem ep_b {c : Nat → Nat} {k : Nat} (h : c k = 10 ∨ c k = 11) : ep_s c (k + 1) = ep_s c k + 1 := (if_neg (by omega)).trans (if_pos h)
theorem ep_u {c : Nat → Nat} {k : Nat} (h0 : ¬ c k ≤ 5) (h : ¬ (c k = 10 ∨ c k = 11)) : ep_s c (k + 1) = ep_s c k := (if_neg h0).trans (if_neg h)
variable {nT : Int32} {eT : Int32} {xlv : Int32} {xpc : Int32} {xqc : Int32} {xcc : Int32} {xec : Int32} {mc : Int32} {lw : Int32} {rc : Int32} {xla : Nat → Int32} {xpr : Nat → Int64} {xed : Nat → Int32} {sN : Nat → Int32} {sE : Nat → Int32} {sL : Nat → Int32} {sP : Nat → Int64} {sD : Nat → Int32} {pva : Nat → Int32} {pwa : Nat → Int32} {pam : Nat → Int32} {pdi : Nat → Int32} {plo : Nat → Int32} {phi : Nat → Int32} {ptk : Nat → Int32} {pco : Nat → Int32} {pex : Nat → Int32} {tr : Nat → Int32} {ds : Nat → Int32} {ch : Nat → Int32} {ar : Nat → Int32} {rN : Nat → Int32} {rM : Nat → Int32} {s1 : Nat → Int32} {s2 : Nat → Int32} {s3 : Nat → Int32} {s4 : Nat → Int32} {s5 : Nat → Int32}
variable {ylv : Int32} {ypc : Int32} {yqc : Int32} {ycc : Int32} {yec : Int32} {yde : Int32} {yus : Int32} {ywe : Int32} {yfo : Int32} {yli : Int32} {yso : Int32} {ysu : Int64} {yla : Nat → Int32} {ypr : Nat → Int64} {yfr : Nat → Int32} {yto : Nat → Int32} {yty : Nat → Int32} {ywt : Nat → Int32} {yst : Nat → Int32} {ypa : Nat → Int32} {ysp : Nat → Int32} {ypl : Nat → Int32} {ycp : Nat → Int32} {ybo : Nat → Int32} {ytk : Nat → Int32} {yno : Nat → Int32} {ych : Nat → Int32} {yfa : Nat → Int32}
theorem tg_xie {post : Int32 → Prop} {n : Nat} (hn : n ≤ 12) (hn' : n ≤ 10) {c : Nat → Nat} (hc : ∀ k, k < n → ptk k = nI (c k) ∧ qu_T (c k)) (h1 : ep_G c n → post 1) (h0 : ¬ ep_G c n → post 0) : ∀ d i, i + d = n → (∀ k, k < i → 0 < ep_s c k ∧ c k ≤ 14) → wX_isExpression_4 post (nI n) nT eT xlv xpc xqc xcc xec mc lw rc xla xpr xed sN sE sL sP sD pva pwa pam pdi plo phi ptk pco pex tr ds ch ar rN rM s1 s2 s3 s4 s5 (d + 1) (nI (ep_s c i)) (nI i) := by
  intro d
  induction d with
  | zero =>
    intro i hi hk
    have e : i = n := by omega
    subst e
    have b := ep_bd c i
    refine br_t (nI_le (by omega) (by omega)) ?_
    rcases Nat.eq_zero_or_pos (ep_s c i) with z | z
    · rw [z]
      exact br_t rfl (h1 ⟨hn', hk, z⟩)
    · exact br_f (nI_ne0 z (by omega)) (h0 (fun g => by have := g.2.2; omega))
  | succ d ih =>
    intro i hi hk
    have b := ep_bd c i
    obtain ⟨et, hT⟩ := hc i (by omega)
    have hT2 : c i < 2 ^ 31 := by unfold qu_T at hT; omega
    have bad : ¬ (0 < ep_s c i ∧ c i ≤ 14) → post 0 := fun q => h0 (fun g => q (g.2.1 i (by omega)))
    refine br_f (nI_ge (by omega) (by omega)) ⟨vp_in_nI (by omega) (by omega), nm_r (by rw [nI_clamp (by omega), et]) ?_⟩
    rcases Nat.eq_zero_or_pos (ep_s c i) with z | z
    · rw [z]
      exact br_t rfl (bad (by omega))
    refine br_f (nI_ne0 z (by omega)) ?_
    by_cases t1 : c i ≤ 14
    · have nx := ih (i + 1) (by omega) (fun k hk' => by
        by_cases z' : k = i
        · subst z'; exact ⟨z, t1⟩
        · exact hk k (by omega))
      have ne : ∀ a, a < 100 → c i ≠ a → ¬ nI (c i) = nI a := fun a ha q e => q ((nI_eq (by omega) (by omega)).mp e)
      refine br_t (nI_le (b := 14) t1 (by omega)) ?_
      by_cases t2 : c i ≤ 5
      · rw [ep_l t2] at nx
        refine br_f (nI_nlt (b := c i) (a := 5) t2 (by omega)) (nm_r (show _ = nI (ep_s c i - 1) from ?_) (nm_r (nI_1 i) nx))
        rw [show ep_s c i = (ep_s c i - 1) + 1 from by omega, pk_m1]; rfl
      · refine br_t (nI_lt (a := 5) (by omega) (by omega)) ?_
        by_cases t3 : c i = 10
        · rw [ep_b (Or.inl t3)] at nx
          exact br_t (by rw [t3]; rfl) (nm_r (nI_1 _) (nm_r (nI_1 i) nx))
        refine br_f (ne 10 (by omega) t3) ?_
        by_cases t4 : c i = 11
        · rw [ep_b (Or.inr t4)] at nx
          exact br_t (by rw [t4]; rfl) (nm_r (nI_1 _) (nm_r (nI_1 i) nx))
        rw [ep_u t2 (by omega)] at nx
        exact br_f (ne 11 (by omega) t4) (nm_r (nI_1 i) nx)
    · exact br_f (nI_ge (b := c i) (a := 14) (by omega) (by omega)) (bad (by omega))
theorem tg_y87 {post : Int32 → SY → Prop} {n w : Nat} (hn : n ≤ 12) (hw : w ≤ 20) (h1 : n ≤ 10 → 0 < n → w = 0 → ∃ f, wY_spell_110 post (nI n) ylv ypc yqc ycc (nI n) yde yus ywe yfo yli yso ysu f 0 yla ypr yfr yto yty ywt pva pwa pam pdi plo phi ptk pco pex yst ypa ysp ypl ycp ybo ytk yno ych yfa) (h0 : (10 < n ∨ n = 0 ∨ 0 < w) → post 0 (ylv, ypc, yqc, ycc, yec, yde, yus, ywe, yfo, yli, yso, ysu, yla, ypr, yfr, yto, yty, ywt, pva, pwa, pam, pdi, plo, phi, ptk, pco, pex, yst, ypa, ysp, ypl, ycp, ybo, ytk, yno, ych, yfa)) : wY_spell_87 post (nI n) (nI w) ylv ypc yqc ycc yec yde yus ywe yfo yli yso ysu yla ypr yfr yto yty ywt pva pwa pam pdi plo phi ptk pco pex yst ypa ysp ypl ycp ybo ytk yno ych yfa := by
  rcases Nat.eq_zero_or_pos n with z | z
  · subst z
    exact br_t rfl (h0 (by omega))
  refine br_f (nI_ne0 z (by omega)) ?_
  by_cases a : 10 < n
  · exact br_t (nI_lt (a := 10) a (by omega)) (h0 (by omega))
  refine br_f (nI_nlt (b := n) (a := 10) (by omega) (by omega)) ?_
  rcases Nat.eq_zero_or_pos w with y | y
  · subst y
    exact br_t (by decide) (h1 (by omega) z rfl)
  · exact br_f (nI_nle y (by omega)) (h0 (by omega))
theorem tg_yie2 {post : Int32 → SY → Prop} {n : Nat} (hn : n ≤ 12) {c : Nat → Nat} (hc : ∀ k, k < n → ptk k = nI (c k) ∧ qu_T (c k)) (h1 : ep_G c n → ∃ f, wY_spell_110 post (nI n) ylv ypc yqc ycc (nI n) yde yus ywe yfo yli yso ysu f 0 yla ypr yfr yto yty ywt pva pwa pam pdi plo phi ptk pco pex yst ypa ysp ypl ycp ybo ytk yno ych yfa) (h0 : ¬ ep_G c n → post 0 (ylv, ypc, yqc, ycc, yec, yde, yus, ywe, yfo, yli, yso, ysu, yla, ypr, yfr, yto, yty, ywt, pva, pwa, pam, pdi, plo, phi, ptk, pco, pex, yst, ypa, ysp, ypl, ycp, ybo, ytk, yno, ych, yfa)) : ∀ d i, i + d = n → (∀ k, k < i → 0 < ep_s c k ∧ c k ≤ 14) → (ep_s c i = 0 → i = n) → wY_spell_14 post (nI n) ylv ypc yqc ycc yec yde yus ywe yfo yli yso ysu yla ypr yfr yto yty ywt pva pwa pam pdi plo phi ptk pco pex yst ypa ysp ypl ycp ybo ytk yno ych yfa (d + 1) (nI (ep_s c i)) (nI i) := by
  intro d
  induction d with
  | zero =>
    intro i hi hk he
    have e : i = n := by omega
    subst e
    have b := ep_bd c i
    exact br_t (nI_le (by omega) (by omega)) (tg_y87 hn (by omega) (fun a z y => h1 ⟨a, hk, y⟩) (fun q => h0 (fun g => by
      have g1 := g.1
      have g2 := g.2.2
      rcases q with q | q | q
      · omega
      · subst q; exact absurd g2 (ep_0 c)
      · omega)))
  | succ d ih =>
    intro i hi hk he
    have b := ep_bd c i
    obtain ⟨et, hT⟩ := hc i (by omega)
    have hT2 : c i < 2 ^ 31 := by unfold qu_T at hT; omega
    have z : 0 < ep_s c i := by
      rcases Nat.eq_zero_or_pos (ep_s c i) with z | z
      · have := he z; omega
      · exact z
    have bad : ¬ (0 < ep_s c i ∧ c i ≤ 14) → post 0 (ylv, ypc, yqc, ycc, yec, yde, yus, ywe, yfo, yli, yso, ysu, yla, ypr, yfr, yto, yty, ywt, pva, pwa, pam, pdi, plo, phi, ptk, pco, pex, yst, ypa, ysp, ypl, ycp, ybo, ytk, yno, ych, yfa) := fun q => h0 (fun g => q (g.2.1 i (by omega)))
    have w : vp_in (nI i) 12 := vp_in_nI (by omega) (by omega)
    have c0 : (nI i).toNatClampNeg = i := nI_clamp (by omega)
    have K : ∀ x : Int32, (c i ≤ 14 → nI (ep_s c i) + x = nI (ep_s c (i + 1))) → wY_spell_55 post (wY_spell_14 post (nI n) ylv ypc yqc ycc yec yde yus ywe yfo yli yso ysu yla ypr yfr yto yty ywt pva pwa pam pdi plo phi ptk pco pex yst ypa ysp ypl ycp ybo ytk yno ych yfa (d + 1)) (nI n) (nI i) x (nI (ep_s c i)) ylv ypc yqc ycc yec yde yus ywe yfo yli yso ysu yla ypr yfr yto yty ywt pva pwa pam pdi plo phi ptk pco pex yst ypa ysp ypl ycp ybo ytk yno ych yfa := by
      intro x hx
      unfold wY_spell_55
      refine nm_e ⟨w, ?_⟩
      rw [c0, et]
      by_cases t1 : c i ≤ 14
      · rw [hx t1]
        have b' := ep_bd c (i + 1)
        have hk' : ∀ k, k < i + 1 → 0 < ep_s c k ∧ c k ≤ 14 := fun k hk' => by
          by_cases z' : k = i
          · subst z'; exact ⟨z, t1⟩
          · exact hk k (by omega)
        refine br_f (nI_nlt (b := c i) (a := 14) t1 (by omega)) ?_
        have e1 : nI n - 1 = nI (n - 1) := pk_sub (b := 1) (by omega)
        rw [e1]
        rcases Nat.eq_zero_or_pos (ep_s c (i + 1)) with y | y
        · have nx := ih (i + 1) (by omega) hk'
          rw [y] at nx ⊢
          refine br_t rfl ?_
          by_cases l : n - 1 ≤ i
          · exact br_t (nI_le l (by omega)) (nm_r (nI_1 i) (nx (fun _ => by omega)))
          · exact br_f (nI_ge (by omega) (by omega)) (h0 (fun g => by have := (g.2.1 (i + 1) (by omega)).1; omega))
        · exact br_f (nI_ne0 y (by omega)) (nm_r (nI_1 i) (ih (i + 1) (by omega) hk' (fun q => by omega)))
      · exact br_t (nI_lt (a := 14) (by omega) (by omega)) (bad (by omega))
    refine br_f (nI_ge (by omega) (by omega)) (br_f (nI_nle z (by omega)) ⟨w, ?_⟩)
    rw [c0, et]
    unfold qu_T at hT
    by_cases t1 : c i ≤ 5
    · refine br_f (nI_ge (b := 6) (by omega) (by omega)) (K _ (fun _ => ?_))
      rw [ep_l t1, show ep_s c i = (ep_s c i - 1) + 1 from by omega, pk_m1]; rfl
    refine br_t (nI_le (a := 6) (by omega) (by omega)) ⟨w, ?_⟩
    by_cases t2 : c i < 12
    · refine br_f (nI_ge (b := 12) (by omega) (by omega)) (K _ (fun _ => ?_))
      rw [ep_b (by omega), nI_1]
    · refine br_t (nI_le (a := 12) (by omega) (by omega)) (K _ (fun _ => ?_))
      rw [ep_u t1 (by omega), Int32.add_zero]
theorem tg_xsl {post : Int32 → SX → Prop} {n : Nat} (hn : n ≤ 10) (h : post 1 (nT, eT, xlv, xpc, xqc, xcc, (nI n), mc, lw, rc, xla, xpr, xed, sN, sE, sL, sP, sD, pva, pwa, pam, pdi, plo, phi, ptk, pco, (cy_f ptk pex n), tr, ds, ch, ar, rN, rM, s1, s2, s3, s4, s5)) : ∀ d i, i + d = n → wX_spell_28 post (nI n) nT eT xlv xpc xqc xcc xec mc lw rc (d + 1) (nI i) xla xpr xed sN sE sL sP sD pva pwa pam pdi plo phi ptk pco (cy_f ptk pex i) tr ds ch ar rN rM s1 s2 s3 s4 s5 := by
  intro d
  induction d with
  | zero =>
    intro i hi
    have e : i = n := by omega
    subst e
    exact br_t (nI_le (by omega) (by omega)) h
  | succ d ih =>
    intro i hi
    refine br_f (nI_ge (by omega) (by omega)) ⟨vp_in_nI (by omega) (by omega), vp_in_nI (by omega) (by omega), ?_⟩
    rw [nI_clamp (by omega)]
    exact nm_e (nm_r (nI_1 i) (ih (i + 1) (by omega)))
theorem tg_ysl {post : Int32 → SY → Prop} {n : Nat} (hn : n ≤ 10) (h : post 1 (ylv, ypc, yqc, ycc, yec, yde, yus, ywe, yfo, yli, yso, ysu, yla, ypr, yfr, yto, yty, ywt, pva, pwa, pam, pdi, plo, phi, ptk, pco, (cy_f ptk pex n), yst, ypa, ysp, ypl, ycp, ybo, ytk, yno, ych, yfa)) : ∀ d i, i + d = n → wY_spell_110 post (nI n) ylv ypc yqc ycc yec yde yus ywe yfo yli yso ysu (d + 1) (nI i) yla ypr yfr yto yty ywt pva pwa pam pdi plo phi ptk pco (cy_f ptk pex i) yst ypa ysp ypl ycp ybo ytk yno ych yfa := by
  intro d
  induction d with
  | zero =>
    intro i hi
    have e : i = n := by omega
    subst e
    exact br_t (nI_le (by omega) (by omega)) h
  | succ d ih =>
    intro i hi
    refine br_f (nI_ge (by omega) (by omega)) ⟨vp_in_nI (by omega) (by omega), vp_in_nI (by omega) (by omega), ?_⟩
    rw [nI_clamp (by omega)]
    exact nm_e (nm_r (nI_1 i) (ih (i + 1) (by omega)))
theorem i_vc_spell {k : Nat} {u : SX} {v : SY} (I : i_Rel k u v) (hk : k + 7 ≤ 3584) : wpX_spell (fun r u' => wpY_spell (fun r' v' => r' = r ∧ i_Rel (k + 7) u' v') v) u := by
  obtain ⟨nT, eT, xlv, xpc, xqc, xcc, xec, mc, lw, rc, xla, xpr, xed, sN, sE, sL, sP, sD, pva, pwa, pam, pdi, plo, phi, ptk, pco, pex, tr, ds, ch, ar, rN, rM, s1, s2, s3, s4, s5⟩ := u
  obtain ⟨ylv, ypc, yqc, ycc, yec, yde, yus, ywe, yfo, yli, yso, ysu, yla, ypr, yfr, yto, yty, ywt, qpva, qpwa, qpam, qpdi, qplo, qphi, qptk, qpco, qpex, yst, ypa, ysp, ypl, ycp, ybo, ytk, yno, ych, yfa⟩ := v
  obtain ⟨⟨rfl, rfl, rfl, rfl, rfl, rfl, rfl, rfl, rfl⟩, hG, hQ, hT, hC, hE⟩ := I
  obtain ⟨n, hn, rfl, rfl, ht⟩ := hT
  have hT0 : rl_T 0 0 ptk := ⟨0, by omega, rfl, rfl, fun b hb => absurd hb (Nat.not_lt_zero b)⟩
  have hc : ∀ k, k < n → ptk k = nI ((fun k => (ptk k).toNatClampNeg) k) ∧ qu_T ((fun k => (ptk k).toNatClampNeg) k) := fun k hk => by
    obtain ⟨t, h1, h2⟩ := ht k hk
    have : (ptk k).toNatClampNeg = t := by rw [h2, nI_clamp (by unfold qu_T at h1; omega)]
    dsimp only
    rw [this]
    exact ⟨h2, h1⟩
  generalize (fun k => (ptk k).toNatClampNeg) = c at hc
  unfold wpX_spell wpY_spell
  by_cases z : n ≤ 10
  · refine br_f (nI_nlt (b := n) (a := 10) z (by omega)) ⟨n + 1, tg_xie hn z hc (fun g => br_f tg_10 ⟨n + 1, tg_xsl z ⟨n + 1, tg_yie2 hn hc (fun _ => ⟨n + 1, tg_ysl z ⟨rfl, ?_⟩ n 0 (by omega)⟩) (fun g' => absurd g g') n 0 (by omega) (fun k hk => absurd hk (Nat.not_lt_zero k)) (fun q => absurd q (ep_0 c))⟩ n 0 (by omega)⟩) (fun g => br_t rfl ⟨n + 1, tg_yie2 hn hc (fun g' => absurd g' g) (fun _ => ⟨rfl, rl_mk _ hG hQ hT0 hC hE⟩) n 0 (by omega) (fun k hk => absurd hk (Nat.not_lt_zero k)) (fun q => absurd q (ep_0 c))⟩) n 0 (by omega) (fun k hk => absurd hk (Nat.not_lt_zero k))⟩
    exact rl_mk _ hG hQ hT0 hC ⟨n, c, z, rfl, rfl, fun j hj => by rw [cy_lt hj]; exact (hc j hj).1, Or.inr ⟨_, ep_GW g (fun j hj => (hc j hj).2)⟩⟩
  · exact br_t (nI_lt (a := 10) (by omega) (by omega)) ⟨n + 1, tg_yie2 hn hc (fun g => absurd g.1 z) (fun _ => ⟨rfl, rl_mk _ hG hQ hT0 hC hE⟩) n 0 (by omega) (fun k hk => absurd hk (Nat.not_lt_zero k)) (fun q => absurd q (ep_0 c))⟩
end
section
/-! tables of distances: 8 x 8 cells, at most 1000000 each -/
def tb_N (ds : Nat → Int32) (b : Nat) (T : Nat → Nat) (n : Nat) : Prop := ∀ k, k < n → ds (b * 64 + k) = nI (T k) ∧ T k ≤ 1000000
def tb_F (b : Nat) (ds ds' : Nat → Int32) : Prop := ∀ j, j < b * 64 → ds' j = ds j
theorem tb_Fr (b : Nat) (ds : Nat → Int32) : tb_F b ds ds := fun _ _ => rfl
theorem tb_Fu {b b' c : Nat} {ds ds' : Nat → Int32} {x : Int32} (h : tb_F b ds ds') (hb : b ≤ b') : tb_F b ds (upd ds' (b' * 64 + c) x) := fun j hj => by
  rw [pk_un (by omega)]; exact h j hj
theorem tb_Ft {b b' : Nat} {ds ds' ds'' : Nat → Int32} (h : tb_F b ds ds') (h' : tb_F b' ds' ds'') (hb : b ≤ b') : tb_F b ds ds'' := fun j hj => (h' j (by omega)).trans (h j hj)
theorem tb_NF {b b' n : Nat} {ds ds' : Nat → Int32} {T : Nat → Nat} (h : tb_N ds b T n) (hf : tb_F b' ds ds') (hb : b < b') (hn : n ≤ 64) : tb_N ds' b T n := fun k hk => by
  rw [hf _ (by omega)]; exact h k hk
theorem tb_s {ds : Nat → Int32} {b c : Nat} {T : Nat → Nat} {x : Int32} (h : tb_N ds b T c) (hx : x = nI (T c)) (hl : T c ≤ 1000000) : tb_N (upd ds (b * 64 + c) x) b T (c + 1) := fun k hk => by
  by_cases z : k = c
  · subst z; rw [pk_us]; exact ⟨hx, hl⟩
  · rw [pk_un (by omega)]; exact h k (by omega)
theorem tb_o {ds : Nat → Int32} {b b' c n : Nat} {T : Nat → Nat} {x : Int32} (h : tb_N ds b T n) (hb : b ≠ b') (hc : c < 64) (hn : n ≤ 64) : tb_N (upd ds (b' * 64 + c) x) b T n := fun k hk => by
  rw [pk_un (by omega)]; exact h k hk
theorem tb_c0 {ds : Nat → Int32} {b n : Nat} {T T' : Nat → Nat} (h : tb_N ds b T n) (e : ∀ k, k < n → T' k = T k) : tb_N ds b T' n := fun k hk => by
  rw [e k hk]; exact h k hk
theorem tb_u {ds : Nat → Int32} {b c n : Nat} {T : Nat → Nat} {v : Nat} (h : tb_N ds b T n) (hv : v ≤ 1000000) : tb_N (upd ds (b * 64 + c) (nI v)) b (fun k => if k = c then v else T k) n := fun k hk => by
  dsimp only
  by_cases z : k = c
  · subst z; rw [pk_us, if_pos rfl]; exact ⟨rfl, hv⟩
  · rw [pk_un (by omega), if_neg z]; exact h k hk
/-! the operations -/
def tb_ix (yfr yto : Nat → Int32) (t e : Nat) : Nat := if t < 3 then 8 * (yfr e).toNatClampNeg + (yto e).toNatClampNeg else 8 * (yto e).toNatClampNeg + (yfr e).toNatClampNeg
def tb_ed (eT : Int32) (yfr yto yty : Nat → Int32) (t : Nat) : Nat → Nat → Nat
  | 0 => fun _ => 1000000
  | e + 1 => fun k => if (bt eT e = true ∧ yty e = nI (t % 3)) ∧ k = tb_ix yfr yto t e then 1 else tb_ed eT yfr yto yty t e k
def tb_c1 (A B : Nat → Nat) (k : Nat) : Nat → Nat
  | 0 => 1000000
  | m + 1 => if A (k / 8 * 8 + m) + B (8 * m + k % 8) < tb_c1 A B k m then A (k / 8 * 8 + m) + B (8 * m + k % 8) else tb_c1 A B k m
def tb_c (A B : Nat → Nat) (k : Nat) : Nat := tb_c1 A B k 8
def tb_m (A B : Nat → Nat) (k : Nat) : Nat := if A k < B k then A k else B k
def tb_p (A : Nat → Nat) (m c : Nat) : Nat := if A (c / 8 * 8 + m) + A (8 * m + c % 8) < A c then A (c / 8 * 8 + m) + A (8 * m + c % 8) else A c
def tb_q (A : Nat → Nat) : Nat → Nat → Nat
  | 0 => A
  | q + 1 => fun k => if k = q % 64 then tb_p (tb_q A q) (q / 64) (q % 64) else tb_q A q k
def tb_w (A : Nat → Nat) : Nat → Nat := tb_q A (64 * 8)
def tb_z (A : Nat → Nat) (k : Nat) : Nat := if k / 8 = k % 8 then 0 else A k
theorem tb_ed_le (eT : Int32) (yfr yto yty : Nat → Int32) (t : Nat) : ∀ n k, tb_ed eT yfr yto yty t n k ≤ 1000000
  | 0, k => Nat.le_refl _
  | n + 1, k => by
    have := tb_ed_le eT yfr yto yty t n k
    unfold tb_ed
    split <;> omega
theorem tb_c1_le (A B : Nat → Nat) (k : Nat) : ∀ n, tb_c1 A B k n ≤ 1000000
  | 0 => Nat.le_refl _
  | n + 1 => by
    have := tb_c1_le A B k n
    unfold tb_c1
    split <;> omega
theorem tb_c1_lb (A B : Nat → Nat) (k : Nat) : ∀ n m, m < n → tb_c1 A B k n ≤ A (k / 8 * 8 + m) + B (8 * m + k % 8)
  | 0, m, h => absurd h (Nat.not_lt_zero m)
  | n + 1, m, h => by
    unfold tb_c1
    by_cases z : m = n
    · subst z; split <;> omega
    · have := tb_c1_lb A B k n m (by omega)
      split <;> omega
theorem tb_c1_ex (A B : Nat → Nat) (k : Nat) : ∀ n, tb_c1 A B k n = 1000000 ∨ ∃ m, m < n ∧ tb_c1 A B k n = A (k / 8 * 8 + m) + B (8 * m + k % 8)
  | 0 => Or.inl rfl
  | n + 1 => by
    unfold tb_c1
    split
    · exact Or.inr ⟨n, by omega, rfl⟩
    · rcases tb_c1_ex A B k n with h | ⟨m, hm, h⟩
      · exact Or.inl h
      · exact Or.inr ⟨m, by omega, h⟩
theorem tb_p_le {A : Nat → Nat} {m c : Nat} : tb_p A m c ≤ A c := by unfold tb_p; split <;> omega
theorem tb_q_le {A : Nat → Nat} (hA : ∀ k, k < 64 → A k ≤ 1000000) : ∀ q k, k < 64 → tb_q A q k ≤ 1000000
  | 0, k, h => hA k h
  | q + 1, k, h => by
    unfold tb_q
    have := tb_q_le hA q k h
    split
    · next z => subst z; exact Nat.le_trans tb_p_le this
    · exact this
/-- within phase m the cells that it reads do not change -/
theorem tb_ph (A : Nat → Nat) (m : Nat) (hm : m < 8) : ∀ c, c ≤ 64 → ∀ k, k < 64 → tb_q A (64 * m + c) k = if k < c then tb_p (tb_q A (64 * m)) m k else tb_q A (64 * m) k
  | 0, _, k, _ => by rw [if_neg (by omega)]; rfl
  | c + 1, hc, k, hk => by
    have ih := tb_ph A m hm c (by omega)
    have e1 : (64 * m + c) / 64 = m := by omega
    have e2 : (64 * m + c) % 64 = c := by omega
    show (if k = (64 * m + c) % 64 then tb_p (tb_q A (64 * m + c)) ((64 * m + c) / 64) ((64 * m + c) % 64) else tb_q A (64 * m + c) k) = _
    rw [e1, e2]
    by_cases z : k = c
    · subst z
      rw [if_pos rfl, if_pos (by omega)]
      have h1 : tb_q A (64 * m + k) (k / 8 * 8 + m) = tb_q A (64 * m) (k / 8 * 8 + m) := by
        rw [ih _ (by omega)]
        split
        · unfold tb_p
          rw [show (k / 8 * 8 + m) / 8 * 8 + m = k / 8 * 8 + m from by omega, if_neg (by omega)]
        · rfl
      have h2 : tb_q A (64 * m + k) (8 * m + k % 8) = tb_q A (64 * m) (8 * m + k % 8) := by
        rw [ih _ (by omega)]
        split
        · unfold tb_p
          rw [show 8 * m + (8 * m + k % 8) % 8 = 8 * m + k % 8 from by omega, if_neg (by omega)]
        · rfl
      have h3 : tb_q A (64 * m + k) k = tb_q A (64 * m) k := by rw [ih k hk, if_neg (by omega)]
      unfold tb_p
      rw [h1, h2, h3]
    · rw [if_neg z, ih k hk]
      by_cases y : k < c
      · rw [if_pos y, if_pos (by omega)]
      · rw [if_neg y, if_neg (by omega)]
/-- the phases as a matrix -/
def tb_D (A : Nat → Nat) (m i j : Nat) : Nat := tb_q A (64 * m) (8 * i + j)
theorem tb_Ds (A : Nat → Nat) {m i j : Nat} (hm : m < 8) (hi : i < 8) (hj : j < 8) : tb_D A (m + 1) i j = if tb_D A m i m + tb_D A m m j < tb_D A m i j then tb_D A m i m + tb_D A m m j else tb_D A m i j := by
  show tb_q A (64 * m + 64) (8 * i + j) = _
  rw [tb_ph A m hm 64 (by omega) (8 * i + j) (by omega), if_pos (by omega)]
  unfold tb_p
  rw [show (8 * i + j) / 8 * 8 + m = 8 * i + m from by omega, show 8 * m + (8 * i + j) % 8 = 8 * m + j from by omega]
  rfl
def fw_H (D : Nat → Nat → Nat → Nat) : Prop := ∀ m i j, m < 8 → i < 8 → j < 8 → D (m + 1) i j = if D m i m + D m m j < D m i j then D m i m + D m m j else D m i j
theorem fw_mono {D : Nat → Nat → Nat → Nat} (H : fw_H D) : ∀ d m i j, m + d ≤ 8 → i < 8 → j < 8 → D (m + d) i j ≤ D m i j
  | 0, m, i, j, _, _, _ => Nat.le_refl _
  | d + 1, m, i, j, h, hi, hj => by
    have a := fw_mono H d m i j (by omega) hi hj
    have b := H (m + d) i j (by omega) hi hj
    show D (m + d + 1) i j ≤ _
    rw [b]
    split <;> omega
theorem fw_tri {D : Nat → Nat → Nat → Nat} (H : fw_H D) : ∀ m, m ≤ 8 → ∀ p, p < m → ∀ i j, i < 8 → j < 8 → D m i j ≤ D m i p + D m p j
  | 0, _, p, hp, _, _, _, _ => absurd hp (Nat.not_lt_zero p)
  | m + 1, hm, p, hp, i, j, hi, hj => by
    have a1 := H m i j (by omega) hi hj
    have a2 := H m i p (by omega) hi (by omega)
    have a3 := H m p j (by omega) (by omega) hj
    rw [a1, a2, a3]
    by_cases z : p = m
    · subst z
      split <;> split <;> split <;> omega
    · have t1 := fw_tri H m (by omega) p (by omega) i j hi hj
      have t2 := fw_tri H m (by omega) p (by omega) i m hi (by omega)
      have t3 := fw_tri H m (by omega) p (by omega) m j (by omega) hj
      split <;> split <;> split <;> omega
theorem fw_low {D : Nat → Nat → Nat → Nat} (H : fw_H D) : ∀ m, m ≤ 8 → ∀ i j, i < 8 → j < 8 → D 0 i j ≤ D m i j ∨ ∃ p, p < 8 ∧ D 0 i p + D 8 p j ≤ D m i j
  | 0, _, i, j, _, _ => Or.inl (Nat.le_refl _)
  | m + 1, hm, i, j, hi, hj => by
    have a1 := H m i j (by omega) hi hj
    by_cases z : D m i m + D m m j < D m i j
    · rw [if_pos z] at a1
      rw [a1]
      have b : D 8 m j ≤ D m m j := by
        have := fw_mono H (8 - m) m m j (by omega) (by omega) hj
        rwa [show m + (8 - m) = 8 from by omega] at this
      rcases fw_low H m (by omega) i m hi (by omega) with h | ⟨p, hp, h⟩
      · exact Or.inr ⟨m, by omega, by omega⟩
      · have t := fw_tri H 8 (by omega) m (by omega) p j hp hj
        exact Or.inr ⟨p, hp, by omega⟩
    · rw [if_neg z] at a1
      rw [a1]
      exact fw_low H m (by omega) i j hi hj
theorem fw_zd {D E : Nat → Nat → Nat → Nat} (H : fw_H D) (HE : fw_H E) (h0 : ∀ i j, i < 8 → j < 8 → E 0 i j = if i = j then 0 else D 0 i j) : ∀ m, m ≤ 8 → ∀ i j, i < 8 → j < 8 → E m i j = if i = j then 0 else D m i j
  | 0, _, i, j, hi, hj => h0 i j hi hj
  | m + 1, hm, i, j, hi, hj => by
    have ih := fw_zd H HE h0 m (by omega)
    rw [HE m i j (by omega) hi hj, H m i j (by omega) hi hj, ih i m hi (by omega), ih m j (by omega) hj, ih i j hi hj]
    by_cases z : i = j
    · rw [if_pos z, if_pos z, if_neg (by omega)]
    · rw [if_neg z, if_neg z]
      by_cases y : i = m
      · subst y
        rw [if_pos rfl, if_neg z, if_neg (by omega), if_neg (by omega)]
      · rw [if_neg y]
        by_cases x : m = j
        · subst x
          rw [if_pos rfl, if_neg (by omega), if_neg (by omega)]
        · rw [if_neg x]
theorem tb_ij {P : Nat → Prop} (h : ∀ i j, i < 8 → j < 8 → P (8 * i + j)) : ∀ k, k < 64 → P k := fun k hk => by
  have := h (k / 8) (k % 8) (by omega) (by omega)
  rwa [show 8 * (k / 8) + k % 8 = k from by omega] at this
theorem tb_DH (A : Nat → Nat) : fw_H (tb_D A) := fun m i j hm hi hj => tb_Ds A hm hi hj
theorem tb_zij (A : Nat → Nat) {i j : Nat} (hi : i < 8) (hj : j < 8) : tb_z A (8 * i + j) = if i = j then 0 else A (8 * i + j) := by
  unfold tb_z
  rw [show (8 * i + j) / 8 = i from by omega, show (8 * i + j) % 8 = j from by omega]
theorem tb_wD (A : Nat → Nat) (i j : Nat) : tb_w A (8 * i + j) = tb_D A 8 i j := by unfold tb_w tb_D; exact Eq.refl _
theorem tb_D0 (A : Nat → Nat) (i j : Nat) : tb_D A 0 i j = A (8 * i + j) := by unfold tb_D; rw [Nat.mul_zero]; exact Eq.refl _
/-- token 12: the diagonal may be cleared before or after -/
theorem tb_12 (A : Nat → Nat) : ∀ k, k < 64 → tb_w (tb_z A) k = tb_z (tb_w A) k := by
  apply tb_ij
  intro i j hi hj
  rw [tb_zij _ hi hj, tb_wD, tb_wD]
  refine fw_zd (tb_DH A) (tb_DH (tb_z A)) (fun i j hi hj => ?_) 8 (by omega) i j hi hj
  rw [tb_D0, tb_D0]
  exact tb_zij A hi hj
/-- token 13: one walk first, then any number of them -/
theorem tb_13 (A : Nat → Nat) (hA : ∀ k, k < 64 → A k ≤ 1000000) : ∀ k, k < 64 → tb_c A (tb_w (tb_z A)) k = tb_w A k := by
  apply tb_ij
  intro i j hi hj
  have W : ∀ p, p < 8 → tb_w (tb_z A) (8 * p + j) = if p = j then 0 else tb_D A 8 p j := fun p hp => by
    rw [tb_12 A _ (by omega), tb_zij _ hp hj, tb_wD]
  have e1 : (8 * i + j) / 8 * 8 = 8 * i := by omega
  have e2 : (8 * i + j) % 8 = j := by omega
  have hle : tb_D A 8 i j ≤ 1000000 := by unfold tb_D; exact tb_q_le hA _ _ (by omega)
  rw [tb_wD]
  unfold tb_c
  have lb := tb_c1_lb A (tb_w (tb_z A)) (8 * i + j) 8
  have ex := tb_c1_ex A (tb_w (tb_z A)) (8 * i + j) 8
  rw [e1, e2] at lb ex
  have fl := fw_low (tb_DH A) 8 (by omega) i j hi hj
  have D0 := tb_D0 A
  have mo := fw_mono (tb_DH A) 8 0
  have tr := fw_tri (tb_DH A) 8 (by omega)
  generalize tb_D A = D at *
  generalize tb_w (tb_z A) = Z at *
  apply Nat.le_antisymm
  · rcases fl with h | ⟨p, hp, h⟩
    · have := lb j hj
      rw [W j hj, if_pos rfl] at this
      rw [D0] at h
      omega
    · have := lb p hp
      rw [W p hp] at this
      rw [D0] at h
      split at this <;> omega
  · rcases ex with h | ⟨p, hp, h⟩
    · rw [h]; exact hle
    · rw [h, W p hp]
      have m1 := mo i p (by omega) hi hp
      rw [show 0 + 8 = 8 from rfl, D0] at m1
      split
      · next z => subst z; omega
      · have t := tr p hp i j hi hj
        omega
end
section
/-! X's table operations -/
theorem tb_ed_t {eT : Int32} {yfr yto yty : Nat → Int32} {t e : Nat} (h : bt eT e = true ∧ yty e = nI (t % 3)) (k : Nat) : tb_ed eT yfr yto yty t (e + 1) k = if k = tb_ix yfr yto t e then 1 else tb_ed eT yfr yto yty t e k := by
  show (if (bt eT e = true ∧ yty e = nI (t % 3)) ∧ k = tb_ix yfr yto t e then 1 else tb_ed eT yfr yto yty t e k) = _
  by_cases z : k = tb_ix yfr yto t e
  · rw [if_pos ⟨h, z⟩, if_pos z]
  · rw [if_neg (fun q => z q.2), if_neg z]
theorem tb_ed_f {eT : Int32} {yfr yto yty : Nat → Int32} {t e : Nat} (h : ¬ (bt eT e = true ∧ yty e = nI (t % 3))) (k : Nat) : tb_ed eT yfr yto yty t (e + 1) k = tb_ed eT yfr yto yty t e k := if_neg (fun q => h q.1)
theorem tb_q_s (A : Nat → Nat) {m c : Nat} (hc : c < 64) (k : Nat) : tb_q A (64 * m + (c + 1)) k = if k = c then tb_p (tb_q A (64 * m + c)) m c else tb_q A (64 * m + c) k := by
  show (if k = (64 * m + c) % 64 then tb_p (tb_q A (64 * m + c)) ((64 * m + c) / 64) ((64 * m + c) % 64) else tb_q A (64 * m + c) k) = _
  rw [show (64 * m + c) / 64 = m from by omega, show (64 * m + c) % 64 = c from by omega]
theorem tg_d8 {c : Nat} (hc : c < 512) : nI c / 8 = nI (c / 8) ∧ nI c - nI c / 8 * 8 = nI (c % 8) := ⟨pk_div (d := 8) (by omega) (by omega) (by omega), pk_rem (d := 8) (by omega) (by omega) (by omega)⟩
theorem tg_ia {b i m : Nat} : nI (b * 64) + nI i * 8 + nI m = nI (b * 64 + (i * 8 + m)) := by
  have e : nI i * 8 = nI (i * 8) := pk_mul i 8
  rw [e, nI_add, nI_add, Nat.add_assoc]
variable {nT : Int32} {eT : Int32} {xlv : Int32} {xpc : Int32} {xqc : Int32} {xcc : Int32} {xec : Int32} {mc : Int32} {lw : Int32} {rc : Int32} {xla : Nat → Int32} {xpr : Nat → Int64} {xed : Nat → Int32} {sN : Nat → Int32} {sE : Nat → Int32} {sL : Nat → Int32} {sP : Nat → Int64} {sD : Nat → Int32} {pva : Nat → Int32} {pwa : Nat → Int32} {pam : Nat → Int32} {pdi : Nat → Int32} {plo : Nat → Int32} {phi : Nat → Int32} {ptk : Nat → Int32} {pco : Nat → Int32} {pex : Nat → Int32} {tr : Nat → Int32} {ds : Nat → Int32} {ch : Nat → Int32} {ar : Nat → Int32} {rN : Nat → Int32} {rM : Nat → Int32} {s1 : Nat → Int32} {s2 : Nat → Int32} {s3 : Nat → Int32} {s4 : Nat → Int32} {s5 : Nat → Int32}
variable {ylv : Int32} {ypc : Int32} {yqc : Int32} {ycc : Int32} {yec : Int32} {yde : Int32} {yus : Int32} {ywe : Int32} {yfo : Int32} {yli : Int32} {yso : Int32} {ysu : Int64} {yla : Nat → Int32} {ypr : Nat → Int64} {yfr : Nat → Int32} {yto : Nat → Int32} {yty : Nat → Int32} {ywt : Nat → Int32} {yst : Nat → Int32} {ypa : Nat → Int32} {ysp : Nat → Int32} {ypl : Nat → Int32} {ycp : Nat → Int32} {ybo : Nat → Int32} {ytk : Nat → Int32} {yno : Nat → Int32} {ych : Nat → Int32} {yfa : Nat → Int32}
theorem xw_e26 {post : SX → Prop} {b t : Nat} (hb : b ≤ 9) (ht : t ≤ 5) (hR : gr_R nT eT xla xpr xed yla ypr yfr yto yty ywt) (h : ∀ ds', tb_N ds' b (tb_ed eT yfr yto yty t 12) 64 → tb_F b ds ds' → post (nT, eT, xlv, xpc, xqc, xcc, xec, mc, lw, rc, xla, xpr, xed, sN, sE, sL, sP, sD, pva, pwa, pam, pdi, plo, phi, ptk, pco, pex, tr, ds', ch, ar, rN, rM, s1, s2, s3, s4, s5)) : ∀ d e ds', e + d = 12 → tb_N ds' b (tb_ed eT yfr yto yty t e) 64 → tb_F b ds ds' → wX_measureEdges_26 post (nI (b * 64)) (nI t) nT eT xlv xpc xqc xcc xec mc lw rc (d + 1) (nI e) xla xpr xed sN sE sL sP sD pva pwa pam pdi plo phi ptk pco pex tr ds' ch ar rN rM s1 s2 s3 s4 s5 := by
  intro d
  induction d with
  | zero =>
    intro e ds' hd k1 k2
    have q : e = 12 := by omega
    subst q
    exact br_t (nI_le (a := 12) (by omega) (by omega)) (h ds' k1 k2)
  | succ d ih =>
    intro e ds' hd k1 k2
    have w : vp_in (nI e) 12 := vp_in_nI (by omega) (by omega)
    have c0 : (nI e).toNatClampNeg = e := nI_clamp (by omega)
    have skip : ¬ (bt eT e = true ∧ yty e = nI (t % 3)) → wX_measureEdges_26 post (nI (b * 64)) (nI t) nT eT xlv xpc xqc xcc xec mc lw rc (d + 1) (nI (e + 1)) xla xpr xed sN sE sL sP sD pva pwa pam pdi plo phi ptk pco pex tr ds' ch ar rN rM s1 s2 s3 s4 s5 := fun q =>
      ih (e + 1) ds' (by omega) (tb_c0 k1 (fun k _ => tb_ed_f q k)) k2
    refine br_f (nI_ge (b := 12) (by omega) (by decide)) (tg_isIn (by omega) (tg_zbr (fun q => nm_r (nI_1 e) (skip (fun q' => by rw [q] at q'; exact absurd q'.1 (by decide)))) (fun q => ⟨w, ?_⟩)))
    obtain ⟨q1, q2, q3, _⟩ := tg_ft (hR.2.2.2 e (by omega)) q
    have e3 : nI t - nI t / 3 * 3 = nI (t % 3)   := pk_rem (d := 3) (by omega) (by omega) (by omega)
    rw [c0, q3, e3]
    refine ⟨by decide, br_c (fun ty => ?_) (fun ty => nm_r (nI_1 e) (skip (fun q' => ty q'.2)))⟩
    rcases hR.2.2.2 e (by omega) with ⟨_, f, t', y, w', hf, ht', _, _, _, _, _, e1, e2, _, _⟩ | ⟨a, _⟩
    · have go : ∀ x : Nat, x = tb_ix yfr yto t e → x < 64 → wX_measureEdges_26 post (nI (b * 64)) (nI t) nT eT xlv xpc xqc xcc xec mc lw rc (d + 1) (nI (e + 1)) xla xpr xed sN sE sL sP sD pva pwa pam pdi plo phi ptk pco pex tr (upd ds' (b * 64 + x) (nI 1)) ch ar rN rM s1 s2 s3 s4 s5 := fun x hx hl =>
        ih (e + 1) _ (by omega) (tb_c0 (tb_u k1 (v := 1) (c := x) (by omega)) (fun k _ => by rw [tb_ed_t ⟨q, ty⟩, ← hx])) (tb_Fu k2 (Nat.le_refl b))
      have cf : (yfr e).toNatClampNeg = f := by rw [e1, nI_clamp (by omega)]
      have ct : (yto e).toNatClampNeg = t' := by rw [e2, nI_clamp (by omega)]
      by_cases z : t < 3
      · refine br_f (nI_ge (b := 3) z (by omega)) ⟨w, ?_⟩
        refine br_f (nI_ge (b := 3) z (by omega)) ⟨w, ?_⟩
        rw [c0, q1, q2, e1, e2]
        unfold wX_measureEdges_92
        dsimp only
        rw [tg_ia]
        exact ⟨vp_in_nI (by omega) (by omega), nm_r (tg_u (by omega)) (nm_r (nI_1 e) (go (f * 8 + t') (by unfold tb_ix; rw [if_pos z, cf, ct]; omega) (by omega)))⟩
      · refine br_t (nI_le (a := 3) (by omega) (by omega)) ⟨w, ?_⟩
        refine br_t (nI_le (a := 3) (by omega) (by omega)) ⟨w, ?_⟩
        rw [c0, q1, q2, e1, e2]
        unfold wX_measureEdges_92
        dsimp only
        rw [tg_ia]
        exact ⟨vp_in_nI (by omega) (by omega), nm_r (tg_u (by omega)) (nm_r (nI_1 e) (go (t' * 8 + f) (by unfold tb_ix; rw [if_neg z, cf, ct]; omega) (by omega)))⟩
    · rw [a] at q; exact absurd q (by decide)
theorem xw_e2 {post : SX → Prop} {b t : Nat} (hb : b ≤ 9) (ht : t ≤ 5) (hR : gr_R nT eT xla xpr xed yla ypr yfr yto yty ywt) (h : ∀ ds', tb_N ds' b (tb_ed eT yfr yto yty t 12) 64 → tb_F b ds ds' → post (nT, eT, xlv, xpc, xqc, xcc, xec, mc, lw, rc, xla, xpr, xed, sN, sE, sL, sP, sD, pva, pwa, pam, pdi, plo, phi, ptk, pco, pex, tr, ds', ch, ar, rN, rM, s1, s2, s3, s4, s5)) : wpX_measureEdges post (nT, eT, xlv, xpc, xqc, xcc, xec, mc, lw, rc, xla, xpr, xed, sN, sE, sL, sP, sD, pva, pwa, pam, pdi, plo, phi, ptk, pco, pex, tr, ds, ch, ar, rN, rM, s1, s2, s3, s4, s5) (nI (b * 64)) (nI t) := by
  have K : ∀ d c ds', c + d = 64 → tb_N ds' b (fun _ => 1000000) c → tb_F b ds ds' → wX_measureEdges_2 post (nI (b * 64)) (nI t) nT eT xlv xpc xqc xcc xec mc lw rc (d + 1) (nI c) xla xpr xed sN sE sL sP sD pva pwa pam pdi plo phi ptk pco pex tr ds' ch ar rN rM s1 s2 s3 s4 s5 := by
    intro d
    induction d with
    | zero =>
      intro c ds' hd k1 k2
      have q : c = 64 := by omega
      subst q
      refine br_t (nI_le (a := 64) (by omega) (by omega)) ⟨13, xw_e26 hb ht hR (fun ds'' j1 j2 => h ds'' j1 (tb_Ft k2 j2 (Nat.le_refl b))) 12 0 ds' (by omega) k1 (tb_Fr b ds')⟩
    | succ d ih =>
      intro c ds' hd k1 k2
      refine br_f (nI_ge (b := 64) (by omega) (by decide)) ?_
      rw [nI_add]
      exact ⟨vp_in_nI (by omega) (by omega), nm_r (tg_u (by omega)) (nm_r (nI_1 c) (ih (c + 1) _ (by omega) (tb_s k1 rfl (by omega)) (tb_Fu k2 (Nat.le_refl b))))⟩
  exact ⟨65, K 64 0 ds (by omega) (fun k hk => absurd hk (Nat.not_lt_zero k)) (tb_Fr b ds)⟩
/-! both -/
theorem xw_b36 {post : SX → Prop} {J : _} {p q c : Nat} {A B : Nat → Nat} (hp : p ≤ 9) (hq : q < p) (hc : c < 64) {ds' : Nat → Int32} (hA : tb_N ds' p A 64) (hB : tb_N ds' q B 64) (hJ : J (nI (c + 1)) xla xpr xed sN sE sL sP sD pva pwa pam pdi plo phi ptk pco pex tr (upd ds' ((p + 1) * 64 + c) (nI (tb_c A B c))) ch ar rN rM s1 s2 s3 s4 s5) : ∀ d m, m + d = 8 → wX_measureBoth_36 post J (nI (p * 64)) (nI (q * 64)) (nI ((p + 1) * 64)) (nI c) (nI (c / 8)) (nI (c % 8)) nT eT xlv xpc xqc xcc xec mc lw rc xla xpr xed sN sE sL sP sD pva pwa pam pdi plo phi ptk pco pex tr ds' ch ar rN rM s1 s2 s3 s4 s5 (d + 1) (nI (tb_c1 A B c m)) (nI m) := by
  intro d
  induction d with
  | zero =>
    intro m hm
    have z : m = 8 := by omega
    subst z
    refine br_t (nI_le (a := 8) (by omega) (by omega)) ?_
    rw [nI_add]
    exact ⟨vp_in_nI (by omega) (by omega), nm_r (tg_u (by omega)) (nm_r (nI_1 c) hJ)⟩
  | succ d ih =>
    intro m hm
    obtain ⟨a1, a2⟩ := hA (c / 8 * 8 + m) (by omega)
    obtain ⟨b1, b2⟩ := hB (8 * m + c % 8) (by omega)
    have l1 := tb_c1_le A B c m
    have e2 : nI (q * 64) + nI m * 8 + nI (c % 8) = nI (q * 64 + (8 * m + c % 8)) := by rw [tg_ia, Nat.mul_comm m 8]
    refine br_f (nI_ge (b := 8) (by omega) (by decide)) ?_
    rw [tg_ia, e2, nI_clamp (show p * 64 + (c / 8 * 8 + m) < 2 ^ 31 by omega), nI_clamp (show q * 64 + (8 * m + c % 8) < 2 ^ 31 by omega), a1, b1, nI_add]
    have nx := ih (m + 1) (by omega)
    refine ⟨vp_in_nI (by omega) (by omega), vp_in_nI (by omega) (by omega), nm_e ?_⟩
    by_cases z : A (c / 8 * 8 + m) + B (8 * m + c % 8) < tb_c1 A B c m
    · rw [show tb_c1 A B c (m + 1) = A (c / 8 * 8 + m) + B (8 * m + c % 8) from if_pos z] at nx
      exact br_f (nI_ge z (by omega)) (nm_r (nI_1 m) nx)
    · rw [show tb_c1 A B c (m + 1) = tb_c1 A B c m from if_neg z] at nx
      exact br_t (nI_le (by omega) (by omega)) (nm_r (nI_1 m) nx)
theorem xw_b113 {post : SX → Prop} {p q : Nat} {A : Nat → Nat} (hp : p ≤ 9) (hq : q < p) (h : ∀ ds', tb_N ds' q A 64 → tb_F q ds ds' → post (nT, eT, xlv, xpc, xqc, xcc, xec, mc, lw, rc, xla, xpr, xed, sN, sE, sL, sP, sD, pva, pwa, pam, pdi, plo, phi, ptk, pco, pex, tr, ds', ch, ar, rN, rM, s1, s2, s3, s4, s5)) : ∀ d c ds', c + d = 64 → tb_N ds' (p + 1) A 64 → tb_N ds' q A c → tb_F q ds ds' → wX_measureBoth_113 post (nI (q * 64)) (nI ((p + 1) * 64)) nT eT xlv xpc xqc xcc xec mc lw rc (d + 1) (nI c) xla xpr xed sN sE sL sP sD pva pwa pam pdi plo phi ptk pco pex tr ds' ch ar rN rM s1 s2 s3 s4 s5 := by
  intro d
  induction d with
  | zero =>
    intro c ds' hd k0 k1 k2
    have z : c = 64 := by omega
    subst z
    exact br_t (nI_le (a := 64) (by omega) (by omega)) (h ds' k1 k2)
  | succ d ih =>
    intro c ds' hd k0 k1 k2
    obtain ⟨a1, a2⟩ := k0 c (by omega)
    refine br_f (nI_ge (b := 64) (by omega) (by decide)) ?_
    rw [nI_add, nI_add, nI_clamp (show (p + 1) * 64 + c < 2 ^ 31 by omega)]
    exact ⟨vp_in_nI (by omega) (by omega), vp_in_nI (by omega) (by omega), nm_r (tg_u (by omega)) (nm_r (nI_1 c) (ih (c + 1) _ (by omega) (tb_o k0 (by omega) (by omega) (by omega)) (tb_s k1 a1 a2) (tb_Fu k2 (Nat.le_refl q))))⟩
theorem xw_b {post : SX → Prop} {p q : Nat} {A B : Nat → Nat} (hp : p ≤ 9) (hq : q < p) (hA : tb_N ds p A 64) (hB : tb_N ds q B 64) (h : ∀ ds', tb_N ds' q (tb_c A B) 64 → tb_F q ds ds' → post (nT, eT, xlv, xpc, xqc, xcc, xec, mc, lw, rc, xla, xpr, xed, sN, sE, sL, sP, sD, pva, pwa, pam, pdi, plo, phi, ptk, pco, pex, tr, ds', ch, ar, rN, rM, s1, s2, s3, s4, s5)) : wpX_measureBoth post (nT, eT, xlv, xpc, xqc, xcc, xec, mc, lw, rc, xla, xpr, xed, sN, sE, sL, sP, sD, pva, pwa, pam, pdi, plo, phi, ptk, pco, pex, tr, ds, ch, ar, rN, rM, s1, s2, s3, s4, s5) (nI (p * 64)) (nI (q * 64)) := by
  have K : ∀ d c ds', c + d = 64 → tb_N ds' (p + 1) (tb_c A B) c → tb_F (p + 1) ds ds' → wX_measureBoth_8 post (nI (p * 64)) (nI (q * 64)) (nI ((p + 1) * 64)) nT eT xlv xpc xqc xcc xec mc lw rc (d + 1) (nI c) xla xpr xed sN sE sL sP sD pva pwa pam pdi plo phi ptk pco pex tr ds' ch ar rN rM s1 s2 s3 s4 s5 := by
    intro d
    induction d with
    | zero =>
      intro c ds' hd k1 k2
      have z : c = 64 := by omega
      subst z
      exact br_t (nI_le (a := 64) (by omega) (by omega)) ⟨65, xw_b113 hp hq (fun ds'' j1 j2 => h ds'' j1 (fun j hj => (j2 j hj).trans (k2 j (by omega)))) 64 0 ds' (by omega) k1 (fun k hk => absurd hk (Nat.not_lt_zero k)) (tb_Fr q ds')⟩
    | succ d ih =>
      intro c ds' hd k1 k2
      obtain ⟨e1, e2⟩ := tg_d8 (c := c) (by omega)
      refine br_f (nI_ge (b := 64) (by omega) (by decide)) ⟨by decide, nm_r e1 ⟨by decide, nm_r e2 ⟨9, xw_b36 hp hq (by omega) (tb_NF hA k2 (by omega) (Nat.le_refl 64)) (tb_NF hB k2 (by omega) (Nat.le_refl 64)) (ih (c + 1) _ (by omega) (tb_s k1 rfl (tb_c1_le A B c 8)) (tb_Fu k2 (Nat.le_refl _))) 8 0 (by omega)⟩⟩⟩
  refine nm_r (show _ = nI ((p + 1) * 64) from ?_) ⟨65, K 64 0 ds (by omega) (fun k hk => absurd hk (Nat.not_lt_zero k)) (tb_Fr _ ds)⟩
  have : nI (p * 64) + 64 = nI (p * 64 + 64) := nI_add _ 64
  rw [this, Nat.add_mul]
/-! either -/
theorem xw_m {post : SX → Prop} {p q : Nat} {A B : Nat → Nat} (hp : p ≤ 9) (hq : q < p) (hA : tb_N ds p A 64) (hB : tb_N ds q B 64) (h : ∀ ds', tb_N ds' q (tb_m A B) 64 → tb_F q ds ds' → post (nT, eT, xlv, xpc, xqc, xcc, xec, mc, lw, rc, xla, xpr, xed, sN, sE, sL, sP, sD, pva, pwa, pam, pdi, plo, phi, ptk, pco, pex, tr, ds', ch, ar, rN, rM, s1, s2, s3, s4, s5)) : wpX_measureEither post (nT, eT, xlv, xpc, xqc, xcc, xec, mc, lw, rc, xla, xpr, xed, sN, sE, sL, sP, sD, pva, pwa, pam, pdi, plo, phi, ptk, pco, pex, tr, ds, ch, ar, rN, rM, s1, s2, s3, s4, s5) (nI (p * 64)) (nI (q * 64)) := by
  have K : ∀ d c ds', c + d = 64 → tb_N ds' p A 64 → tb_N ds' q (fun k => if k < c then tb_m A B k else B k) 64 → tb_F q ds ds' → wX_measureEither_2 post (nI (p * 64)) (nI (q * 64)) nT eT xlv xpc xqc xcc xec mc lw rc (d + 1) (nI c) xla xpr xed sN sE sL sP sD pva pwa pam pdi plo phi ptk pco pex tr ds' ch ar rN rM s1 s2 s3 s4 s5 := by
    intro d
    induction d with
    | zero =>
      intro c ds' hd k0 k1 k2
      have z : c = 64 := by omega
      subst z
      exact br_t (nI_le (a := 64) (by omega) (by omega)) (h ds' (tb_c0 k1 (fun k hk => (if_pos hk).symm)) k2)
    | succ d ih =>
      intro c ds' hd k0 k1 k2
      obtain ⟨a1, a2⟩ := k0 c (by omega)
      obtain ⟨b1, b2⟩ := k1 c (by omega)
      dsimp only at b1 b2
      rw [if_neg (Nat.lt_irrefl c)] at b1 b2
      refine br_f (nI_ge (b := 64) (by omega) (by decide)) ?_
      rw [nI_add, nI_add, nI_clamp (show p * 64 + c < 2 ^ 31 by omega), nI_clamp (show q * 64 + c < 2 ^ 31 by omega), a1, b1]
      have w1 : vp_in (nI (p * 64 + c)) 704 := vp_in_nI (by omega) (by omega)
      have w2 : vp_in (nI (q * 64 + c)) 704 := vp_in_nI (by omega) (by omega)
      refine ⟨w1, w2, ?_⟩
      by_cases z : A c < B c
      · refine br_f (nI_ge z (by omega)) ⟨w1, w2, nm_e (nm_r (nI_1 c) (ih (c + 1) _ (by omega) (tb_o k0 (by omega) (by omega) (by omega)) (tb_c0 (tb_u k1 (c := c) (v := A c) (by omega)) (fun k hk => ?_)) (tb_Fu k2 (Nat.le_refl q))))⟩
        by_cases y : k = c
        · subst y; rw [if_pos (by omega), if_pos rfl]; exact if_pos z
        · rw [if_neg y]
          by_cases x : k < c
          · rw [if_pos x, if_pos (by omega)]
          · rw [if_neg x, if_neg (by omega)]
      · refine br_t (nI_le (by omega) (by omega)) (nm_r (nI_1 c) (ih (c + 1) ds' (by omega) k0 (tb_c0 k1 (fun k hk => ?_)) k2))
        by_cases y : k = c
        · subst y; rw [if_pos (by omega), if_neg (by omega)]; exact if_neg z
        · by_cases x : k < c
          · rw [if_pos x, if_pos (by omega)]
          · rw [if_neg x, if_neg (by omega)]
  exact ⟨65, K 64 0 ds (by omega) hA (tb_c0 hB (fun k hk => if_neg (Nat.not_lt_zero k))) (tb_Fr q ds)⟩
/-! repeats, times -/
theorem xw_r {post : SX → Prop} {b : Nat} {A : Nat → Nat} (hb : b ≤ 9) (hA : tb_N ds b A 64) (h : ∀ ds', tb_N ds' b (tb_w A) 64 → tb_F b ds ds' → post (nT, eT, xlv, xpc, xqc, xcc, xec, mc, lw, rc, xla, xpr, xed, sN, sE, sL, sP, sD, pva, pwa, pam, pdi, plo, phi, ptk, pco, pex, tr, ds', ch, ar, rN, rM, s1, s2, s3, s4, s5)) : wpX_allowRepeats post (nT, eT, xlv, xpc, xqc, xcc, xec, mc, lw, rc, xla, xpr, xed, sN, sE, sL, sP, sD, pva, pwa, pam, pdi, plo, phi, ptk, pco, pex, tr, ds, ch, ar, rN, rM, s1, s2, s3, s4, s5) (nI (b * 64)) := by
  have K1 : ∀ (J : _) m, m < 8 → ∀ d c ds', c + d = 64 → (∀ ds', tb_N ds' b (tb_q A (64 * m + 64)) 64 → tb_F b ds ds' → J (nI (m + 1)) xla xpr xed sN sE sL sP sD pva pwa pam pdi plo phi ptk pco pex tr ds' ch ar rN rM s1 s2 s3 s4 s5) → tb_N ds' b (tb_q A (64 * m + c)) 64 → tb_F b ds ds' → wX_allowRepeats_10 post J (nI (b * 64)) (nI m) nT eT xlv xpc xqc xcc xec mc lw rc (d + 1) (nI c) xla xpr xed sN sE sL sP sD pva pwa pam pdi plo phi ptk pco pex tr ds' ch ar rN rM s1 s2 s3 s4 s5 := by
    intro J m hm d
    induction d with
    | zero =>
      intro c ds' hd hJ k1 k2
      have z : c = 64 := by omega
      subst z
      exact br_t (nI_le (a := 64) (by omega) (by omega)) (nm_r (nI_1 m) (hJ ds' k1 k2))
    | succ d ih =>
      intro c ds' hd hJ k1 k2
      obtain ⟨e1, e2⟩ := tg_d8 (c := c) (by omega)
      have q := tb_q_s A (m := m) (c := c) (by omega)
      generalize tb_q A (64 * m + c) = B at k1 q
      obtain ⟨a1, a2⟩ := k1 (c / 8 * 8 + m) (by omega)
      obtain ⟨b1, b2⟩ := k1 (8 * m + c % 8) (by omega)
      obtain ⟨c1, c2⟩ := k1 c (by omega)
      have e3 : nI (b * 64) + nI m * 8 + nI (c % 8) = nI (b * 64 + (8 * m + c % 8)) := by rw [tg_ia, Nat.mul_comm m 8]
      have w : vp_in (nI (b * 64 + c)) 704 := vp_in_nI (by omega) (by omega)
      refine br_f (nI_ge (b := 64) (by omega) (by decide)) ?_
      rw [e2, e1, tg_ia, e3, nI_add, nI_clamp (show b * 64 + (c / 8 * 8 + m) < 2 ^ 31 by omega), nI_clamp (show b * 64 + (8 * m + c % 8) < 2 ^ 31 by omega), nI_clamp (show b * 64 + c < 2 ^ 31 by omega), a1, b1, c1]
      refine ⟨by decide, vp_in_nI (by omega) (by omega), nm_e ⟨by decide, vp_in_nI (by omega) (by omega), nm_e ⟨w, ?_⟩⟩⟩
      rw [nI_add]
      by_cases z : B (c / 8 * 8 + m) + B (8 * m + c % 8) < B c
      · refine br_f (nI_ge z (by omega)) ⟨w, nm_e (nm_r (nI_1 c) (ih (c + 1) _ (by omega) hJ (tb_c0 (tb_u k1 (c := c) (v := B (c / 8 * 8 + m) + B (8 * m + c % 8)) (by omega)) (fun k hk => ?_)) (tb_Fu k2 (Nat.le_refl b))))⟩
        rw [q k]
        by_cases y : k = c
        · rw [if_pos y, if_pos y]; exact if_pos z
        · rw [if_neg y, if_neg y]
      · refine br_t (nI_le (by omega) (by omega)) (nm_r (nI_1 c) (ih (c + 1) ds' (by omega) hJ (tb_c0 k1 (fun k hk => ?_)) k2))
        rw [q k]
        by_cases y : k = c
        · rw [if_pos y, y]; exact if_neg z
        · rw [if_neg y]
  have K2 : ∀ d m ds', m + d = 8 → tb_N ds' b (tb_q A (64 * m)) 64 → tb_F b ds ds' → wX_allowRepeats_2 post (nI (b * 64)) nT eT xlv xpc xqc xcc xec mc lw rc (d + 1) (nI m) xla xpr xed sN sE sL sP sD pva pwa pam pdi plo phi ptk pco pex tr ds' ch ar rN rM s1 s2 s3 s4 s5 := by
    intro d
    induction d with
    | zero =>
      intro m ds' hd k1 k2
      have z : m = 8 := by omega
      subst z
      exact br_t (nI_le (a := 8) (by omega) (by omega)) (h ds' k1 k2)
    | succ d ih =>
      intro m ds' hd k1 k2
      exact br_f (nI_ge (b := 8) (by omega) (by decide)) ⟨65, K1 _ m (by omega) 64 0 ds' (by omega) (fun ds'' j1 j2 => ih (m + 1) ds'' (by omega) j1 j2) k1 k2⟩
  exact ⟨9, K2 8 0 ds (by omega) hA (tb_Fr b ds)⟩
theorem tb_z9 {ds : Nat → Int32} {b i : Nat} {A : Nat → Nat} (hi : i < 8) (h : tb_N ds b (fun k => if k / 8 = k % 8 ∧ k < 9 * i then 0 else A k) 64) : tb_N (upd ds (b * 64 + 9 * i) (nI 0)) b (fun k => if k / 8 = k % 8 ∧ k < 9 * (i + 1) then 0 else A k) 64 := by
  refine tb_c0 (tb_u h (c := 9 * i) (v := 0) (by omega)) (fun k hk => ?_)
  by_cases y : k = 9 * i
  · rw [if_pos y, if_pos (by omega)]
  · rw [if_neg y]
    by_cases x : k / 8 = k % 8 ∧ k < 9 * i
    · rw [if_pos x, if_pos (by omega)]
    · rw [if_neg x, if_neg (by omega)]
theorem xw_z {post : SX → Prop} {b : Nat} {A : Nat → Nat} (hb : b ≤ 9) (hA : tb_N ds b A 64) (h : ∀ ds', tb_N ds' b (tb_z A) 64 → tb_F b ds ds' → post (nT, eT, xlv, xpc, xqc, xcc, xec, mc, lw, rc, xla, xpr, xed, sN, sE, sL, sP, sD, pva, pwa, pam, pdi, plo, phi, ptk, pco, pex, tr, ds', ch, ar, rN, rM, s1, s2, s3, s4, s5)) : ∃ n, wX_measureTimes_19 post (nI (b * 64)) nT eT xlv xpc xqc xcc xec mc lw rc n 0 xla xpr xed sN sE sL sP sD pva pwa pam pdi plo phi ptk pco pex tr ds ch ar rN rM s1 s2 s3 s4 s5 := by
  have K : ∀ d i ds', i + d = 8 → tb_N ds' b (fun k => if k / 8 = k % 8 ∧ k < 9 * i then 0 else A k) 64 → tb_F b ds ds' → wX_measureTimes_19 post (nI (b * 64)) nT eT xlv xpc xqc xcc xec mc lw rc (d + 1) (nI i) xla xpr xed sN sE sL sP sD pva pwa pam pdi plo phi ptk pco pex tr ds' ch ar rN rM s1 s2 s3 s4 s5 := by
    intro d
    induction d with
    | zero =>
      intro i ds' hd k1 k2
      have z : i = 8 := by omega
      subst z
      refine br_t (nI_le (a := 8) (by omega) (by omega)) (h ds' (tb_c0 k1 (fun k hk => ?_)) k2)
      unfold tb_z
      by_cases x : k / 8 = k % 8
      · rw [if_pos x, if_pos (by omega)]
      · rw [if_neg x, if_neg (by omega)]
    | succ d ih =>
      intro i ds' hd k1 k2
      refine br_f (nI_ge (b := 8) (by omega) (by decide)) ?_
      rw [tg_ia, show i * 8 + i = 9 * i from by omega]
      exact ⟨vp_in_nI (by omega) (by omega), nm_r (tg_u (by omega)) (nm_r (nI_1 i) (ih (i + 1) _ (by omega) (tb_z9 (by omega) k1) (tb_Fu k2 (Nat.le_refl b))))⟩
  exact ⟨9, K 8 0 ds (by omega) (tb_c0 hA (fun k hk => if_neg (by omega))) (tb_Fr b ds)⟩
def tb_t (t : Nat) (A : Nat → Nat) : Nat → Nat := if t = 12 then tb_z (tb_w A) else if t = 13 then tb_w A else tb_z A
theorem xw_t {post : SX → Prop} {b t : Nat} {A : Nat → Nat} (hb : b ≤ 9) (ht : 12 ≤ t) (ht' : t ≤ 14) (hA : tb_N ds b A 64) (h : ∀ ds', tb_N ds' b (tb_t t A) 64 → tb_F b ds ds' → post (nT, eT, xlv, xpc, xqc, xcc, xec, mc, lw, rc, xla, xpr, xed, sN, sE, sL, sP, sD, pva, pwa, pam, pdi, plo, phi, ptk, pco, pex, tr, ds', ch, ar, rN, rM, s1, s2, s3, s4, s5)) : wpX_measureTimes post (nT, eT, xlv, xpc, xqc, xcc, xec, mc, lw, rc, xla, xpr, xed, sN, sE, sL, sP, sD, pva, pwa, pam, pdi, plo, phi, ptk, pco, pex, tr, ds, ch, ar, rN, rM, s1, s2, s3, s4, s5) (nI (b * 64)) (nI t) := by
  have ne : ∀ a, a < 100 → t ≠ a → ¬ nI t = nI a := fun a ha q e => q ((nI_eq (by omega) (by omega)).mp e)
  unfold wpX_measureTimes
  by_cases z : t = 14
  · subst z
    exact br_t rfl (br_f (by decide) (xw_z hb hA h))
  · refine br_f (ne 14 (by omega) z) (xw_r hb hA (fun ds' k1 k2 => ?_))
    by_cases y : t = 13
    · subst y
      exact br_t rfl (h ds' k1 k2)
    · have e : t = 12 := by omega
      subst e
      exact br_f (by decide) (xw_z hb k1 (fun ds'' j1 j2 => h ds'' j1 (tb_Ft k2 j2 (Nat.le_refl b))))
end
section
/-! the stack of tables that an expression leaves, read from its end -/
def ev_s (ed : Nat → Nat → Nat) (c ws : Nat → Nat) (n : Nat) : Nat → Nat → Nat → Nat
  | 0 => fun _ _ => 0
  | j + 1 => fun s =>
    if c (n - 1 - j) ≤ 5 then (if s = ws (n - j) then ed (c (n - 1 - j)) else ev_s ed c ws n j s)
    else if c (n - 1 - j) = 10 then (if s = ws (n - j) - 2 then tb_c (ev_s ed c ws n j (ws (n - j) - 1)) (ev_s ed c ws n j (ws (n - j) - 2)) else ev_s ed c ws n j s)
    else if c (n - 1 - j) = 11 then (if s = ws (n - j) - 2 then tb_m (ev_s ed c ws n j (ws (n - j) - 1)) (ev_s ed c ws n j (ws (n - j) - 2)) else ev_s ed c ws n j s)
    else (if s = ws (n - j) - 1 then tb_t (c (n - 1 - j)) (ev_s ed c ws n j (ws (n - j) - 1)) else ev_s ed c ws n j s)
def ev_k (ed : Nat → Nat → Nat) (c ws : Nat → Nat) (n k : Nat) : Nat → Nat → Nat := ev_s ed c ws n (n - k)
theorem ev_e {ed : Nat → Nat → Nat} {c ws : Nat → Nat} {n k : Nat} (hk : k < n) (s : Nat) : ev_k ed c ws n k s =
    if c k ≤ 5 then (if s = ws (k + 1) then ed (c k) else ev_k ed c ws n (k + 1) s)
    else if c k = 10 then (if s = ws (k + 1) - 2 then tb_c (ev_k ed c ws n (k + 1) (ws (k + 1) - 1)) (ev_k ed c ws n (k + 1) (ws (k + 1) - 2)) else ev_k ed c ws n (k + 1) s)
    else if c k = 11 then (if s = ws (k + 1) - 2 then tb_m (ev_k ed c ws n (k + 1) (ws (k + 1) - 1)) (ev_k ed c ws n (k + 1) (ws (k + 1) - 2)) else ev_k ed c ws n (k + 1) s)
    else (if s = ws (k + 1) - 1 then tb_t (c k) (ev_k ed c ws n (k + 1) (ws (k + 1) - 1)) else ev_k ed c ws n (k + 1) s) := by
  unfold ev_k
  obtain ⟨j, hj⟩ : ∃ j, n - k = j + 1 := ⟨n - k - 1, by omega⟩
  have e1 : n - 1 - j = k := by omega
  have e2 : n - j = k + 1 := by omega
  have e3 : n - (k + 1) = j := by omega
  rw [hj, e3]
  show (if c (n - 1 - j) ≤ 5 then (if s = ws (n - j) then ed (c (n - 1 - j)) else ev_s ed c ws n j s) else _) = _
  rw [e1, e2]
theorem ep_wb {c : Nat → Nat} {n : Nat} {ws : Nat → Nat} (h : ep_W c n ws) : ∀ d i, i + d = n → ws i ≤ d
  | 0, i, hi => by rw [show i = n from by omega, h.2.1]; exact Nat.le_refl 0
  | d + 1, i, hi => by
    have a := ep_wb h d (i + 1) (by omega)
    have b := (h.2.2 i (by omega)).2
    omega
def ev_I (ds : Nat → Int32) (d : Nat) (S : Nat → Nat → Nat) : Prop := ∀ s, s < d → tb_N ds s (S s) 64
theorem ev_l {ed : Nat → Nat → Nat} {c ws : Nat → Nat} {n k : Nat} {ds ds' : Nat → Int32} (hk : k < n) (h : ev_I ds (ws (k + 1)) (ev_k ed c ws n (k + 1))) (h5 : c k ≤ 5) (hw : ws k = ws (k + 1) + 1) (k1 : tb_N ds' (ws (k + 1)) (ed (c k)) 64) (k2 : tb_F (ws (k + 1)) ds ds') : ev_I ds' (ws k) (ev_k ed c ws n k) := fun s hs => by
  rw [ev_e hk, if_pos h5]
  by_cases z : s = ws (k + 1)
  · rw [if_pos z, z]; exact k1
  · rw [if_neg z]; exact tb_NF (h s (by omega)) k2 (by omega) (Nat.le_refl 64)
theorem ev_b {ed : Nat → Nat → Nat} {c ws : Nat → Nat} {n k : Nat} {ds ds' : Nat → Int32} (hk : k < n) (h : ev_I ds (ws (k + 1)) (ev_k ed c ws n (k + 1))) (h5 : c k = 10) (hw : ws (k + 1) = ws k + 1) (h0 : 0 < ws k) (k1 : tb_N ds' (ws k - 1) (tb_c (ev_k ed c ws n (k + 1) (ws k)) (ev_k ed c ws n (k + 1) (ws k - 1))) 64) (k2 : tb_F (ws k - 1) ds ds') : ev_I ds' (ws k) (ev_k ed c ws n k) := fun s hs => by
  rw [ev_e hk, if_neg (by omega), if_pos h5, hw, show ws k + 1 - 2 = ws k - 1 from by omega, show ws k + 1 - 1 = ws k from by omega]
  by_cases z : s = ws k - 1
  · rw [if_pos z, z]; exact k1
  · rw [if_neg z]; exact tb_NF (h s (by omega)) k2 (by omega) (Nat.le_refl 64)
theorem ev_m {ed : Nat → Nat → Nat} {c ws : Nat → Nat} {n k : Nat} {ds ds' : Nat → Int32} (hk : k < n) (h : ev_I ds (ws (k + 1)) (ev_k ed c ws n (k + 1))) (h5 : c k = 11) (hw : ws (k + 1) = ws k + 1) (h0 : 0 < ws k) (k1 : tb_N ds' (ws k - 1) (tb_m (ev_k ed c ws n (k + 1) (ws k)) (ev_k ed c ws n (k + 1) (ws k - 1))) 64) (k2 : tb_F (ws k - 1) ds ds') : ev_I ds' (ws k) (ev_k ed c ws n k) := fun s hs => by
  rw [ev_e hk, if_neg (by omega), if_neg (by omega), if_pos h5, hw, show ws k + 1 - 2 = ws k - 1 from by omega, show ws k + 1 - 1 = ws k from by omega]
  by_cases z : s = ws k - 1
  · rw [if_pos z, z]; exact k1
  · rw [if_neg z]; exact tb_NF (h s (by omega)) k2 (by omega) (Nat.le_refl 64)
theorem ev_t {ed : Nat → Nat → Nat} {c ws : Nat → Nat} {n k : Nat} {ds ds' : Nat → Int32} (hk : k < n) (h : ev_I ds (ws (k + 1)) (ev_k ed c ws n (k + 1))) (h5 : 12 ≤ c k) (hw : ws (k + 1) = ws k) (h0 : 0 < ws k) (k1 : tb_N ds' (ws k - 1) (tb_t (c k) (ev_k ed c ws n (k + 1) (ws k - 1))) 64) (k2 : tb_F (ws k - 1) ds ds') : ev_I ds' (ws k) (ev_k ed c ws n k) := fun s hs => by
  rw [ev_e hk, if_neg (by omega), if_neg (by omega), if_neg (by omega), hw]
  by_cases z : s = ws k - 1
  · rw [if_pos z, z]; exact k1
  · rw [if_neg z]; exact tb_NF (h s (by omega)) k2 (by omega) (Nat.le_refl 64)
theorem tg_p64 (a : Nat) : nI a * 64 = nI (a * 64) := pk_mul a 64
variable {nT : Int32} {eT : Int32} {xlv : Int32} {xpc : Int32} {xqc : Int32} {xcc : Int32} {xec : Int32} {mc : Int32} {lw : Int32} {rc : Int32} {xla : Nat → Int32} {xpr : Nat → Int64} {xed : Nat → Int32} {sN : Nat → Int32} {sE : Nat → Int32} {sL : Nat → Int32} {sP : Nat → Int64} {sD : Nat → Int32} {pva : Nat → Int32} {pwa : Nat → Int32} {pam : Nat → Int32} {pdi : Nat → Int32} {plo : Nat → Int32} {phi : Nat → Int32} {ptk : Nat → Int32} {pco : Nat → Int32} {pex : Nat → Int32} {tr : Nat → Int32} {ds : Nat → Int32} {ch : Nat → Int32} {ar : Nat → Int32} {rN : Nat → Int32} {rM : Nat → Int32} {s1 : Nat → Int32} {s2 : Nat → Int32} {s3 : Nat → Int32} {s4 : Nat → Int32} {s5 : Nat → Int32}
variable {ylv : Int32} {ypc : Int32} {yqc : Int32} {ycc : Int32} {yec : Int32} {yde : Int32} {yus : Int32} {ywe : Int32} {yfo : Int32} {yli : Int32} {yso : Int32} {ysu : Int64} {yla : Nat → Int32} {ypr : Nat → Int64} {yfr : Nat → Int32} {yto : Nat → Int32} {yty : Nat → Int32} {ywt : Nat → Int32} {yst : Nat → Int32} {ypa : Nat → Int32} {ysp : Nat → Int32} {ypl : Nat → Int32} {ycp : Nat → Int32} {ybo : Nat → Int32} {ytk : Nat → Int32} {yno : Nat → Int32} {ych : Nat → Int32} {yfa : Nat → Int32}
theorem xw_l {post : SX → Prop} {n : Nat} {c ws : Nat → Nat} (hn : n ≤ 10) (hc : ∀ k, k < n → pex k = nI (c k)) (hW : ep_W c n ws) (hR : gr_R nT eT xla xpr xed yla ypr yfr yto yty ywt)
    (h : ∀ ds', tb_N ds' 0 (ev_k (fun t => tb_ed eT yfr yto yty t 12) c ws n 0 0) 64 → post (nT, eT, xlv, xpc, xqc, xcc, xec, mc, lw, rc, xla, xpr, xed, sN, sE, sL, sP, sD, pva, pwa, pam, pdi, plo, phi, ptk, pco, pex, tr, ds', ch, ar, rN, rM, s1, s2, s3, s4, s5)) : ∀ i ds, i ≤ n → ev_I ds (ws i) (ev_k (fun t => tb_ed eT yfr yto yty t 12) c ws n i) → wX_measureWalks_9 post (i + 1) (nI (ws i)) (nI i + (-1)) nT eT xlv xpc xqc xcc xec mc lw rc xla xpr xed sN sE sL sP sD pva pwa pam pdi plo phi ptk pco pex tr ds ch ar rN rM s1 s2 s3 s4 s5 := by
  intro i
  induction i with
  | zero =>
    intro ds hi hs
    exact br_t (by decide) (h ds (hs 0 (by rw [hW.1]; omega)))
  | succ k ih =>
    intro ds hi hs
    have wb := ep_wb hW (n - (k + 1)) (k + 1) (by omega)
    have ck := hc k (by omega)
    rw [pk_m1]
    have ct : c k ≤ 14 := by have := (hW.2.2 k (by omega)).2; omega
    have ne : ∀ a, a < 100 → c k ≠ a → ¬ nI (c k) = nI a := fun a ha q e => q ((nI_eq (by omega) (by omega)).mp e)
    refine br_f (nI_pos (by omega)) ⟨vp_in_nI (by omega) (by omega), nm_r (show _ = nI (c k) from by rw [nI_clamp (by omega), ck]) ?_⟩
    obtain ⟨w0, q⟩ := hW.2.2 k (by omega)
    rcases q with ⟨h5, hw⟩ | ⟨h5, hw⟩ | ⟨h5, h6, hw⟩
    · refine br_f (nI_nlt (b := c k) (a := 5) h5 (by omega)) ?_
      rw [tg_p64]
      refine xw_e2 (by omega) h5 hR (fun ds' k1 k2 => nm_r (show _ = nI (ws k) from ?_) (nm_e (ih ds' (by omega) (ev_l (by omega) hs h5 (by omega) k1 k2))))
      rw [nI_1]; exact congrArg nI (by omega)
    · have e1 : nI (ws (k + 1)) + (-1) = nI (ws k) := by rw [hw, pk_m1]
      have e2 : nI (ws k) - 1 = nI (ws k - 1) := pk_sub (b := 1) (by omega)
      refine br_t (nI_lt (a := 5) (by omega) (by omega)) ?_
      rcases h5 with h5 | h5
      · refine br_t (by rw [h5]; rfl) (nm_r e1 (br_t (by rw [h5]; rfl) ?_))
        rw [e2, tg_p64, tg_p64]
        exact xw_b (by omega) (by omega) (hs (ws k) (by omega)) (hs (ws k - 1) (by omega)) (fun ds' k1 k2 => nm_e (ih ds' (by omega) (ev_b (by omega) hs h5 hw w0 k1 k2)))
      · refine br_f (ne 10 (by omega) (by omega)) (br_t (by rw [h5]; rfl) (nm_r e1 (br_f (ne 10 (by omega) (by omega)) ?_)))
        rw [e2, tg_p64, tg_p64]
        exact xw_m (by omega) (by omega) (hs (ws k) (by omega)) (hs (ws k - 1) (by omega)) (fun ds' k1 k2 => nm_e (ih ds' (by omega) (ev_m (by omega) hs h5 hw w0 k1 k2)))
    · have e2 : nI (ws (k + 1)) - 1 = nI (ws k - 1) := by rw [hw]; exact pk_sub (b := 1) (by omega)
      refine br_t (nI_lt (a := 5) (by omega) (by omega)) (br_f (ne 10 (by omega) (by omega)) (br_f (ne 11 (by omega) (by omega)) ?_))
      rw [e2, tg_p64]
      refine xw_t (by omega) h5 h6 (hs (ws k - 1) (by omega)) (fun ds' k1 k2 => nm_e ?_)
      rw [hw]
      exact ih ds' (by omega) (ev_t (by omega) hs h5 hw w0 k1 k2)
theorem xw_w {post : SX → Prop} {n : Nat} {c ws : Nat → Nat} (hn : n ≤ 10) (hc : ∀ k, k < n → pex k = nI (c k)) (hW : ep_W c n ws) (hR : gr_R nT eT xla xpr xed yla ypr yfr yto yty ywt)
    (h : ∀ ds', tb_N ds' 0 (ev_k (fun t => tb_ed eT yfr yto yty t 12) c ws n 0 0) 64 → post (nT, eT, xlv, xpc, xqc, xcc, (nI n), mc, lw, rc, xla, xpr, xed, sN, sE, sL, sP, sD, pva, pwa, pam, pdi, plo, phi, ptk, pco, pex, tr, ds', ch, ar, rN, rM, s1, s2, s3, s4, s5)) : wpX_measureWalks post (nT, eT, xlv, xpc, xqc, xcc, (nI n), mc, lw, rc, xla, xpr, xed, sN, sE, sL, sP, sD, pva, pwa, pam, pdi, plo, phi, ptk, pco, pex, tr, ds, ch, ar, rN, rM, s1, s2, s3, s4, s5) := by
  have K := xw_l (xec := nI n) (nT := nT) (xla := xla) (xpr := xpr) (xed := xed) hn hc hW hR h n ds (Nat.le_refl n) (fun s hs => absurd hs (by rw [hW.2.1]; exact Nat.not_lt_zero s))
  refine nm_r (Int32.sub_eq_add_neg (nI n) 1) ⟨n + 1, ?_⟩
  rw [hW.2.1] at K
  exact K
end
section
/-! Y's table operations -/
theorem tg_ib {b i m : Nat} : nI (b * 64) + 8 * nI i + nI m = nI (b * 64 + (8 * i + m)) := by
  have e : 8 * nI i = nI (8 * i) := pk_mul 8 i
  rw [e, nI_add, nI_add, Nat.add_assoc]
theorem tg_ic {b i m : Nat} : nI (b * 64) + (8 * nI i + nI m) = nI (b * 64 + (8 * i + m)) := by
  have e : 8 * nI i = nI (8 * i) := pk_mul 8 i
  rw [e, nI_add, nI_add]
variable {nT : Int32} {eT : Int32} {xlv : Int32} {xpc : Int32} {xqc : Int32} {xcc : Int32} {xec : Int32} {mc : Int32} {lw : Int32} {rc : Int32} {xla : Nat → Int32} {xpr : Nat → Int64} {xed : Nat → Int32} {sN : Nat → Int32} {sE : Nat → Int32} {sL : Nat → Int32} {sP : Nat → Int64} {sD : Nat → Int32} {pva : Nat → Int32} {pwa : Nat → Int32} {pam : Nat → Int32} {pdi : Nat → Int32} {plo : Nat → Int32} {phi : Nat → Int32} {ptk : Nat → Int32} {pco : Nat → Int32} {pex : Nat → Int32} {tr : Nat → Int32} {ds : Nat → Int32} {ch : Nat → Int32} {ar : Nat → Int32} {rN : Nat → Int32} {rM : Nat → Int32} {s1 : Nat → Int32} {s2 : Nat → Int32} {s3 : Nat → Int32} {s4 : Nat → Int32} {s5 : Nat → Int32}
variable {ylv : Int32} {ypc : Int32} {yqc : Int32} {ycc : Int32} {yec : Int32} {yde : Int32} {yus : Int32} {ywe : Int32} {yfo : Int32} {yli : Int32} {yso : Int32} {ysu : Int64} {yla : Nat → Int32} {ypr : Nat → Int64} {yfr : Nat → Int32} {yto : Nat → Int32} {yty : Nat → Int32} {ywt : Nat → Int32} {yst : Nat → Int32} {ypa : Nat → Int32} {ysp : Nat → Int32} {ypl : Nat → Int32} {ycp : Nat → Int32} {ybo : Nat → Int32} {ytk : Nat → Int32} {yno : Nat → Int32} {ych : Nat → Int32} {yfa : Nat → Int32}
theorem yw_e26 {post : SY → Prop} {b t : Nat} (hb : b ≤ 9) (ht : t ≤ 5) (hR : gr_R nT eT xla xpr xed yla ypr yfr yto yty ywt) (h : ∀ ds', tb_N ds' b (tb_ed eT yfr yto yty t 12) 64 → tb_F b yfa ds' → post (ylv, ypc, yqc, ycc, yec, yde, yus, ywe, yfo, yli, yso, ysu, yla, ypr, yfr, yto, yty, ywt, pva, pwa, pam, pdi, plo, phi, ptk, pco, pex, yst, ypa, ysp, ypl, ycp, ybo, ytk, yno, ych, ds')) : ∀ d e ds', e + d = 12 → tb_N ds' b (tb_ed eT yfr yto yty t e) 64 → tb_F b yfa ds' → wY_edgeTable_26 post (nI (b * 64)) (nI t) ylv ypc yqc ycc yec yde yus ywe yfo yli yso ysu (d + 1) (nI e) yla ypr yfr yto yty ywt pva pwa pam pdi plo phi ptk pco pex yst ypa ysp ypl ycp ybo ytk yno ych ds' := by
  intro d
  induction d with
  | zero =>
    intro e ds' hd k1 k2
    have q : e = 12 := by omega
    subst q
    exact br_t (nI_le (a := 12) (by omega) (by omega)) (h ds' k1 k2)
  | succ d ih =>
    intro e ds' hd k1 k2
    have w : vp_in (nI e) 60 := vp_in_nI (by omega) (by omega)
    have c0 : (nI e).toNatClampNeg = e := nI_clamp (by omega)
    have skip : ¬ (bt eT e = true ∧ yty e = nI (t % 3)) → wY_edgeTable_26 post (nI (b * 64)) (nI t) ylv ypc yqc ycc yec yde yus ywe yfo yli yso ysu (d + 1) (nI (e + 1)) yla ypr yfr yto yty ywt pva pwa pam pdi plo phi ptk pco pex yst ypa ysp ypl ycp ybo ytk yno ych ds' := fun q =>
      ih (e + 1) ds' (by omega) (tb_c0 k1 (fun k _ => tb_ed_f q k)) k2
    refine br_f (nI_ge (b := 12) (by omega) (by decide)) (tg_yie (by omega) hR (tg_zbr (fun q => nm_r (nI_1 e) (skip (fun q' => by rw [q] at q'; exact absurd q'.1 (by decide)))) (fun q => ⟨w, ?_⟩)))
    have e3 : nI t - nI t / 3 * 3 = nI (t % 3) := pk_rem (d := 3) (by omega) (by omega) (by omega)
    rw [c0, e3]
    refine ⟨by decide, br_c (fun ty => ?_) (fun ty => nm_r (nI_1 e) (skip (fun q' => ty q'.2)))⟩
    rcases hR.2.2.2 e (by omega) with ⟨_, f, t', y, w', hf, ht', _, _, _, _, _, e1, e2, _, _⟩ | ⟨a, _⟩
    · have go : ∀ x : Nat, x = tb_ix yfr yto t e → x < 64 → wY_edgeTable_26 post (nI (b * 64)) (nI t) ylv ypc yqc ycc yec yde yus ywe yfo yli yso ysu (d + 1) (nI (e + 1)) yla ypr yfr yto yty ywt pva pwa pam pdi plo phi ptk pco pex yst ypa ysp ypl ycp ybo ytk yno ych (upd ds' (b * 64 + x) (nI 1)) := fun x hx hl =>
        ih (e + 1) _ (by omega) (tb_c0 (tb_u k1 (v := 1) (c := x) (by omega)) (fun k _ => by rw [tb_ed_t ⟨q, ty⟩, ← hx])) (tb_Fu k2 (Nat.le_refl b))
      have cf : (yfr e).toNatClampNeg = f := by rw [e1, nI_clamp (by omega)]
      have ct : (yto e).toNatClampNeg = t' := by rw [e2, nI_clamp (by omega)]
      rw [e1, e2]
      by_cases z : t < 3
      · refine br_f (nI_ge (b := 3) z (by omega)) ⟨w, w, ?_⟩
        rw [tg_ic]
        exact ⟨vp_in_nI (by omega) (by omega), nm_r (tg_u (by omega)) (nm_r (nI_1 e) (go (8 * f + t') (by unfold tb_ix; rw [if_pos z, cf, ct]) (by omega)))⟩
      · refine br_t (nI_le (a := 3) (by omega) (by omega)) ⟨w, w, ?_⟩
        rw [tg_ic]
        exact ⟨vp_in_nI (by omega) (by omega), nm_r (tg_u (by omega)) (nm_r (nI_1 e) (go (8 * t' + f) (by unfold tb_ix; rw [if_neg z, cf, ct]) (by omega)))⟩
    · rw [a] at q; exact absurd q (by decide)
theorem yw_e2 {post : SY → Prop} {b t : Nat} (hb : b ≤ 9) (ht : t ≤ 5) (hR : gr_R nT eT xla xpr xed yla ypr yfr yto yty ywt) (h : ∀ ds', tb_N ds' b (tb_ed eT yfr yto yty t 12) 64 → tb_F b yfa ds' → post (ylv, ypc, yqc, ycc, yec, yde, yus, ywe, yfo, yli, yso, ysu, yla, ypr, yfr, yto, yty, ywt, pva, pwa, pam, pdi, plo, phi, ptk, pco, pex, yst, ypa, ysp, ypl, ycp, ybo, ytk, yno, ych, ds')) : wpY_edgeTable post (ylv, ypc, yqc, ycc, yec, yde, yus, ywe, yfo, yli, yso, ysu, yla, ypr, yfr, yto, yty, ywt, pva, pwa, pam, pdi, plo, phi, ptk, pco, pex, yst, ypa, ysp, ypl, ycp, ybo, ytk, yno, ych, yfa) (nI (b * 64)) (nI t) := by
  have K : ∀ d c ds', c + d = 64 → tb_N ds' b (fun _ => 1000000) c → tb_F b yfa ds' → wY_edgeTable_2 post (nI (b * 64)) (nI t) ylv ypc yqc ycc yec yde yus ywe yfo yli yso ysu (d + 1) (nI c) yla ypr yfr yto yty ywt pva pwa pam pdi plo phi ptk pco pex yst ypa ysp ypl ycp ybo ytk yno ych ds' := by
    intro d
    induction d with
    | zero =>
      intro c ds' hd k1 k2
      have q : c = 64 := by omega
      subst q
      refine br_t (nI_le (a := 64) (by omega) (by omega)) ⟨13, yw_e26 hb ht hR (fun ds'' j1 j2 => h ds'' j1 (tb_Ft k2 j2 (Nat.le_refl b))) 12 0 ds' (by omega) k1 (tb_Fr b ds')⟩
    | succ d ih =>
      intro c ds' hd k1 k2
      refine br_f (nI_ge (b := 64) (by omega) (by decide)) ?_
      rw [nI_add]
      exact ⟨vp_in_nI (by omega) (by omega), nm_r (tg_u (by omega)) (nm_r (nI_1 c) (ih (c + 1) _ (by omega) (tb_s k1 rfl (by omega)) (tb_Fu k2 (Nat.le_refl b))))⟩
  exact ⟨65, K 64 0 yfa (by omega) (fun k hk => absurd hk (Nat.not_lt_zero k)) (tb_Fr b yfa)⟩
/-! compose, into table 10 -/
theorem yw_c17 {post : SY → Prop} {J : _} {p q c : Nat} {A B : Nat → Nat} (hp : p ≤ 9) (hq : q ≤ 9) (hc : c < 64) {ds' : Nat → Int32} (hA : tb_N ds' p A 64) (hB : tb_N ds' q B 64) (hJ : J (nI (c + 1)) yla ypr yfr yto yty ywt pva pwa pam pdi plo phi ptk pco pex yst ypa ysp ypl ycp ybo ytk yno ych (upd ds' (10 * 64 + c) (nI (tb_c A B c)))) : ∀ d m, m + d = 8 → wY_compose_17 post J (nI (p * 64)) (nI (q * 64)) (nI (10 * 64)) (nI c) ylv ypc yqc ycc yec yde yus ywe yfo yli yso ysu yla ypr yfr yto yty ywt pva pwa pam pdi plo phi ptk pco pex yst ypa ysp ypl ycp ybo ytk yno ych ds' (d + 1) (nI (tb_c1 A B c m)) (nI m) := by
  intro d
  induction d with
  | zero =>
    intro m hm
    have z : m = 8 := by omega
    subst z
    refine br_t (nI_le (a := 8) (by omega) (by omega)) ?_
    rw [nI_add]
    exact ⟨vp_in_nI (by omega) (by omega), nm_r (tg_u (by omega)) (nm_r (nI_1 c) hJ)⟩
  | succ d ih =>
    intro m hm
    obtain ⟨a1, a2⟩ := hA (c / 8 * 8 + m) (by omega)
    obtain ⟨b1, b2⟩ := hB (8 * m + c % 8) (by omega)
    obtain ⟨e1, e2⟩ := tg_d8 (c := c) (by omega)
    have l1 := tb_c1_le A B c m
    refine br_f (nI_ge (b := 8) (by omega) (by decide)) ?_
    rw [e2, e1, tg_ia, tg_ib, nI_clamp (show p * 64 + (c / 8 * 8 + m) < 2 ^ 31 by omega), nI_clamp (show q * 64 + (8 * m + c % 8) < 2 ^ 31 by omega), a1, b1, nI_add]
    have nx := ih (m + 1) (by omega)
    refine ⟨by decide, vp_in_nI (by omega) (by omega), by decide, vp_in_nI (by omega) (by omega), nm_e ?_⟩
    by_cases z : A (c / 8 * 8 + m) + B (8 * m + c % 8) < tb_c1 A B c m
    · rw [show tb_c1 A B c (m + 1) = A (c / 8 * 8 + m) + B (8 * m + c % 8) from if_pos z] at nx
      exact br_f (nI_ge z (by omega)) (nm_r (nI_1 m) nx)
    · rw [show tb_c1 A B c (m + 1) = tb_c1 A B c m from if_neg z] at nx
      exact br_t (nI_le (by omega) (by omega)) (nm_r (nI_1 m) nx)
theorem yw_c {post : SY → Prop} {p q : Nat} {A B : Nat → Nat} (hp : p ≤ 9) (hq : q ≤ 9) (hA : tb_N yfa p A 64) (hB : tb_N yfa q B 64) (h : ∀ ds', tb_N ds' 10 (tb_c A B) 64 → tb_F 10 yfa ds' → post (ylv, ypc, yqc, ycc, yec, yde, yus, ywe, yfo, yli, yso, ysu, yla, ypr, yfr, yto, yty, ywt, pva, pwa, pam, pdi, plo, phi, ptk, pco, pex, yst, ypa, ysp, ypl, ycp, ybo, ytk, yno, ych, ds')) : wpY_compose post (ylv, ypc, yqc, ycc, yec, yde, yus, ywe, yfo, yli, yso, ysu, yla, ypr, yfr, yto, yty, ywt, pva, pwa, pam, pdi, plo, phi, ptk, pco, pex, yst, ypa, ysp, ypl, ycp, ybo, ytk, yno, ych, yfa) (nI (p * 64)) (nI (q * 64)) (nI (10 * 64)) := by
  have K : ∀ d c ds', c + d = 64 → tb_N ds' 10 (tb_c A B) c → tb_F 10 yfa ds' → wY_compose_3 post (nI (p * 64)) (nI (q * 64)) (nI (10 * 64)) ylv ypc yqc ycc yec yde yus ywe yfo yli yso ysu (d + 1) (nI c) yla ypr yfr yto yty ywt pva pwa pam pdi plo phi ptk pco pex yst ypa ysp ypl ycp ybo ytk yno ych ds' := by
    intro d
    induction d with
    | zero =>
      intro c ds' hd k1 k2
      have z : c = 64 := by omega
      subst z
      exact br_t (nI_le (a := 64) (by omega) (by omega)) (h ds' k1 k2)
    | succ d ih =>
      intro c ds' hd k1 k2
      exact br_f (nI_ge (b := 64) (by omega) (by decide)) ⟨9, yw_c17 hp hq (by omega) (tb_NF hA k2 (by omega) (Nat.le_refl 64)) (tb_NF hB k2 (by omega) (Nat.le_refl 64)) (ih (c + 1) _ (by omega) (tb_s k1 rfl (tb_c1_le A B c 8)) (tb_Fu k2 (Nat.le_refl _))) 8 0 (by omega)⟩
  exact ⟨65, K 64 0 yfa (by omega) (fun k hk => absurd hk (Nat.not_lt_zero k)) (tb_Fr _ yfa)⟩
/-! repeat -/
theorem tg_rq {q : Nat} (hq : q < 512) : nI q / 64 = nI (q / 64) ∧ (nI (q / 8) - nI (q / 8) / 8 * 8) = nI (q / 8 % 8) := ⟨pk_div (d := 64) (by omega) (by omega) (by omega), pk_rem (d := 8) (by omega) (by omega) (by omega)⟩
theorem yw_r28 {post : SY → Prop} {b : Nat} {A : Nat → Nat} (hb : b ≤ 9) (h : ∀ ds', tb_N ds' b (tb_w A) 64 → tb_F b yfa ds' → post (ylv, ypc, yqc, ycc, yec, yde, yus, ywe, yfo, yli, yso, ysu, yla, ypr, yfr, yto, yty, ywt, pva, pwa, pam, pdi, plo, phi, ptk, pco, pex, yst, ypa, ysp, ypl, ycp, ybo, ytk, yno, ych, ds')) : ∀ d q ds', q + d = 512 → tb_N ds' b (tb_q A q) 64 → tb_F b yfa ds' → wY_repeat_28 post (nI (b * 64)) ylv ypc yqc ycc yec yde yus ywe yfo yli yso ysu (d + 1) (nI q) yla ypr yfr yto yty ywt pva pwa pam pdi plo phi ptk pco pex yst ypa ysp ypl ycp ybo ytk yno ych ds' := by
  intro d
  induction d with
  | zero =>
    intro q ds' hd k1 k2
    have z : q = 512 := by omega
    subst z
    exact br_t (nI_le (a := 512) (by omega) (by omega)) (h ds' k1 k2)
  | succ d ih =>
    intro q ds' hd k1 k2
    obtain ⟨e1, e2⟩ := tg_d8 (c := q) (by omega)
    obtain ⟨e3, e4⟩ := tg_rq (q := q) (by omega)
    have qs : ∀ k, tb_q A (q + 1) k = if k = q % 64 then tb_p (tb_q A q) (q / 64) (q % 64) else tb_q A q k := fun k => rfl
    generalize tb_q A q = B at k1 qs
    obtain ⟨a1, a2⟩ := k1 (q / 8 % 8 * 8 + q / 64) (by omega)
    obtain ⟨b1, b2⟩ := k1 (8 * (q / 64) + q % 8) (by omega)
    obtain ⟨c1, c2⟩ := k1 (q % 64) (by omega)
    have i1 : q % 64 / 8 * 8 = q / 8 % 8 * 8 := by omega
    have i2 : q % 64 % 8 = q % 8 := by omega
    have e5 : nI (q / 8 % 8) * 8 = nI (q / 8 % 8 * 8) := pk_mul _ 8
    have e6 : nI (b * 64 + q / 8 % 8 * 8) + nI (q % 8) = nI (b * 64 + q % 64) := by rw [nI_add]; exact congrArg nI (by omega)
    have w : vp_in (nI (b * 64 + q % 64)) 704 := vp_in_nI (by omega) (by omega)
    refine br_f (nI_ge (b := 512) (by omega) (by decide)) ⟨by decide, by decide, nm_r (show _ = nI (b * 64 + q / 8 % 8 * 8) from by rw [e1, e4, e5, nI_add]) ⟨by decide, nm_r e3 ?_⟩⟩
    rw [e2, e6, nI_add, tg_ib, nI_clamp (show b * 64 + q / 8 % 8 * 8 + q / 64 < 2 ^ 31 by omega), nI_clamp (show b * 64 + (8 * (q / 64) + q % 8) < 2 ^ 31 by omega), nI_clamp (show b * 64 + q % 64 < 2 ^ 31 by omega), Nat.add_assoc, a1, b1, c1, nI_add]
    refine ⟨vp_in_nI (by omega) (by omega), by decide, vp_in_nI (by omega) (by omega), nm_e ⟨by decide, w, ?_⟩⟩
    by_cases z : B (q / 8 % 8 * 8 + q / 64) + B (8 * (q / 64) + q % 8) < B (q % 64)
    · refine br_f (nI_ge z (by omega)) ⟨by decide, w, nm_e (nm_r (nI_1 q) (ih (q + 1) _ (by omega) (tb_c0 (tb_u k1 (c := q % 64) (v := B (q / 8 % 8 * 8 + q / 64) + B (8 * (q / 64) + q % 8)) (by omega)) (fun k hk => ?_)) (tb_Fu k2 (Nat.le_refl b))))⟩
      rw [qs k]
      by_cases y : k = q % 64
      · rw [if_pos y, if_pos y]; unfold tb_p; rw [i1, i2]; exact if_pos z
      · rw [if_neg y, if_neg y]
    · refine br_t (nI_le (by omega) (by omega)) (nm_r (nI_1 q) (ih (q + 1) ds' (by omega) (tb_c0 k1 (fun k hk => ?_)) k2))
      rw [qs k]
      by_cases y : k = q % 64
      · rw [if_pos y, y]; unfold tb_p; rw [i1, i2]; exact if_neg z
      · rw [if_neg y]
theorem yw_r {post : SY → Prop} {b : Nat} {A : Nat → Nat} (hb : b ≤ 9) (hA : tb_N yfa b A 64) (h : ∀ ds', tb_N ds' b (tb_w (tb_z A)) 64 → tb_F b yfa ds' → post (ylv, ypc, yqc, ycc, yec, yde, yus, ywe, yfo, yli, yso, ysu, yla, ypr, yfr, yto, yty, ywt, pva, pwa, pam, pdi, plo, phi, ptk, pco, pex, yst, ypa, ysp, ypl, ycp, ybo, ytk, yno, ych, ds')) : wpY_repeat post (ylv, ypc, yqc, ycc, yec, yde, yus, ywe, yfo, yli, yso, ysu, yla, ypr, yfr, yto, yty, ywt, pva, pwa, pam, pdi, plo, phi, ptk, pco, pex, yst, ypa, ysp, ypl, ycp, ybo, ytk, yno, ych, yfa) (nI (b * 64)) := by
  have K : ∀ d i ds', i + d = 8 → tb_N ds' b (fun k => if k / 8 = k % 8 ∧ k < 9 * i then 0 else A k) 64 → tb_F b yfa ds' → wY_repeat_2 post (nI (b * 64)) ylv ypc yqc ycc yec yde yus ywe yfo yli yso ysu (d + 1) (nI i) yla ypr yfr yto yty ywt pva pwa pam pdi plo phi ptk pco pex yst ypa ysp ypl ycp ybo ytk yno ych ds' := by
    intro d
    induction d with
    | zero =>
      intro i ds' hd k1 k2
      have z : i = 8 := by omega
      subst z
      refine br_t (nI_le (a := 8) (by omega) (by omega)) ⟨513, yw_r28 hb (fun ds'' j1 j2 => h ds'' j1 (tb_Ft k2 j2 (Nat.le_refl b))) 512 0 ds' (by omega) (tb_c0 k1 (fun k hk => ?_)) (tb_Fr b ds')⟩
      show tb_z A k = _
      unfold tb_z
      by_cases x : k / 8 = k % 8
      · rw [if_pos x, if_pos (by omega)]
      · rw [if_neg x, if_neg (by omega)]
    | succ d ih =>
      intro i ds' hd k1 k2
      have e : 9 * nI i = nI (9 * i) := pk_mul 9 i
      refine br_f (nI_ge (b := 8) (by omega) (by decide)) ?_
      rw [e, nI_add]
      exact ⟨vp_in_nI (by omega) (by omega), nm_r (tg_u (by omega)) (nm_r (nI_1 i) (ih (i + 1) _ (by omega) (tb_z9 (by omega) k1) (tb_Fu k2 (Nat.le_refl b))))⟩
  exact ⟨9, K 8 0 yfa (by omega) (tb_c0 hA (fun k hk => if_neg (by omega))) (tb_Fr b yfa)⟩
end
section
/-! spellOut -/
variable {nT : Int32} {eT : Int32} {xlv : Int32} {xpc : Int32} {xqc : Int32} {xcc : Int32} {xec : Int32} {mc : Int32} {lw : Int32} {rc : Int32} {xla : Nat → Int32} {xpr : Nat → Int64} {xed : Nat → Int32} {sN : Nat → Int32} {sE : Nat → Int32} {sL : Nat → Int32} {sP : Nat → Int64} {sD : Nat → Int32} {pva : Nat → Int32} {pwa : Nat → Int32} {pam : Nat → Int32} {pdi : Nat → Int32} {plo : Nat → Int32} {phi : Nat → Int32} {ptk : Nat → Int32} {pco : Nat → Int32} {pex : Nat → Int32} {tr : Nat → Int32} {ds : Nat → Int32} {ch : Nat → Int32} {ar : Nat → Int32} {rN : Nat → Int32} {rM : Nat → Int32} {s1 : Nat → Int32} {s2 : Nat → Int32} {s3 : Nat → Int32} {s4 : Nat → Int32} {s5 : Nat → Int32}
variable {ylv : Int32} {ypc : Int32} {yqc : Int32} {ycc : Int32} {yec : Int32} {yde : Int32} {yus : Int32} {ywe : Int32} {yfo : Int32} {yli : Int32} {yso : Int32} {ysu : Int64} {yla : Nat → Int32} {ypr : Nat → Int64} {yfr : Nat → Int32} {yto : Nat → Int32} {yty : Nat → Int32} {ywt : Nat → Int32} {yst : Nat → Int32} {ypa : Nat → Int32} {ysp : Nat → Int32} {ypl : Nat → Int32} {ycp : Nat → Int32} {ybo : Nat → Int32} {ytk : Nat → Int32} {yno : Nat → Int32} {ych : Nat → Int32} {yfa : Nat → Int32}
theorem yw_294 {post : SY → Prop} {J : _} {x1 x2 : Int32} {b : Nat} {A : Nat → Nat} (hb : b ≤ 9) (h : ∀ ds', tb_N ds' b A 64 → tb_F b yfa ds' → J x1 (x2 + (-1)) ylv ypc yqc ycc yec yde yus ywe yfo yli yso ysu yla ypr yfr yto yty ywt pva pwa pam pdi plo phi ptk pco pex yst ypa ysp ypl ycp ybo ytk yno ych ds') (hA : tb_N yfa 10 A 64) : ∃ f, wY_spellOut_294 post J x1 x2 (nI (b * 64)) ylv ypc yqc ycc yec yde yus ywe yfo yli yso ysu f 0 yla ypr yfr yto yty ywt pva pwa pam pdi plo phi ptk pco pex yst ypa ysp ypl ycp ybo ytk yno ych yfa := by
  have K : ∀ d c ds', c + d = 64 → tb_N ds' 10 A 64 → tb_N ds' b A c → tb_F b yfa ds' → wY_spellOut_294 post J x1 x2 (nI (b * 64)) ylv ypc yqc ycc yec yde yus ywe yfo yli yso ysu (d + 1) (nI c) yla ypr yfr yto yty ywt pva pwa pam pdi plo phi ptk pco pex yst ypa ysp ypl ycp ybo ytk yno ych ds' := by
    intro d
    induction d with
    | zero =>
      intro c ds' hd k0 k1 k2
      have z : c = 64 := by omega
      subst z
      exact br_t (nI_le (a := 64) (by omega) (by omega)) (nm_e (h ds' k1 k2))
    | succ d ih =>
      intro c ds' hd k0 k1 k2
      obtain ⟨a1, a2⟩ := k0 c (by omega)
      have e : 640 + nI c = nI (10 * 64 + c) := nI_add 640 c
      refine br_f (nI_ge (b := 64) (by omega) (by decide)) ?_
      rw [e, nI_add, nI_clamp (show 10 * 64 + c < 2 ^ 31 by omega)]
      exact ⟨vp_in_nI (by omega) (by omega), vp_in_nI (by omega) (by omega), nm_r (tg_u (by omega)) (nm_r (nI_1 c) (ih (c + 1) _ (by omega) (tb_o k0 (by omega) (by omega) (by omega)) (tb_s k1 a1 a2) (tb_Fu k2 (Nat.le_refl b))))⟩
  exact ⟨65, K 64 0 yfa (by omega) hA (fun k hk => absurd hk (Nat.not_lt_zero k)) (tb_Fr b yfa)⟩
theorem yw_70 {post : SY → Prop} {J : _} {x1 x2 : Int32} {b : Nat} {A : Nat → Nat} (hb : b ≤ 9) (h : ∀ ds', tb_N ds' b A 64 → tb_F b yfa ds' → J x1 (x2 + (-1)) ylv ypc yqc ycc yec yde yus ywe yfo yli yso ysu yla ypr yfr yto yty ywt pva pwa pam pdi plo phi ptk pco pex yst ypa ysp ypl ycp ybo ytk yno ych ds') (hA : tb_N yfa 10 A 64) : ∃ f, wY_spellOut_70 post J x1 x2 (nI ((b + 1) * 64)) ylv ypc yqc ycc yec yde yus ywe yfo yli yso ysu f 0 yla ypr yfr yto yty ywt pva pwa pam pdi plo phi ptk pco pex yst ypa ysp ypl ycp ybo ytk yno ych yfa := by
  have e0 : nI ((b + 1) * 64) - 64 = nI (b * 64) := by
    have := pk_sub (a := (b + 1) * 64) (b := 64) (by omega)
    rw [show (b + 1) * 64 - 64 = b * 64 from by omega] at this
    exact this
  have K : ∀ d c ds', c + d = 64 → tb_N ds' 10 A 64 → tb_N ds' b A c → tb_F b yfa ds' → wY_spellOut_70 post J x1 x2 (nI ((b + 1) * 64)) ylv ypc yqc ycc yec yde yus ywe yfo yli yso ysu (d + 1) (nI c) yla ypr yfr yto yty ywt pva pwa pam pdi plo phi ptk pco pex yst ypa ysp ypl ycp ybo ytk yno ych ds' := by
    intro d
    induction d with
    | zero =>
      intro c ds' hd k0 k1 k2
      have z : c = 64 := by omega
      subst z
      exact br_t (nI_le (a := 64) (by omega) (by omega)) (nm_e (h ds' k1 k2))
    | succ d ih =>
      intro c ds' hd k0 k1 k2
      obtain ⟨a1, a2⟩ := k0 c (by omega)
      have e : 640 + nI c = nI (10 * 64 + c) := nI_add 640 c
      refine br_f (nI_ge (b := 64) (by omega) (by decide)) ?_
      rw [e, e0, nI_add, nI_clamp (show 10 * 64 + c < 2 ^ 31 by omega)]
      exact ⟨vp_in_nI (by omega) (by omega), vp_in_nI (by omega) (by omega), nm_r (tg_u (by omega)) (nm_r (nI_1 c) (ih (c + 1) _ (by omega) (tb_o k0 (by omega) (by omega) (by omega)) (tb_s k1 a1 a2) (tb_Fu k2 (Nat.le_refl b))))⟩
  exact ⟨65, K 64 0 yfa (by omega) hA (fun k hk => absurd hk (Nat.not_lt_zero k)) (tb_Fr b yfa)⟩
theorem yw_244 {post : SY → Prop} {J : _} {x2 : Int32} {b : Nat} {A : Nat → Nat} (hb : b ≤ 8) (hl : ∀ k, k < 64 → A k ≤ 1000000) (h : ∀ ds', tb_N ds' b (tb_w A) 64 → tb_F b yfa ds' → J (nI ((b + 1) * 64)) (x2 + (-1)) ylv ypc yqc ycc yec yde yus ywe yfo yli yso ysu yla ypr yfr yto yty ywt pva pwa pam pdi plo phi ptk pco pex yst ypa ysp ypl ycp ybo ytk yno ych ds') (hA : tb_N yfa b A 64) : ∃ f, wY_spellOut_244 post J (nI ((b + 1) * 64)) x2 (nI (b * 64)) ylv ypc yqc ycc yec yde yus ywe yfo yli yso ysu f 0 yla ypr yfr yto yty ywt pva pwa pam pdi plo phi ptk pco pex yst ypa ysp ypl ycp ybo ytk yno ych yfa := by
  have K : ∀ d c ds', c + d = 64 → tb_N ds' (b + 1) A c → tb_F (b + 1) yfa ds' → wY_spellOut_244 post J (nI ((b + 1) * 64)) x2 (nI (b * 64)) ylv ypc yqc ycc yec yde yus ywe yfo yli yso ysu (d + 1) (nI c) yla ypr yfr yto yty ywt pva pwa pam pdi plo phi ptk pco pex yst ypa ysp ypl ycp ybo ytk yno ych ds' := by
    intro d
    induction d with
    | zero =>
      intro c ds' hd k1 k2
      have z : c = 64 := by omega
      subst z
      refine br_t (nI_le (a := 64) (by omega) (by omega)) (yw_r (by omega) k1 (fun d2 j1 j2 => yw_c (by omega) (by omega) (tb_NF (tb_NF hA k2 (by omega) (Nat.le_refl 64)) j2 (by omega) (Nat.le_refl 64)) j1 (fun d3 i1 i2 => yw_294 (by omega) (fun d4 l1 l2 => h d4 (tb_c0 l1 (fun k hk => (tb_13 A hl k hk).symm)) ?_) i1)))
      exact fun j hj => (l2 j hj).trans ((i2 j (by omega)).trans ((j2 j (by omega)).trans (k2 j (by omega))))
    | succ d ih =>
      intro c ds' hd k1 k2
      obtain ⟨a1, a2⟩ := hA c (by omega)
      refine br_f (nI_ge (b := 64) (by omega) (by decide)) ?_
      rw [nI_add, nI_add, nI_clamp (show b * 64 + c < 2 ^ 31 by omega)]
      exact ⟨vp_in_nI (by omega) (by omega), vp_in_nI (by omega) (by omega), nm_r (tg_u (by omega)) (nm_r (nI_1 c) (ih (c + 1) _ (by omega) (tb_s k1 ((k2 _ (by omega)).trans a1) a2) (tb_Fu k2 (Nat.le_refl _))))⟩
  exact ⟨65, K 64 0 yfa (by omega) (fun k hk => absurd hk (Nat.not_lt_zero k)) (tb_Fr _ yfa)⟩
theorem yw_211 {post : SY → Prop} {J : _} {x1 x2 : Int32} {b : Nat} {A : Nat → Nat} (hb : b ≤ 9) (h : ∀ ds', tb_N ds' b (tb_z A) 64 → tb_F b yfa ds' → J x1 (x2 + (-1)) ylv ypc yqc ycc yec yde yus ywe yfo yli yso ysu yla ypr yfr yto yty ywt pva pwa pam pdi plo phi ptk pco pex yst ypa ysp ypl ycp ybo ytk yno ych ds') (hA : tb_N yfa b A 64) : ∃ f, wY_spellOut_211 post J x1 x2 (nI (b * 64)) ylv ypc yqc ycc yec yde yus ywe yfo yli yso ysu f 0 yla ypr yfr yto yty ywt pva pwa pam pdi plo phi ptk pco pex yst ypa ysp ypl ycp ybo ytk yno ych yfa := by
  have K : ∀ d i ds', i + d = 8 → tb_N ds' b (fun k => if k / 8 = k % 8 ∧ k < 9 * i then 0 else A k) 64 → tb_F b yfa ds' → wY_spellOut_211 post J x1 x2 (nI (b * 64)) ylv ypc yqc ycc yec yde yus ywe yfo yli yso ysu (d + 1) (nI i) yla ypr yfr yto yty ywt pva pwa pam pdi plo phi ptk pco pex yst ypa ysp ypl ycp ybo ytk yno ych ds' := by
    intro d
    induction d with
    | zero =>
      intro i ds' hd k1 k2
      have z : i = 8 := by omega
      subst z
      refine br_t (nI_le (a := 8) (by omega) (by omega)) (nm_e (h ds' (tb_c0 k1 (fun k hk => ?_)) k2))
      unfold tb_z
      by_cases x : k / 8 = k % 8
      · rw [if_pos x, if_pos (by omega)]
      · rw [if_neg x, if_neg (by omega)]
    | succ d ih =>
      intro i ds' hd k1 k2
      have e : 9 * nI i = nI (9 * i) := pk_mul 9 i
      refine br_f (nI_ge (b := 8) (by omega) (by decide)) ?_
      rw [e, nI_add]
      exact ⟨vp_in_nI (by omega) (by omega), nm_r (tg_u (by omega)) (nm_r (nI_1 i) (ih (i + 1) _ (by omega) (tb_z9 (by omega) k1) (tb_Fu k2 (Nat.le_refl b))))⟩
  exact ⟨9, K 8 0 yfa (by omega) (tb_c0 hA (fun k hk => if_neg (by omega))) (tb_Fr b yfa)⟩
theorem yw_122 {post : SY → Prop} {J : _} {x1 x2 : Int32} {q : Nat} {A B : Nat → Nat} (hq : q ≤ 8) (h : ∀ ds', tb_N ds' q (tb_m A B) 64 → tb_F q yfa ds' → J x1 (x2 + (-1)) ylv ypc yqc ycc yec yde yus ywe yfo yli yso ysu yla ypr yfr yto yty ywt pva pwa pam pdi plo phi ptk pco pex yst ypa ysp ypl ycp ybo ytk yno ych ds') (hA : tb_N yfa (q + 1) A 64) (hB : tb_N yfa q B 64) : ∃ f, wY_spellOut_122 post J x1 x2 (nI ((q + 1) * 64)) ylv ypc yqc ycc yec yde yus ywe yfo yli yso ysu f 0 yla ypr yfr yto yty ywt pva pwa pam pdi plo phi ptk pco pex yst ypa ysp ypl ycp ybo ytk yno ych yfa := by
  have e0 : nI ((q + 1) * 64) - 64 = nI (q * 64) := by
    have := pk_sub (a := (q + 1) * 64) (b := 64) (by omega)
    rw [show (q + 1) * 64 - 64 = q * 64 from by omega] at this
    exact this
  have K : ∀ d c ds', c + d = 64 → tb_N ds' (q + 1) A 64 → tb_N ds' q (fun k => if k < c then tb_m A B k else B k) 64 → tb_F q yfa ds' → wY_spellOut_122 post J x1 x2 (nI ((q + 1) * 64)) ylv ypc yqc ycc yec yde yus ywe yfo yli yso ysu (d + 1) (nI c) yla ypr yfr yto yty ywt pva pwa pam pdi plo phi ptk pco pex yst ypa ysp ypl ycp ybo ytk yno ych ds' := by
    intro d
    induction d with
    | zero =>
      intro c ds' hd k0 k1 k2
      have z : c = 64 := by omega
      subst z
      exact br_t (nI_le (a := 64) (by omega) (by omega)) (nm_e (h ds' (tb_c0 k1 (fun k hk => (if_pos hk).symm)) k2))
    | succ d ih =>
      intro c ds' hd k0 k1 k2
      obtain ⟨a1, a2⟩ := k0 c (by omega)
      obtain ⟨b1, b2⟩ := k1 c (by omega)
      dsimp only at b1 b2
      rw [if_neg (Nat.lt_irrefl c)] at b1 b2
      refine br_f (nI_ge (b := 64) (by omega) (by decide)) ?_
      rw [e0, nI_add, nI_add, nI_clamp (show (q + 1) * 64 + c < 2 ^ 31 by omega), nI_clamp (show q * 64 + c < 2 ^ 31 by omega), a1, b1]
      have w1 : vp_in (nI ((q + 1) * 64 + c)) 704 := vp_in_nI (by omega) (by omega)
      have w2 : vp_in (nI (q * 64 + c)) 704 := vp_in_nI (by omega) (by omega)
      refine ⟨w1, w2, ?_⟩
      by_cases z : A c < B c
      · refine br_f (nI_ge z (by omega)) ⟨w1, w2, nm_e (nm_r (nI_1 c) (ih (c + 1) _ (by omega) (tb_o k0 (by omega) (by omega) (by omega)) (tb_c0 (tb_u k1 (c := c) (v := A c) (by omega)) (fun k hk => ?_)) (tb_Fu k2 (Nat.le_refl q))))⟩
        by_cases y : k = c
        · subst y; rw [if_pos (by omega), if_pos rfl]; exact if_pos z
        · rw [if_neg y]
          by_cases x : k < c
          · rw [if_pos x, if_pos (by omega)]
          · rw [if_neg x, if_neg (by omega)]
      · refine br_t (nI_le (by omega) (by omega)) (nm_r (nI_1 c) (ih (c + 1) ds' (by omega) k0 (tb_c0 k1 (fun k hk => ?_)) k2))
        by_cases y : k = c
        · subst y; rw [if_pos (by omega), if_neg (by omega)]; exact if_neg z
        · by_cases x : k < c
          · rw [if_pos x, if_pos (by omega)]
          · rw [if_neg x, if_neg (by omega)]
  exact ⟨65, K 64 0 yfa (by omega) hA (tb_c0 hB (fun k hk => if_neg (Nat.not_lt_zero k))) (tb_Fr q yfa)⟩
theorem tg_s64 (b : Nat) : nI ((b + 1) * 64) - 64 = nI (b * 64) := by
  have := pk_sub (a := (b + 1) * 64) (b := 64) (by omega)
  rw [show (b + 1) * 64 - 64 = b * 64 from by omega] at this
  exact this
theorem yw_l {post : SY → Prop} {n : Nat} {c ws : Nat → Nat} (hn : n ≤ 10) (hc : ∀ k, k < n → pex k = nI (c k)) (hW : ep_W c n ws) (hR : gr_R nT eT xla xpr xed yla ypr yfr yto yty ywt)
    (h : ∀ ds', tb_N ds' 0 (ev_k (fun t => tb_ed eT yfr yto yty t 12) c ws n 0 0) 64 → post (ylv, ypc, yqc, ycc, yec, yde, yus, ywe, yfo, yli, yso, ysu, yla, ypr, yfr, yto, yty, ywt, pva, pwa, pam, pdi, plo, phi, ptk, pco, pex, yst, ypa, ysp, ypl, ycp, ybo, ytk, yno, ych, ds')) : ∀ i yfa, i ≤ n → ev_I yfa (ws i) (ev_k (fun t => tb_ed eT yfr yto yty t 12) c ws n i) → wY_spellOut_9 post (i + 1) (nI (ws i * 64)) (nI i + (-1)) ylv ypc yqc ycc yec yde yus ywe yfo yli yso ysu yla ypr yfr yto yty ywt pva pwa pam pdi plo phi ptk pco pex yst ypa ysp ypl ycp ybo ytk yno ych yfa := by
  intro i
  induction i with
  | zero =>
    intro ds hi hs
    exact br_t (by decide) (h ds (hs 0 (by rw [hW.1]; omega)))
  | succ k ih =>
    intro ds hi hs
    have wb := ep_wb hW (n - (k + 1)) (k + 1) (by omega)
    have ck := hc k (by omega)
    rw [pk_m1]
    have ct : c k ≤ 14 := by have := (hW.2.2 k (by omega)).2; omega
    have ne : ∀ a, a < 100 → c k ≠ a → ¬ nI (c k) = nI a := fun a ha q e => q ((nI_eq (by omega) (by omega)).mp e)
    refine br_f (nI_pos (by omega)) ⟨vp_in_nI (by omega) (by omega), nm_r (show _ = nI (c k) from by rw [nI_clamp (by omega), ck]) ?_⟩
    obtain ⟨w0, q⟩ := hW.2.2 k (by omega)
    rcases q with ⟨h5, hw⟩ | ⟨h5, hw⟩ | ⟨h5, h6, hw⟩
    · refine nm_e (br_f (nI_ge (b := 6) (by omega) (by omega)) (yw_e2 (by omega) h5 hR (fun ds' k1 k2 => nm_r (show _ = nI (ws k * 64) from ?_) (nm_e (ih ds' (by omega) (ev_l (by omega) hs h5 (by omega) k1 k2))))))
      have : nI (ws (k + 1) * 64) + 64 = nI (ws (k + 1) * 64 + 64) := nI_add _ 64
      rw [this]; exact congrArg nI (by omega)
    · obtain ⟨w, ew⟩ : ∃ w, ws k = w + 1 := ⟨ws k - 1, by omega⟩
      have e1 : nI (ws (k + 1) * 64) - 64 = nI (ws k * 64) := by rw [hw]; exact tg_s64 _
      refine nm_r e1 (br_t (nI_le (a := 6) (by omega) (by omega)) ?_)
      rcases h5 with h5 | h5
      · refine br_t (by rw [h5]; rfl) ?_
        have e2 : nI (ws k * 64) - 64 = nI ((ws k - 1) * 64) := by rw [ew]; exact tg_s64 w
        rw [e2]
        refine yw_c (by omega) (by omega) (hs (ws k) (by omega)) (hs (ws k - 1) (by omega)) (fun ds' k1 k2 => ?_)
        have nx := yw_70 (post := post) (yfa := ds') (b := ws k - 1) (J := wY_spellOut_9 post (k + 1)) (x1 := nI (ws k * 64)) (x2 := nI k) (by omega) (fun d2 j1 j2 => ih d2 (by omega) (ev_b (by omega) hs h5 hw w0 j1 (fun j hj => (j2 j hj).trans (k2 j (by omega))))) k1
        rw [show ws k - 1 + 1 = ws k from by omega] at nx
        exact nx
      · refine br_f (ne 10 (by omega) (by omega)) (br_t (by rw [h5]; rfl) ?_)
        have hA := hs (ws k) (by omega)
        have nx := yw_122 (post := post) (yfa := ds) (q := ws k - 1) (J := wY_spellOut_9 post (k + 1)) (x1 := nI (ws k * 64)) (x2 := nI k) (A := ev_k (fun t => tb_ed eT yfr yto yty t 12) c ws n (k + 1) (ws k)) (by omega) (fun d2 j1 j2 => ih d2 (by omega) (ev_m (by omega) hs h5 hw w0 j1 j2)) (by rw [show ws k - 1 + 1 = ws k from by omega]; exact hA) (hs (ws k - 1) (by omega))
        rw [show ws k - 1 + 1 = ws k from by omega] at nx
        exact nx
    · obtain ⟨w, ew⟩ : ∃ w, ws k = w + 1 := ⟨ws k - 1, by omega⟩
      have e1 : nI (ws (k + 1) * 64) - 64 = nI ((ws k - 1) * 64) := by rw [hw, ew]; exact tg_s64 _
      have hA := hs (ws k - 1) (by omega)
      have done : ∀ ds', tb_N ds' (ws k - 1) (tb_t (c k) (ev_k (fun t => tb_ed eT yfr yto yty t 12) c ws n (k + 1) (ws k - 1))) 64 → tb_F (ws k - 1) ds ds' → wY_spellOut_9 post (k + 1) (nI (ws (k + 1) * 64)) (nI k + (-1)) ylv ypc yqc ycc yec yde yus ywe yfo yli yso ysu yla ypr yfr yto yty ywt pva pwa pam pdi plo phi ptk pco pex yst ypa ysp ypl ycp ybo ytk yno ych ds' := fun ds' k1 k2 => by
        rw [hw]
        exact ih ds' (by omega) (ev_t (by omega) hs h5 hw w0 k1 k2)
      refine nm_r e1 (br_t (nI_le (a := 6) (by omega) (by omega)) (br_f (ne 10 (by omega) (by omega)) (br_f (ne 11 (by omega) (by omega)) ?_)))
      by_cases z : c k = 12
      · refine br_t (by rw [z]; rfl) (yw_r (by omega) hA (fun ds' k1 k2 => nm_e (done ds' (tb_c0 k1 (fun j hj => ?_)) k2)))
        unfold tb_t
        rw [if_pos z]
        exact (tb_12 _ j hj).symm
      refine br_f (ne 12 (by omega) z) ?_
      by_cases y : c k = 14
      · refine br_t (by rw [y]; rfl) (yw_211 (by omega) (fun ds' k1 k2 => done ds' (tb_c0 k1 (fun j hj => ?_)) k2) hA)
        unfold tb_t
        rw [if_neg z, if_neg (by omega)]
      refine br_f (ne 14 (by omega) y) ?_
      have e3 : ws (k + 1) = ws k - 1 + 1 := by omega
      have nx := yw_244 (post := post) (yfa := ds) (b := ws k - 1) (J := wY_spellOut_9 post (k + 1)) (x2 := nI k) (by omega) (fun j hj => (hA j hj).2) (fun ds' k1 k2 => by
        rw [← e3]
        refine done ds' (tb_c0 k1 (fun j hj => ?_)) k2
        unfold tb_t
        rw [if_neg z, if_pos (by omega)]) hA
      rw [← e3] at nx
      exact nx
theorem yw_w {post : SY → Prop} {n : Nat} {c ws : Nat → Nat} (hn : n ≤ 10) (hc : ∀ k, k < n → pex k = nI (c k)) (hW : ep_W c n ws) (hR : gr_R nT eT xla xpr xed yla ypr yfr yto yty ywt)
    (h : ∀ ds', tb_N ds' 0 (ev_k (fun t => tb_ed eT yfr yto yty t 12) c ws n 0 0) 64 → post (ylv, ypc, yqc, ycc, (nI n), yde, yus, ywe, yfo, yli, yso, ysu, yla, ypr, yfr, yto, yty, ywt, pva, pwa, pam, pdi, plo, phi, ptk, pco, pex, yst, ypa, ysp, ypl, ycp, ybo, ytk, yno, ych, ds')) : wpY_spellOut post (ylv, ypc, yqc, ycc, (nI n), yde, yus, ywe, yfo, yli, yso, ysu, yla, ypr, yfr, yto, yty, ywt, pva, pwa, pam, pdi, plo, phi, ptk, pco, pex, yst, ypa, ysp, ypl, ycp, ybo, ytk, yno, ych, yfa) := by
  have K := yw_l (yec := nI n) hn hc hW hR h n yfa (Nat.le_refl n) (fun s hs => absurd hs (by rw [hW.2.1]; exact Nat.not_lt_zero s))
  refine nm_r (Int32.sub_eq_add_neg (nI n) 1) ⟨n + 1, ?_⟩
  rw [hW.2.1] at K
  exact K
end
section
/-! walk, reach -/
def tb_Th (nT : Int32) (T : Nat → Nat) : Prop := ∀ i j, i < 8 → j < 8 → T (8 * i + j) < 1000000 → bt nT i = true → bt nT j = true
theorem th_m {nT : Int32} {A B : Nat → Nat} (a : tb_Th nT A) (b : tb_Th nT B) : tb_Th nT (tb_m A B) := fun i j hi hj h => by
  unfold tb_m at h
  split at h
  · exact a i j hi hj h
  · exact b i j hi hj h
theorem th_c {nT : Int32} {A B : Nat → Nat} (a : tb_Th nT A) (b : tb_Th nT B) : tb_Th nT (tb_c A B) := fun i j hi hj h t => by
  unfold tb_c at h
  have ex := tb_c1_ex A B (8 * i + j) 8
  rw [show (8 * i + j) / 8 * 8 = 8 * i from by omega, show (8 * i + j) % 8 = j from by omega] at ex
  rcases ex with q | ⟨m, hm, q⟩
  · omega
  · exact b m j hm hj (by omega) (a i m hi hm (by omega) t)
theorem th_z {nT : Int32} {A : Nat → Nat} (a : tb_Th nT A) : tb_Th nT (tb_z A) := fun i j hi hj h t => by
  rw [tb_zij A hi hj] at h
  by_cases z : i = j
  · rw [← z]; exact t
  · rw [if_neg z] at h; exact a i j hi hj h t
theorem th_w {nT : Int32} {A : Nat → Nat} (a : tb_Th nT A) : tb_Th nT (tb_w A) := by
  have K : ∀ m, m ≤ 8 → ∀ i j, i < 8 → j < 8 → tb_D A m i j < 1000000 → bt nT i = true → bt nT j = true := by
    intro m
    induction m with
    | zero => intro _ i j hi hj h; rw [tb_D0] at h; exact a i j hi hj h
    | succ m ih =>
      intro hm i j hi hj h t
      rw [tb_DH A m i j (by omega) hi hj] at h
      split at h
      · exact ih (by omega) m j (by omega) hj (by omega) (ih (by omega) i m hi (by omega) (by omega) t)
      · exact ih (by omega) i j hi hj h t
  intro i j hi hj h
  rw [tb_wD] at h
  exact K 8 (by omega) i j hi hj h
theorem th_t {nT : Int32} {A : Nat → Nat} (t : Nat) (a : tb_Th nT A) : tb_Th nT (tb_t t A) := by
  unfold tb_t
  split
  · exact th_z (th_w a)
  · split
    · exact th_w a
    · exact th_z a
/-- reach's set: bit i where g i -/
def rb_s (g : Nat → Bool) : Nat → Int32
  | 0 => 0
  | i + 1 => if g i = true then rb_s g i ||| ((1 : Int32) <<< (nI i &&& 31)) else rb_s g i
theorem tb_at {ds : Nat → Int32} {T : Nat → Nat} (h : tb_N ds 0 T 64) {k : Nat} (hk : k < 64) : ds k = nI (T k) ∧ T k ≤ 1000000 := by
  have := h k hk
  rwa [Nat.zero_mul, Nat.zero_add] at this
variable {nT : Int32} {eT : Int32} {xlv : Int32} {xpc : Int32} {xqc : Int32} {xcc : Int32} {xec : Int32} {mc : Int32} {lw : Int32} {rc : Int32} {xla : Nat → Int32} {xpr : Nat → Int64} {xed : Nat → Int32} {sN : Nat → Int32} {sE : Nat → Int32} {sL : Nat → Int32} {sP : Nat → Int64} {sD : Nat → Int32} {pva : Nat → Int32} {pwa : Nat → Int32} {pam : Nat → Int32} {pdi : Nat → Int32} {plo : Nat → Int32} {phi : Nat → Int32} {ptk : Nat → Int32} {pco : Nat → Int32} {pex : Nat → Int32} {tr : Nat → Int32} {ds : Nat → Int32} {ch : Nat → Int32} {ar : Nat → Int32} {rN : Nat → Int32} {rM : Nat → Int32} {s1 : Nat → Int32} {s2 : Nat → Int32} {s3 : Nat → Int32} {s4 : Nat → Int32} {s5 : Nat → Int32}
variable {ylv : Int32} {ypc : Int32} {yqc : Int32} {ycc : Int32} {yec : Int32} {yde : Int32} {yus : Int32} {ywe : Int32} {yfo : Int32} {yli : Int32} {yso : Int32} {ysu : Int64} {yla : Nat → Int32} {ypr : Nat → Int64} {yfr : Nat → Int32} {yto : Nat → Int32} {yty : Nat → Int32} {ywt : Nat → Int32} {yst : Nat → Int32} {ypa : Nat → Int32} {ysp : Nat → Int32} {ypl : Nat → Int32} {ycp : Nat → Int32} {ybo : Nat → Int32} {ytk : Nat → Int32} {yno : Nat → Int32} {ych : Nat → Int32} {yfa : Nat → Int32}
theorem th_ed (hR : gr_R nT eT xla xpr xed yla ypr yfr yto yty ywt) (t : Nat) : ∀ n, n ≤ 12 → tb_Th nT (tb_ed eT yfr yto yty t n) := by
  intro n
  induction n with
  | zero => intro _ i j hi hj h; exact absurd h (Nat.lt_irrefl _)
  | succ e ih =>
    intro hn i j hi hj h q
    by_cases z : bt eT e = true ∧ yty e = nI (t % 3)
    · rw [tb_ed_t z] at h
      by_cases y : 8 * i + j = tb_ix yfr yto t e
      · rcases hR.2.2.2 e (by omega) with ⟨_, f, t', _, _, hf, ht', _, _, bf, bt', _, e1, e2, _, _⟩ | ⟨a, _⟩
        · unfold tb_ix at y
          rw [e1, e2, nI_clamp (by omega), nI_clamp (by omega)] at y
          split at y
          · rw [show j = t' from by omega]; exact bt'
          · rw [show j = f from by omega]; exact bf
        · rw [a] at z; exact absurd z.1 (by decide)
      · rw [if_neg y] at h
        exact ih (by omega) i j hi hj h q
    · rw [tb_ed_f z] at h
      exact ih (by omega) i j hi hj h q
theorem th_ev (hR : gr_R nT eT xla xpr xed yla ypr yfr yto yty ywt) {n : Nat} {c ws : Nat → Nat} (hW : ep_W c n ws) : ∀ d i, i + d = n → ∀ s, s < ws i → tb_Th nT (ev_k (fun t => tb_ed eT yfr yto yty t 12) c ws n i s) := by
  intro d
  induction d with
  | zero =>
    intro i hi s hs
    rw [show i = n from by omega, hW.2.1] at hs
    exact absurd hs (Nat.not_lt_zero s)
  | succ d ih =>
    intro k hk s hs
    have nx := ih (k + 1) (by omega)
    obtain ⟨w0, q⟩ := hW.2.2 k (by omega)
    rw [ev_e (by omega)]
    rcases q with ⟨h5, hw⟩ | ⟨h5, hw⟩ | ⟨h5, h6, hw⟩
    · rw [if_pos h5]
      split
      · exact th_ed hR _ 12 (by omega)
      · exact nx s (by omega)
    · rw [if_neg (by omega)]
      rcases h5 with h5 | h5
      · rw [if_pos h5]
        split
        · exact th_c (nx _ (by omega)) (nx _ (by omega))
        · exact nx s (by omega)
      · rw [if_neg (by omega), if_pos h5]
        split
        · exact th_m (nx _ (by omega)) (nx _ (by omega))
        · exact nx s (by omega)
    · rw [if_neg (by omega), if_neg (by omega), if_neg (by omega)]
      split
      · exact th_t _ (nx _ (by omega))
      · exact nx s (by omega)
theorem yw_wk {post : Int32 → SY → Prop} {f t n : Nat} (hf : f < 8) (ht : t < 8) (e1 : bt nT f = true) (e2 : bt nT t = true) {c ws : Nat → Nat} (hn : n ≤ 10) (z : 0 < n) (hc : ∀ k, k < n → pex k = nI (c k)) (hW : ep_W c n ws) (hR : gr_R nT eT xla xpr xed yla ypr yfr yto yty ywt)
    (h0 : ¬ ev_k (fun t => tb_ed eT yfr yto yty t 12) c ws n 0 0 (8 * f + t) < 1000000 → ∀ d2, post (-1) (ylv, ypc, yqc, ycc, (nI n), yde, yus, ywe, yfo, yli, yso, ysu, yla, ypr, yfr, yto, yty, ywt, pva, pwa, pam, pdi, plo, phi, ptk, pco, pex, yst, ypa, ysp, ypl, ycp, ybo, ytk, yno, ych, d2)) (h1 : ev_k (fun t => tb_ed eT yfr yto yty t 12) c ws n 0 0 (8 * f + t) < 1000000 → ∀ d2, post (nI (ev_k (fun t => tb_ed eT yfr yto yty t 12) c ws n 0 0 (8 * f + t))) (ylv, ypc, yqc, ycc, (nI n), yde, yus, ywe, yfo, yli, yso, ysu, yla, ypr, yfr, yto, yty, ywt, pva, pwa, pam, pdi, plo, phi, ptk, pco, pex, yst, ypa, ysp, ypl, ycp, ybo, ytk, yno, ych, d2)) : wpY_walk post (ylv, ypc, yqc, ycc, (nI n), yde, yus, ywe, yfo, yli, yso, ysu, yla, ypr, yfr, yto, yty, ywt, pva, pwa, pam, pdi, plo, phi, ptk, pco, pex, yst, ypa, ysp, ypl, ycp, ybo, ytk, yno, ych, yfa) (nI f) (nI t) := by
  unfold wpY_walk
  have n0 : ¬ nI n = 0 := nI_ne0 z (by omega)
  have i2 : 8 * nI f + nI t = nI (8 * f + t) := tg_iy
  refine tg_yin hf hR ?_
  rw [e1]
  refine br_f tg_10 (tg_yin ht hR ?_)
  rw [e2]
  refine br_f tg_10 (br_f n0 (yw_w hn hc hW hR (fun d2 k2 => ?_)))
  obtain ⟨a1, a2⟩ := tb_at k2 (k := 8 * f + t) (by omega)
  dsimp only
  rw [i2, nI_clamp (by omega), a1]
  refine ⟨vp_in_nI (by omega) (by omega), ?_⟩
  by_cases q : ev_k (fun t => tb_ed eT yfr yto yty t 12) c ws n 0 0 (8 * f + t) < 1000000
  · exact br_f (nI_ge (b := 1000000) q (by omega)) ⟨vp_in_nI (by omega) (by omega), h1 q d2⟩
  · exact br_t (nI_le (a := 1000000) (by omega) (by omega)) (h0 q d2)
theorem i_vc_walk {k : Nat} {u : SX} {v : SY} (I : i_Rel k u v) (hk : k + 7 ≤ 3584) (v1 : Int32) (v2 : Int32) : wpX_walk (fun r u' => wpY_walk (fun r' v' => r' = r ∧ i_Rel (k + 7) u' v') v v1 v2) u v1 v2 := by
  obtain ⟨nT, eT, xlv, xpc, xqc, xcc, xec, mc, lw, rc, xla, xpr, xed, sN, sE, sL, sP, sD, pva, pwa, pam, pdi, plo, phi, ptk, pco, pex, tr, ds, ch, ar, rN, rM, s1, s2, s3, s4, s5⟩ := u
  obtain ⟨ylv, ypc, yqc, ycc, yec, yde, yus, ywe, yfo, yli, yso, ysu, yla, ypr, yfr, yto, yty, ywt, qpva, qpwa, qpam, qpdi, qplo, qphi, qptk, qpco, qpex, yst, ypa, ysp, ypl, ycp, ybo, ytk, yno, ych, yfa⟩ := v
  obtain ⟨⟨rfl, rfl, rfl, rfl, rfl, rfl, rfl, rfl, rfl⟩, hG, hQ, hT, hC, hE⟩ := I
  have hR := hG.1
  have J := rl_mk (k + 7) (mc := mc) (lw := lw) (rc := rc) (tr := tr) (ds := ds) (ch := ch) (ar := ar) (rN := rN) (rM := rM) (s1 := s1) (s2 := s2) (s3 := s3) (s4 := s4) (s5 := s5) (yde := yde) (yus := yus) (ywe := ywe) (yfo := yfo) (yli := yli) (yso := yso) (ysu := ysu) (yst := yst) (ypa := ypa) (ysp := ysp) (ypl := ypl) (ycp := ycp) (ybo := ybo) (ytk := ytk) (yno := yno) (ych := ych) (yfa := yfa) hG hQ hT hC hE
  unfold wpX_walk
  have K : v1 < 0 ∨ nI 8 ≤ v1 ∨ ∃ j : Nat, j < 8 ∧ v1 = nI j := pk_ix v1 (n := 8) (by omega)
  rw [← or_assoc] at K
  rcases K with c | ⟨f, hf, rfl⟩
  · exact tg_nit0 c (br_t rfl (by unfold wpY_walk; exact tg_yin0 c (br_t rfl ⟨rfl, J⟩)))
  refine tg_nit hf (tg_zbr (fun e1 => ?_) (fun e1 => ?_))
  · unfold wpY_walk
    refine tg_yin hf hR ?_
    rw [e1]
    exact br_t rfl ⟨rfl, J⟩
  have K : v2 < 0 ∨ nI 8 ≤ v2 ∨ ∃ j : Nat, j < 8 ∧ v2 = nI j := pk_ix v2 (n := 8) (by omega)
  rw [← or_assoc] at K
  rcases K with c | ⟨t, ht, rfl⟩
  · refine tg_nit0 c (br_t rfl ?_)
    unfold wpY_walk
    refine tg_yin hf hR ?_
    rw [e1]
    exact br_f tg_10 (tg_yin0 c (br_t rfl ⟨rfl, J⟩))
  refine tg_nit ht (tg_zbr (fun e2 => ?_) (fun e2 => ?_))
  · unfold wpY_walk
    refine tg_yin hf hR ?_
    rw [e1]
    refine br_f tg_10 (tg_yin ht hR ?_)
    rw [e2]
    exact br_t rfl ⟨rfl, J⟩
  obtain ⟨n, c, hn, rfl, rfl, hc, hW⟩ := hE
  rcases Nat.eq_zero_or_pos n with z | z
  · subst z
    refine br_t rfl ?_
    unfold wpY_walk
    refine tg_yin hf hR ?_
    rw [e1]
    refine br_f tg_10 (tg_yin ht hR ?_)
    rw [e2]
    exact br_f tg_10 (br_t rfl ⟨rfl, J⟩)
  obtain ⟨ws, hW⟩ := hW.resolve_left (by omega)
  have n0 : ¬ nI n = 0 := nI_ne0 z (by omega)
  refine br_f n0 (xw_w hn hc hW hR (fun d1 k1 => ?_))
  have i1 : nI f * 8 + nI t = nI (8 * f + t) := by rw [Nat.mul_comm]; exact tg_ix
  obtain ⟨a1, a2⟩ := tb_at k1 (k := 8 * f + t) (by omega)
  have hE : rl_E (nI n) (nI n) pex := ⟨n, c, hn, rfl, rfl, hc, Or.inr ⟨ws, hW⟩⟩
  dsimp only
  rw [i1, nI_clamp (by omega), a1]
  refine ⟨vp_in_nI (by omega) (by omega), nm_e ?_⟩
  by_cases q : ev_k (fun t => tb_ed eT yfr yto yty t 12) c ws n 0 0 (8 * f + t) < 1000000
  · exact br_f (nI_ge (b := 1000000) q (by omega)) (yw_wk hf ht e1 e2 hn z hc hW hR (fun q' => absurd q q') (fun _ d2 => ⟨rfl, rl_mk _ hG hQ hT hC hE⟩))
  · exact br_t (nI_le (a := 1000000) (by omega) (by omega)) (yw_wk hf ht e1 e2 hn z hc hW hR (fun _ d2 => ⟨rfl, rl_mk _ hG hQ hT hC hE⟩) (fun q' => absurd q' q))
theorem xw_rl {post : Int32 → SX → Prop} {f : Nat} (hf : f < 8) {T : Nat → Nat} (hT : tb_N ds 0 T 64) {g : Nat → Bool} (hg : ∀ i, i < 8 → g i = decide (T (8 * f + i) < 1000000)) (h : post (rb_s g 8) (nT, eT, xlv, xpc, xqc, xcc, xec, mc, lw, rc, xla, xpr, xed, sN, sE, sL, sP, sD, pva, pwa, pam, pdi, plo, phi, ptk, pco, pex, tr, ds, ch, ar, rN, rM, s1, s2, s3, s4, s5)) : ∀ d i, i + d = 8 → wX_reach_25 post (nI f) nT eT xlv xpc xqc xcc xec mc lw rc xla xpr xed sN sE sL sP sD pva pwa pam pdi plo phi ptk pco pex tr ds ch ar rN rM s1 s2 s3 s4 s5 (d + 1) (rb_s g i) (nI i) := by
  intro d
  induction d with
  | zero =>
    intro i hi
    have z : i = 8 := by omega
    subst z
    exact br_t (nI_le (a := 8) (by omega) (by omega)) h
  | succ d ih =>
    intro i hi
    have i1 : nI f * 8 + nI i = nI (8 * f + i) := by rw [Nat.mul_comm]; exact tg_ix
    obtain ⟨a1, a2⟩ := tb_at hT (k := 8 * f + i) (by omega)
    have nx := ih (i + 1) (by omega)
    have e : rb_s g (i + 1) = if g i = true then rb_s g i ||| ((1 : Int32) <<< (nI i &&& 31)) else rb_s g i := rfl
    rw [e, hg i (by omega)] at nx
    refine br_f (nI_ge (b := 8) (by omega) (by decide)) ?_
    rw [i1, nI_clamp (by omega), a1]
    refine ⟨vp_in_nI (by omega) (by omega), ?_⟩
    by_cases z : T (8 * f + i) < 1000000
    · rw [decide_eq_true z, if_pos rfl] at nx
      exact br_f (nI_ge (b := 1000000) z (by omega)) (nm_e (nm_r (nI_1 i) nx))
    · rw [decide_eq_false z, if_neg (by decide)] at nx
      exact br_t (nI_le (a := 1000000) (by omega) (by omega)) (nm_r (nI_1 i) nx)
theorem yw_rl {post : Int32 → SY → Prop} {f : Nat} (hf : f < 8) (hR : gr_R nT eT xla xpr xed yla ypr yfr yto yty ywt) {T : Nat → Nat} (hT : tb_N yfa 0 T 64) {g : Nat → Bool} (hg : ∀ i, i < 8 → g i = (bt nT i && decide (T (8 * f + i) < 1000000))) (h : post (rb_s g 8) (ylv, ypc, yqc, ycc, yec, yde, yus, ywe, yfo, yli, yso, ysu, yla, ypr, yfr, yto, yty, ywt, pva, pwa, pam, pdi, plo, phi, ptk, pco, pex, yst, ypa, ysp, ypl, ycp, ybo, ytk, yno, ych, yfa)) : ∀ d i, i + d = 8 → wY_reach_25 post (nI f) ylv ypc yqc ycc yec yde yus ywe yfo yli yso ysu yla ypr yfr yto yty ywt pva pwa pam pdi plo phi ptk pco pex yst ypa ysp ypl ycp ybo ytk yno ych yfa (d + 1) (rb_s g i) (nI i) := by
  intro d
  induction d with
  | zero =>
    intro i hi
    have z : i = 8 := by omega
    subst z
    exact br_t (nI_le (a := 8) (by omega) (by omega)) h
  | succ d ih =>
    intro i hi
    have i1 : 8 * nI f + nI i = nI (8 * f + i) := tg_iy
    obtain ⟨a1, a2⟩ := tb_at hT (k := 8 * f + i) (by omega)
    have nx := ih (i + 1) (by omega)
    have e : rb_s g (i + 1) = if g i = true then rb_s g i ||| ((1 : Int32) <<< (nI i &&& 31)) else rb_s g i := rfl
    rw [e, hg i (by omega)] at nx
    refine br_f (nI_ge (b := 8) (by omega) (by decide)) (tg_yin (by omega) hR (tg_zbr (fun b => ?_) (fun b => ?_)))
    · rw [b, Bool.false_and, if_neg (by decide)] at nx
      exact nm_r (nI_1 i) nx
    · rw [b, Bool.true_and] at nx
      rw [i1, nI_clamp (by omega), a1]
      refine ⟨vp_in_nI (by omega) (by omega), ?_⟩
      by_cases z : T (8 * f + i) < 1000000
      · rw [decide_eq_true z, if_pos rfl] at nx
        exact br_f (nI_ge (b := 1000000) z (by omega)) (nm_e (nm_r (nI_1 i) nx))
      · rw [decide_eq_false z, if_neg (by decide)] at nx
        exact br_t (nI_le (a := 1000000) (by omega) (by omega)) (nm_r (nI_1 i) nx)
theorem i_vc_reach {k : Nat} {u : SX} {v : SY} (I : i_Rel k u v) (hk : k + 7 ≤ 3584) (v1 : Int32) : wpX_reach (fun r u' => wpY_reach (fun r' v' => r' = r ∧ i_Rel (k + 7) u' v') v v1) u v1 := by
  obtain ⟨nT, eT, xlv, xpc, xqc, xcc, xec, mc, lw, rc, xla, xpr, xed, sN, sE, sL, sP, sD, pva, pwa, pam, pdi, plo, phi, ptk, pco, pex, tr, ds, ch, ar, rN, rM, s1, s2, s3, s4, s5⟩ := u
  obtain ⟨ylv, ypc, yqc, ycc, yec, yde, yus, ywe, yfo, yli, yso, ysu, yla, ypr, yfr, yto, yty, ywt, qpva, qpwa, qpam, qpdi, qplo, qphi, qptk, qpco, qpex, yst, ypa, ysp, ypl, ycp, ybo, ytk, yno, ych, yfa⟩ := v
  obtain ⟨⟨rfl, rfl, rfl, rfl, rfl, rfl, rfl, rfl, rfl⟩, hG, hQ, hT, hC, hE⟩ := I
  have hR := hG.1
  have J := rl_mk (k + 7) (mc := mc) (lw := lw) (rc := rc) (tr := tr) (ds := ds) (ch := ch) (ar := ar) (rN := rN) (rM := rM) (s1 := s1) (s2 := s2) (s3 := s3) (s4 := s4) (s5 := s5) (yde := yde) (yus := yus) (ywe := ywe) (yfo := yfo) (yli := yli) (yso := yso) (ysu := ysu) (yst := yst) (ypa := ypa) (ysp := ysp) (ypl := ypl) (ycp := ycp) (ybo := ybo) (ytk := ytk) (yno := yno) (ych := ych) (yfa := yfa) hG hQ hT hC hE
  unfold wpX_reach wpY_reach
  have K : v1 < 0 ∨ nI 8 ≤ v1 ∨ ∃ j : Nat, j < 8 ∧ v1 = nI j := pk_ix v1 (n := 8) (by omega)
  rw [← or_assoc] at K
  rcases K with c | ⟨f, hf, rfl⟩
  · exact tg_nit0 c (br_t rfl (tg_yin0 c (br_t rfl ⟨rfl, J⟩)))
  refine tg_nit hf (tg_zbr (fun e1 => ?_) (fun e1 => ?_))
  · refine tg_yin hf hR ?_
    rw [e1]
    exact br_t rfl ⟨rfl, J⟩
  obtain ⟨n, c, hn, rfl, rfl, hc, hW⟩ := hE
  rcases Nat.eq_zero_or_pos n with z | z
  · subst z
    refine br_t rfl (tg_yin hf hR ?_)
    rw [e1]
    exact br_f tg_10 (br_t rfl ⟨rfl, J⟩)
  obtain ⟨ws, hW⟩ := hW.resolve_left (by omega)
  have n0 : ¬ nI n = 0 := nI_ne0 z (by omega)
  have hE : rl_E (nI n) (nI n) pex := ⟨n, c, hn, rfl, rfl, hc, Or.inr ⟨ws, hW⟩⟩
  have th := th_ev hR hW n 0 (by omega) 0 (by rw [hW.1]; omega)
  refine br_f n0 (xw_w hn hc hW hR (fun d1 k1 => ⟨9, xw_rl hf k1 (g := fun i => decide (ev_k (fun t => tb_ed eT yfr yto yty t 12) c ws n 0 0 (8 * f + i) < 1000000)) (fun i hi => rfl) (tg_yin hf hR ?_) 8 0 (by omega)⟩))
  rw [e1]
  refine br_f tg_10 (br_f n0 (yw_w hn hc hW hR (fun d2 k2 => ⟨9, yw_rl hf hR k2 (fun i hi => ?_) ⟨rfl, rl_mk _ hG hQ hT hC hE⟩ 8 0 (by omega)⟩)))
  cases b : bt nT i
  · rw [Bool.false_and, decide_eq_false]
    intro q
    have := th f i hf hi q e1
    rw [b] at this
    exact absurd this (by decide)
  · rw [Bool.true_and]
end
section
/-! matches as lists: X's order for one choice of nodes, Y's order over all of them, and T between -/
def fm {α : Type} (g : Nat → List α) : Nat → Nat → List α
  | 0, _ => []
  | m + 1, j => g j ++ fm g m (j + 1)
theorem fm_cong {α : Type} {g g' : Nat → List α} : ∀ {m j : Nat}, (∀ i, j ≤ i → i < j + m → g i = g' i) → fm g m j = fm g' m j
  | 0, _, _ => rfl
  | m + 1, j, h => by
    show g j ++ fm g m (j + 1) = g' j ++ fm g' m (j + 1)
    rw [h j (by omega) (by omega), fm_cong (fun i h1 h2 => h i (by omega) (by omega))]
theorem fm_nil {α : Type} {g : Nat → List α} {m j : Nat} (h : ∀ i, j ≤ i → i < j + m → g i = []) : fm g m j = [] := by
  induction m generalizing j with
  | zero => rfl
  | succ m ih =>
    show g j ++ fm g m (j + 1) = []
    rw [h j (by omega) (by omega), ih (fun i h1 h2 => h i (by omega) (by omega))]
    rfl
theorem fm_one {α : Type} {g : Nat → List α} {m j i0 : Nat} (h0 : j ≤ i0) (h1 : i0 < j + m) (h : ∀ i, j ≤ i → i < j + m → i ≠ i0 → g i = []) : fm g m j = g i0 := by
  induction m generalizing j with
  | zero => omega
  | succ m ih =>
    show g j ++ fm g m (j + 1) = g i0
    by_cases z : j = i0
    · subst z
      rw [fm_nil (fun i a b => h i (by omega) (by omega) (by omega)), List.append_nil]
    · rw [h j (by omega) (by omega) z, ih (by omega) (by omega) (fun i a b => h i (by omega) (by omega)), List.nil_append]
theorem fm_perm {α : Type} {g g' : Nat → List α} : ∀ {m j : Nat}, (∀ i, j ≤ i → i < j + m → (g i).Perm (g' i)) → (fm g m j).Perm (fm g' m j)
  | 0, _, _ => List.Perm.refl _
  | m + 1, j, h => List.Perm.append (h j (by omega) (by omega)) (fm_perm (fun i h1 h2 => h i (by omega) (by omega)))
theorem fm_two {α : Type} (g : Nat → List α) : ∀ m j, fm g (2 * m) (2 * j) = fm (fun e => g (2 * e) ++ g (2 * e + 1)) m j
  | 0, _ => rfl
  | m + 1, j => by
    have ih := fm_two g m (j + 1)
    show g (2 * j) ++ (g (2 * j + 1) ++ fm g (2 * m) (2 * j + 1 + 1)) = (g (2 * j) ++ g (2 * j + 1)) ++ fm (fun e => g (2 * e) ++ g (2 * e + 1)) m (j + 1)
    rw [List.append_assoc, ← ih]
    rfl
theorem fm_map {α β : Type} (F : List α → List β) (h0 : F [] = []) (ha : ∀ a b, F (a ++ b) = F a ++ F b) (g : Nat → List α) : ∀ m j, F (fm g m j) = fm (fun i => F (g i)) m j
  | 0, _ => h0
  | m + 1, j => by
    show F (g j ++ fm g m (j + 1)) = F (g j) ++ fm (fun i => F (g i)) m (j + 1)
    rw [ha, fm_map F h0 ha g m (j + 1)]
theorem fm_mem {α : Type} {g : Nat → List α} {x : α} : ∀ {m j : Nat}, x ∈ fm g m j → ∃ i, j ≤ i ∧ i < j + m ∧ x ∈ g i
  | 0, _, h => absurd h (by simp [fm])
  | m + 1, j, h => by
    have h' : x ∈ g j ++ fm g m (j + 1) := h
    rcases List.mem_append.mp h' with q | q
    · exact ⟨j, by omega, by omega, q⟩
    · obtain ⟨i, a, b, c⟩ := fm_mem q
      exact ⟨i, by omega, by omega, c⟩
def om {α : Type} (o : Option Nat) (g : Nat → List α) : List α := match o with
  | none => []
  | some q => g q
def ub (u : Int32) (e : Nat) : Int32 := u ||| ((1 : Int32) <<< (nI e &&& 31))
/-- X's trails for the nodes sg, at the hop k after n edges of it, standing at p, the edges u used; f steps are left -/
def mt_X (P : Nat) (V Lo Hi : Nat → Nat) (fe : Nat → Nat → Nat → Option Nat) (nx sg : Nat → Nat) : Nat → Nat → Nat → Nat → Int32 → List Int32
  | 0, _, _, _, _ => []
  | f + 1, k, n, p, u => fm (fun j => if bt u (j / 2) = true then [] else om (fe k (j / 2) p) (fun q => if j % 2 = 0 then (if n + 1 < Hi k then mt_X P V Lo Hi fe nx sg f k (n + 1) q (ub u (j / 2)) else [])
      else if Lo k ≤ n + 1 ∧ q = sg (V k) then (if nx k < P then mt_X P V Lo Hi fe nx sg f (nx k) 0 (sg (V (nx k - 1))) (ub u (j / 2)) else [ub u (j / 2)]) else [])) 24 0
/-- the same in Y's order: the hop may end before it goes on -/
def mt_T (P : Nat) (V Lo Hi : Nat → Nat) (st : Nat → Bool) (ok : Nat → Nat → Bool) (al : Nat → Nat → Nat → Option Nat) (sg : Nat → Nat) : Nat → Nat → Nat → Nat → Int32 → List Int32
  | 0, _, _, _, _ => []
  | f + 1, k, n, p, u =>
    if st k = true then (if ok k (sg (V k)) = true then (if k + 1 < P then mt_T P V Lo Hi st ok al sg f (k + 1) 0 (sg (V k)) u else [u]) else [])
    else (if Lo k ≤ n ∧ ok k p = true ∧ p = sg (V k) then (if k + 1 < P then mt_T P V Lo Hi st ok al sg f (k + 1) 0 p u else [u]) else []) ++
      fm (fun c => if bt u (c / 2) = true then [] else if n = Hi k then [] else om (al k c p) (fun q => mt_T P V Lo Hi st ok al sg f k (n + 1) q (ub u (c / 2)))) 24 0
/-- Y's search: s holds the nodes chosen so far (-1: none yet) -/
def mt_Y (P : Nat) (V Lo Hi : Nat → Nat) (st : Nat → Bool) (ok : Nat → Nat → Bool) (al : Nat → Nat → Nat → Option Nat) (tru : (Nat → Int32) → Bool) : Nat → Nat → Nat → Nat → (Nat → Int32) → Int32 → List ((Nat → Int32) × Int32)
  | 0, _, _, _, _, _ => []
  | f + 1, k, n, p, s, u =>
    if st k = true then fm (fun c => if ok k c = true ∧ (s (V k) < 0 ∨ s (V k) = nI c) then (if k + 1 < P then mt_Y P V Lo Hi st ok al tru f (k + 1) 0 c (upd s (V k) (nI c)) u else if tru (upd s (V k) (nI c)) = true then [(upd s (V k) (nI c), u)] else []) else []) 8 0
    else (if Lo k ≤ n ∧ ok k p = true ∧ (s (V k) < 0 ∨ s (V k) = nI p) then (if k + 1 < P then mt_Y P V Lo Hi st ok al tru f (k + 1) 0 p (upd s (V k) (nI p)) u else if tru (upd s (V k) (nI p)) = true then [(upd s (V k) (nI p), u)] else []) else []) ++
      fm (fun c => if bt u (c / 2) = true then [] else if n = Hi k then [] else om (al k c p) (fun q => mt_Y P V Lo Hi st ok al tru f k (n + 1) q s (ub u (c / 2)))) 24 0
/-! codes -/
def dg (c v : Nat) : Nat := c / 8 ^ (3 - v) % 8
theorem dg_lt (c v : Nat) : dg c v < 8 := Nat.mod_lt _ (by omega)
def zc (x : Int32) : Nat := if x < 0 then 0 else x.toNatClampNeg
def cde (s : Nat → Int32) : Nat := ((zc (s 0) * 8 + zc (s 1)) * 8 + zc (s 2)) * 8 + zc (s 3)
def s_ok (s : Nat → Int32) : Prop := ∀ v, v < 4 → s v = -1 ∨ ∃ m, m < 8 ∧ s v = nI m
theorem zc_lt {x : Int32} (h : x = -1 ∨ ∃ m, m < 8 ∧ x = nI m) : zc x < 8 ∧ ((x = -1 ∧ zc x = 0) ∨ x = nI (zc x)) := by
  rcases h with rfl | ⟨m, hm, rfl⟩
  · have e : zc (-1) = 0 := if_pos (by decide)
    rw [e]
    exact ⟨by omega, Or.inl ⟨rfl, rfl⟩⟩
  · have e : zc (nI m) = m := (if_neg (nI_pos (by omega))).trans (nI_clamp (by omega))
    rw [e]
    exact ⟨hm, Or.inr rfl⟩
theorem cde_dg {s : Nat → Int32} (h : s_ok s) : cde s < 4096 ∧ ∀ v, v < 4 → dg (cde s) v = zc (s v) := by
  have h0 := (zc_lt (h 0 (by omega))).1
  have h1 := (zc_lt (h 1 (by omega))).1
  have h2 := (zc_lt (h 2 (by omega))).1
  have h3 := (zc_lt (h 3 (by omega))).1
  refine ⟨by unfold cde; omega, fun v hv => ?_⟩
  unfold dg cde
  have : v = 0 ∨ v = 1 ∨ v = 2 ∨ v = 3 := by omega
  rcases this with rfl | rfl | rfl | rfl
  · show _ / 8 ^ 3 % 8 = _
    rw [show (8 : Nat) ^ 3 = 512 from rfl]; omega
  · show _ / 8 ^ 2 % 8 = _
    rw [show (8 : Nat) ^ 2 = 64 from rfl]; omega
  · show _ / 8 ^ 1 % 8 = _
    rw [show (8 : Nat) ^ 1 = 8 from rfl]; omega
  · show _ / 8 ^ 0 % 8 = _
    rw [show (8 : Nat) ^ 0 = 1 from rfl]; omega
theorem dg_ext {c c' : Nat} (hc : c < 4096) (hc' : c' < 4096) (h : ∀ v, v < 4 → dg c v = dg c' v) : c = c' := by
  have h0 := h 0 (by omega)
  have h1 := h 1 (by omega)
  have h2 := h 2 (by omega)
  have h3 := h 3 (by omega)
  unfold dg at h0 h1 h2 h3
  rw [show (8 : Nat) ^ (3 - 0) = 512 from rfl] at h0
  rw [show (8 : Nat) ^ (3 - 1) = 64 from rfl] at h1
  rw [show (8 : Nat) ^ (3 - 2) = 8 from rfl] at h2
  rw [show (8 : Nat) ^ (3 - 3) = 1 from rfl] at h3
  omega
/-- the code c may still come of s, at part k -/
def cp (P : Nat) (V : Nat → Nat) (s : Nat → Int32) (k c : Nat) : Prop := ∀ v, v < 4 → s v = nI (dg c v) ∨ (s v = -1 ∧ (dg c v = 0 ∨ ∃ j, k ≤ j ∧ j < P ∧ V j = v))
theorem cp_step {P k c : Nat} {V : Nat → Nat} {s : Nat → Int32} (hk : k < P) (hV : V k < 4) (hs : s_ok s) : cp P V s k c ↔ (s (V k) < 0 ∨ s (V k) = nI (dg c (V k))) ∧ cp P V (upd s (V k) (nI (dg c (V k)))) (k + 1) c := by
  constructor
  · intro h
    refine ⟨?_, fun v hv => ?_⟩
    · rcases h (V k) hV with q | ⟨q, _⟩
      · exact Or.inr q
      · exact Or.inl (by rw [q]; decide)
    · by_cases z : v = V k
      · subst z; exact Or.inl pk_us
      · rw [pk_un z]
        rcases h v hv with q | ⟨q, q' | ⟨j, j1, j2, j3⟩⟩
        · exact Or.inl q
        · exact Or.inr ⟨q, Or.inl q'⟩
        · refine Or.inr ⟨q, Or.inr ⟨j, ?_, j2, j3⟩⟩
          rcases Nat.lt_or_ge k j with x | x
          · exact x
          · have : j = k := by omega
            subst this
            exact absurd j3.symm z
  · rintro ⟨h1, h2⟩ v hv
    by_cases z : v = V k
    · subst z
      rcases h1 with q | q
      · rcases hs (V k) hV with w | ⟨m, hm, w⟩
        · exact Or.inr ⟨w, Or.inr ⟨k, Nat.le_refl k, hk, rfl⟩⟩
        · rw [w] at q; exact absurd q (nI_pos (by omega))
      · exact Or.inl q
    · have := h2 v hv
      rw [pk_un z] at this
      rcases this with q | ⟨q, q' | ⟨j, j1, j2, j3⟩⟩
      · exact Or.inl q
      · exact Or.inr ⟨q, Or.inl q'⟩
      · exact Or.inr ⟨q, Or.inr ⟨j, by omega, j2, j3⟩⟩
theorem cp_end {P c : Nat} {V : Nat → Nat} {s : Nat → Int32} (hs : s_ok s) (hc : c < 4096) : cp P V s P c ↔ cde s = c := by
  obtain ⟨h1, h2⟩ := cde_dg hs
  constructor
  · intro h
    refine dg_ext h1 hc (fun v hv => ?_)
    rw [h2 v hv]
    rcases h v hv with q | ⟨q, q' | ⟨j, j1, j2, _⟩⟩
    · rw [q]
      exact (if_neg (nI_pos (by have := dg_lt c v; omega))).trans (nI_clamp (by have := dg_lt c v; omega))
    · rw [q, q']; exact if_pos (by decide)
    · omega
  · rintro rfl v hv
    rw [h2 v hv]
    rcases (zc_lt (hs v hv)).2 with ⟨a, b⟩ | a
    · exact Or.inr ⟨a, Or.inl b⟩
    · exact Or.inl a
theorem s_up {s : Nat → Int32} (hs : s_ok s) {v m : Nat} (hm : m < 8) : s_ok (upd s v (nI m)) := fun w hw => by
  by_cases z : w = v
  · subst z; exact Or.inr ⟨m, hm, pk_us⟩
  · rw [pk_un z]; exact hs w hw
end
section
/-! Y's list, code by code, is T's -/
def sel (c : Nat) (L : List ((Nat → Int32) × Int32)) : List Int32 := (L.filter (fun x => decide (cde x.1 = c))).map Prod.snd
theorem sel_nil (c : Nat) : sel c [] = [] := rfl
theorem sel_app (c : Nat) (a b : List ((Nat → Int32) × Int32)) : sel c (a ++ b) = sel c a ++ sel c b := by unfold sel; rw [List.filter_append, List.map_append]
theorem sel_fm (c : Nat) (g : Nat → List ((Nat → Int32) × Int32)) (m j : Nat) : sel c (fm g m j) = fm (fun i => sel c (g i)) m j := fm_map (sel c) (sel_nil c) (sel_app c) g m j
theorem sel_1 {c : Nat} {s : Nat → Int32} {u : Int32} (h : cde s = c) : sel c [(s, u)] = [u] := by unfold sel; simp [h]
theorem sel_0 {c : Nat} {s : Nat → Int32} {u : Int32} (h : ¬ cde s = c) : sel c [(s, u)] = [] := by unfold sel; simp [h]
section
variable {P : Nat} {V Lo Hi : Nat → Nat} {st : Nat → Bool} {ok : Nat → Nat → Bool} {al : Nat → Nat → Nat → Option Nat} {tru : (Nat → Int32) → Bool} {c : Nat} {tb : Bool}
/-- what one value of f says of all frames -/
def mt_IH (P : Nat) (V Lo Hi : Nat → Nat) (st : Nat → Bool) (ok : Nat → Nat → Bool) (al : Nat → Nat → Nat → Option Nat) (tru : (Nat → Int32) → Bool) (c : Nat) (tb : Bool) (f : Nat) : Prop :=
  ∀ k n p s u, k < P → (st k = true ∨ p < 8) → s_ok s → (∀ j, j < k → ¬ s (V j) = -1) →
    (cp P V s k c → sel c (mt_Y P V Lo Hi st ok al tru f k n p s u) = if tb = true then mt_T P V Lo Hi st ok al (dg c) f k n p u else []) ∧ (¬ cp P V s k c → sel c (mt_Y P V Lo Hi st ok al tru f k n p s u) = [])
theorem mt_go (hc : c < 4096) (htru : ∀ s, s_ok s → (∀ j, j < P → s (V j) = nI (dg c (V j))) → tru s = tb) (hV : ∀ k, k < P → V k < 4) {f k p : Nat} {s : Nat → Int32} {u : Int32} (ih : mt_IH P V Lo Hi st ok al tru c tb f) (hk : k < P) (hp : p < 8) (hs : s_ok s) (hb : ∀ j, j < k + 1 → ¬ s (V j) = -1) :
    (cp P V s (k + 1) c → sel c (if k + 1 < P then mt_Y P V Lo Hi st ok al tru f (k + 1) 0 p s u else if tru s = true then [(s, u)] else []) = if tb = true then (if k + 1 < P then mt_T P V Lo Hi st ok al (dg c) f (k + 1) 0 p u else [u]) else []) ∧
    (¬ cp P V s (k + 1) c → sel c (if k + 1 < P then mt_Y P V Lo Hi st ok al tru f (k + 1) 0 p s u else if tru s = true then [(s, u)] else []) = []) := by
  by_cases z : k + 1 < P
  · rw [if_pos z, if_pos z]
    exact ih (k + 1) 0 p s u z (Or.inr hp) hs hb
  · have e : k + 1 = P := by omega
    rw [if_neg z, if_neg z, e, cp_end hs hc]
    refine ⟨fun h => ?_, fun h => ?_⟩
    · have q := (cp_end (P := P) (V := V) hs hc).mpr h
      have t : tru s = tb := htru s hs (fun j hj => by
        rcases q (V j) (hV j hj) with w | ⟨w, _⟩
        · exact w
        · exact absurd w (hb j (by omega)))
      rw [t]
      cases tb
      · exact sel_nil c
      · exact sel_1 h
    · split
      · exact sel_0 h
      · exact sel_nil c
theorem mt_YT (hc : c < 4096) (htru : ∀ s, s_ok s → (∀ j, j < P → s (V j) = nI (dg c (V j))) → tru s = tb) (hV : ∀ k, k < P → V k < 4) (hal : ∀ k c p q, al k c p = some q → q < 8) : ∀ f, mt_IH P V Lo Hi st ok al tru c tb f
  | 0 => fun k n p s u _ _ _ _ => by
    unfold mt_Y mt_T
    refine ⟨fun _ => ?_, fun _ => sel_nil c⟩
    cases tb <;> exact sel_nil c
  | f + 1 => by
    have ih := mt_YT hc htru hV hal f
    intro k n p s u hk hp hs hb
    have stp := cp_step (c := c) hk (hV k hk) hs
    have dl := dg_lt c (V k)
    have hb' : ∀ m : Nat, m < 8 → ∀ j, j < k + 1 → ¬ upd s (V k) (nI m) (V j) = -1 := fun m hm j hj => by
      by_cases z : V j = V k
      · rw [z, pk_us]
        intro q
        have := nI_pos (n := m) (by omega)
        rw [q] at this
        exact absurd (by decide) this
      · rw [pk_un z]
        by_cases y : j = k
        · subst y; exact absurd rfl z
        · exact hb j (by omega)
    have ncp : ∀ m : Nat, m < 8 → m ≠ dg c (V k) → ¬ cp P V (upd s (V k) (nI m)) (k + 1) c := fun m hm hne h => by
      rcases h (V k) (hV k hk) with q | ⟨q, _⟩
      · rw [pk_us, nI_eq (by omega) (by omega)] at q; exact hne q
      · exact hb' m hm k (by omega) q
    unfold mt_Y mt_T
    by_cases hst : st k = true
    · rw [if_pos hst, if_pos hst, sel_fm]
      have G := fun i (hi : i < 8) => mt_go (u := u) hc htru hV ih hk hi (s_up hs (v := V k) hi) (hb' i hi)
      rw [fm_one (i0 := dg c (V k)) (by omega) (by omega) (fun i _ hi hne => by
        split
        · exact (G i (by omega)).2 (ncp i (by omega) hne)
        · exact sel_nil c)]
      refine ⟨fun h => ?_, fun h => ?_⟩
      · obtain ⟨h1, h2⟩ := stp.mp h
        have g := (G (dg c (V k)) dl).1 h2
        by_cases o : ok k (dg c (V k)) = true
        · rw [if_pos ⟨o, h1⟩, if_pos o]; exact g
        · rw [if_neg (fun q => o q.1), if_neg o]
          cases tb <;> exact sel_nil c
      · by_cases o : ok k (dg c (V k)) = true ∧ (s (V k) < 0 ∨ s (V k) = nI (dg c (V k)))
        · rw [if_pos o]
          exact (G (dg c (V k)) dl).2 (fun q => h (stp.mpr ⟨o.2, q⟩))
        · rw [if_neg o]; exact sel_nil c
    · have hp' : p < 8 := hp.resolve_left hst
      rw [if_neg hst, if_neg hst, sel_app, sel_fm]
      have G := mt_go (u := u) hc htru hV ih hk hp' (s_up hs (v := V k) hp') (hb' p hp')
      refine ⟨fun h => ?_, fun h => ?_⟩
      · obtain ⟨h1, h2⟩ := stp.mp h
        have eB : fm (fun i => sel c (if bt u (i / 2) = true then [] else if n = Hi k then [] else om (al k i p) (fun q => mt_Y P V Lo Hi st ok al tru f k (n + 1) q s (ub u (i / 2))))) 24 0 = if tb = true then fm (fun i => if bt u (i / 2) = true then [] else if n = Hi k then [] else om (al k i p) (fun q => mt_T P V Lo Hi st ok al (dg c) f k (n + 1) q (ub u (i / 2)))) 24 0 else [] := by
          have t : ∀ i, sel c (if bt u (i / 2) = true then [] else if n = Hi k then [] else om (al k i p) (fun q => mt_Y P V Lo Hi st ok al tru f k (n + 1) q s (ub u (i / 2)))) = if tb = true then (if bt u (i / 2) = true then [] else if n = Hi k then [] else om (al k i p) (fun q => mt_T P V Lo Hi st ok al (dg c) f k (n + 1) q (ub u (i / 2)))) else [] := fun i => by
            split
            · cases tb <;> exact sel_nil c
            · split
              · cases tb <;> exact sel_nil c
              · cases e : al k i p with
                | none => cases tb <;> exact sel_nil c
                | some q => exact (ih k (n + 1) q s _ hk (Or.inr (hal k i p q e)) hs hb).1 h
          cases tb
          · exact fm_nil (fun i _ _ => (t i).trans (if_neg (by decide)))
          · exact fm_cong (fun i _ _ => (t i).trans (if_pos rfl))
        rw [eB]
        by_cases z : p = dg c (V k)
        · rw [← z] at h2
          have g := G.1 h2
          have h1' : s (V k) < 0 ∨ s (V k) = nI p := by rw [z]; exact h1
          by_cases o : Lo k ≤ n ∧ ok k p = true
          · have x1 : Lo k ≤ n ∧ ok k p = true ∧ (s (V k) < 0 ∨ s (V k) = nI p) := ⟨o.1, o.2, h1'⟩
            have x2 : Lo k ≤ n ∧ ok k p = true ∧ p = dg c (V k) := ⟨o.1, o.2, z⟩
            rw [if_pos x1, if_pos x2, g]
            cases tb <;> rfl
          · have x1 : ¬ (Lo k ≤ n ∧ ok k p = true ∧ (s (V k) < 0 ∨ s (V k) = nI p)) := fun q => o ⟨q.1, q.2.1⟩
            have x2 : ¬ (Lo k ≤ n ∧ ok k p = true ∧ p = dg c (V k)) := fun q => o ⟨q.1, q.2.1⟩
            rw [if_neg x1, if_neg x2, sel_nil]
            cases tb <;> rfl
        · have e0 : sel c (if Lo k ≤ n ∧ ok k p = true ∧ (s (V k) < 0 ∨ s (V k) = nI p) then (if k + 1 < P then mt_Y P V Lo Hi st ok al tru f (k + 1) 0 p (upd s (V k) (nI p)) u else if tru (upd s (V k) (nI p)) = true then [(upd s (V k) (nI p), u)] else []) else []) = [] := by
            split
            · exact G.2 (ncp p hp' z)
            · exact sel_nil c
          have x2 : ¬ (Lo k ≤ n ∧ ok k p = true ∧ p = dg c (V k)) := fun q => z q.2.2
          rw [e0, if_neg x2]
          cases tb <;> rfl
      · have e0 : sel c (if Lo k ≤ n ∧ ok k p = true ∧ (s (V k) < 0 ∨ s (V k) = nI p) then (if k + 1 < P then mt_Y P V Lo Hi st ok al tru f (k + 1) 0 p (upd s (V k) (nI p)) u else if tru (upd s (V k) (nI p)) = true then [(upd s (V k) (nI p), u)] else []) else []) = [] := by
          split
          · next o =>
            refine G.2 (fun q => ?_)
            by_cases z : p = dg c (V k)
            · rw [z] at q o
              exact h (stp.mpr ⟨o.2.2, q⟩)
            · exact ncp p hp' z q
          · exact sel_nil c
        rw [e0, List.nil_append]
        refine fm_nil (fun i _ _ => ?_)
        split
        · exact sel_nil c
        · split
          · exact sel_nil c
          · cases e : al k i p with
            | none => exact sel_nil c
            | some q => exact (ih k (n + 1) q s _ hk (Or.inr (hal k i p q e)) hs hb).2 h
end
end
section
/-! T's list is X's, in another order -/
section
variable {P : Nat} {V Lo Hi Hs nx sg : Nat → Nat} {st : Nat → Bool} {ok : Nat → Nat → Bool} {fe al : Nat → Nat → Nat → Option Nat}
def te_ (P : Nat) (V Lo Hi : Nat → Nat) (st : Nat → Bool) (ok : Nat → Nat → Bool) (al : Nat → Nat → Nat → Option Nat) (sg : Nat → Nat) (f k n p : Nat) (u : Int32) : List Int32 :=
  fm (fun c => if bt u (c / 2) = true then [] else if n = Hi k then [] else om (al k c p) (fun q => mt_T P V Lo Hi st ok al sg f k (n + 1) q (ub u (c / 2)))) 24 0
theorem mt_Th {f k n p : Nat} {u : Int32} (h : st k = false) : mt_T P V Lo Hi st ok al sg (f + 1) k n p u = (if Lo k ≤ n ∧ ok k p = true ∧ p = sg (V k) then (if k + 1 < P then mt_T P V Lo Hi st ok al sg f (k + 1) 0 p u else [u]) else []) ++ te_ P V Lo Hi st ok al sg f k n p u :=
  if_neg (by rw [h]; decide)
theorem mt_Ts {f k n p : Nat} {u : Int32} (h : st k = true) : mt_T P V Lo Hi st ok al sg (f + 1) k n p u = (if ok k (sg (V k)) = true then (if k + 1 < P then mt_T P V Lo Hi st ok al sg f (k + 1) 0 (sg (V k)) u else [u]) else []) :=
  if_pos h
/-- the query's shape -/
def sh_ (P : Nat) (Lo Hi Hs nx : Nat → Nat) (st : Nat → Bool) : Prop :=
  (∀ k, k < P → k < nx k ∧ nx k ≤ P ∧ (∀ j, k < j → j < nx k → st j = true) ∧ (nx k < P → st (nx k) = false)) ∧
  (∀ k, k < P → st k = true → Hs (k + 1) = Hs k) ∧ (∀ k, k < P → st k = false → Hs (k + 1) = Hs k + Hi k ∧ 1 ≤ Lo k ∧ Lo k ≤ Hi k)
theorem hs_m (h : sh_ P Lo Hi Hs nx st) : ∀ d k, k + d ≤ P → Hs k ≤ Hs (k + d)
  | 0, k, _ => Nat.le_refl _
  | d + 1, k, hk => by
    have a := hs_m h d k (by omega)
    cases e : st (k + d) with
    | true => have := h.2.1 (k + d) (by omega) e; show Hs k ≤ Hs (k + d + 1); omega
    | false => have := (h.2.2 (k + d) (by omega) e).1; show Hs k ≤ Hs (k + d + 1); omega
theorem hs_e (h : sh_ P Lo Hi Hs nx st) : ∀ d k, k + d ≤ P → (∀ j, k ≤ j → j < k + d → st j = true) → Hs (k + d) = Hs k
  | 0, k, _, _ => rfl
  | d + 1, k, hk, hj => by
    have a := hs_e h d k (by omega) (fun j h1 h2 => hj j h1 (by omega))
    have := h.2.1 (k + d) (by omega) (hj (k + d) (by omega) (by omega))
    show Hs (k + d + 1) = Hs k
    omega
theorem mt_st (h : sh_ P Lo Hi Hs nx st) (hok : ∀ k, k < P → ok k (sg (V k)) = true) {m : Nat} (hm : m ≤ P) (hm2 : m < P → st m = false) : ∀ d k f p u, k + d = m → k < P → (∀ j, k ≤ j → j < m → st j = true) → (d = 0 → p = sg (V (m - 1))) → P + Hs P ≤ k + Hs k + f →
    mt_T P V Lo Hi st ok al sg f k 0 p u = if m < P then te_ P V Lo Hi st ok al sg (f - d - 1) m 0 (sg (V (m - 1))) u else [u] := by
  intro d
  induction d with
  | zero =>
    intro k f p u hk hkP hj hp hf
    have e : k = m := by omega
    subst e
    have s := hm2 hkP
    have l := (h.2.2 k hkP s).2.1
    have mono := hs_m h (P - k) k (by omega)
    rw [show k + (P - k) = P from by omega] at mono
    obtain ⟨f', rfl⟩ : ∃ f', f = f' + 1 := ⟨f - 1, by omega⟩
    rw [mt_Th s, if_neg (by omega), List.nil_append, if_pos hkP, hp rfl]
    rfl
  | succ d ih =>
    intro k f p u hk hkP hj hp hf
    have s := hj k (by omega) (by omega)
    have e := h.2.1 k hkP s
    have mono := hs_m h (P - k) k (by omega)
    rw [show k + (P - k) = P from by omega] at mono
    obtain ⟨f', rfl⟩ : ∃ f', f = f' + 1 := ⟨f - 1, by omega⟩
    rw [mt_Ts s, if_pos (hok k hkP)]
    by_cases z : k + 1 < P
    · rw [if_pos z, ih (k + 1) f' (sg (V k)) u (by omega) z (fun j h1 h2 => hj j (by omega) h2) (fun q => by rw [show m - 1 = k from by omega]) (by omega), show f' + 1 - (d + 1) - 1 = f' - d - 1 from by omega]
    · rw [if_neg z, if_neg (by omega)]
theorem mt_TX (h : sh_ P Lo Hi Hs nx st) (hok : ∀ k, k < P → ok k (sg (V k)) = true) (hal : ∀ k e p, k < P → st k = false → (al k (2 * e) p = fe k e p ∧ al k (2 * e + 1) p = none) ∨ (al k (2 * e) p = none ∧ al k (2 * e + 1) p = fe k e p)) :
    ∀ f k n p u fT, k < P → st k = false → n < Hi k → Hs P ≤ Hs k + n + f → P + Hs P ≤ k + Hs k + n + 1 + fT →
    (te_ P V Lo Hi st ok al sg fT k n p u).Perm (mt_X P V Lo Hi fe nx sg f k n p u) := by
  intro f
  induction f with
  | zero =>
    intro k n p u fT hk s hn h1 h2
    have := (h.2.2 k hk s).1
    have mono := hs_m h (P - (k + 1)) (k + 1) (by omega)
    rw [show k + 1 + (P - (k + 1)) = P from by omega] at mono
    omega
  | succ f ih =>
    intro k n p u fT hk s hn h1 h2
    have e1 := (h.2.2 k hk s).1
    have mono := hs_m h (P - (k + 1)) (k + 1) (by omega)
    rw [show k + 1 + (P - (k + 1)) = P from by omega] at mono
    obtain ⟨fT, rfl⟩ : ∃ f', fT = f' + 1 := ⟨fT - 1, by omega⟩
    unfold te_ mt_X
    refine (List.Perm.of_eq (fm_two _ 12 0)).trans (List.Perm.trans (fm_perm (fun e _ _ => ?_)) (List.Perm.of_eq (fm_two _ 12 0).symm))
    have d1 : 2 * e / 2 = e := by omega
    have d2 : (2 * e + 1) / 2 = e := by omega
    have m1 : 2 * e % 2 = 0 := by omega
    have m2 : ¬ (2 * e + 1) % 2 = 0 := by omega
    rw [d1, d2]
    by_cases b : bt u e = true
    · rw [if_pos b, if_pos b, if_pos b, if_pos b]
    rw [if_neg b, if_neg b, if_neg b, if_neg b, if_neg (show ¬ n = Hi k by omega), if_neg (show ¬ n = Hi k by omega)]
    cases hq : fe k e p with
    | none =>
      have : al k (2 * e) p = none ∧ al k (2 * e + 1) p = none := by
        rcases hal k e p hk s with ⟨a, b⟩ | ⟨a, b⟩
        · exact ⟨a.trans hq, b⟩
        · exact ⟨a, b.trans hq⟩
      rw [this.1, this.2]
      exact List.Perm.refl _
    | some q =>
      have T : (om (al k (2 * e) p) (fun q => mt_T P V Lo Hi st ok al sg (fT + 1) k (n + 1) q (ub u e)) ++ om (al k (2 * e + 1) p) (fun q => mt_T P V Lo Hi st ok al sg (fT + 1) k (n + 1) q (ub u e))) = mt_T P V Lo Hi st ok al sg (fT + 1) k (n + 1) q (ub u e) := by
        rcases hal k e p hk s with ⟨a, b⟩ | ⟨a, b⟩
        · rw [a, b, hq]; exact List.append_nil _
        · rw [a, b, hq]; exact List.nil_append _
      have X1 : om (some q) (fun q => if 2 * e % 2 = 0 then (if n + 1 < Hi k then mt_X P V Lo Hi fe nx sg f k (n + 1) q (ub u e) else []) else if Lo k ≤ n + 1 ∧ q = sg (V k) then (if nx k < P then mt_X P V Lo Hi fe nx sg f (nx k) 0 (sg (V (nx k - 1))) (ub u e) else [ub u e]) else []) = (if n + 1 < Hi k then mt_X P V Lo Hi fe nx sg f k (n + 1) q (ub u e) else []) := if_pos m1
      have X2 : om (some q) (fun q => if (2 * e + 1) % 2 = 0 then (if n + 1 < Hi k then mt_X P V Lo Hi fe nx sg f k (n + 1) q (ub u e) else []) else if Lo k ≤ n + 1 ∧ q = sg (V k) then (if nx k < P then mt_X P V Lo Hi fe nx sg f (nx k) 0 (sg (V (nx k - 1))) (ub u e) else [ub u e]) else []) = (if Lo k ≤ n + 1 ∧ q = sg (V k) then (if nx k < P then mt_X P V Lo Hi fe nx sg f (nx k) 0 (sg (V (nx k - 1))) (ub u e) else [ub u e]) else []) := if_neg m2
      rw [T, mt_Th s, X1, X2]
      refine List.perm_append_comm.trans (List.Perm.append ?_ ?_)
      · by_cases z : n + 1 < Hi k
        · rw [if_pos z]
          exact ih k (n + 1) q (ub u e) fT hk s z (by omega) (by omega)
        · rw [if_neg z]
          unfold te_
          rw [fm_nil (fun i _ _ => by
            split
            · rfl
            · rw [if_pos (by omega)])]
      · by_cases z : Lo k ≤ n + 1 ∧ q = sg (V k)
        · have z' : Lo k ≤ n + 1 ∧ ok k q = true ∧ q = sg (V k) := ⟨z.1, by rw [z.2]; exact hok k hk, z.2⟩
          obtain ⟨n1, n2, n3, n4⟩ := h.1 k hk
          rw [if_pos z, if_pos z']
          by_cases y : k + 1 < P
          · have hse := hs_e h (nx k - (k + 1)) (k + 1) (by omega) (fun j j1 j2 => n3 j (by omega) (by omega))
            rw [show k + 1 + (nx k - (k + 1)) = nx k from by omega] at hse
            rw [if_pos y, mt_st h hok n2 n4 (nx k - (k + 1)) (k + 1) fT q (ub u e) (by omega) y (fun j j1 j2 => n3 j (by omega) j2) (fun w => by rw [z.2, show nx k - 1 = k from by omega]) (by omega)]
            by_cases x : nx k < P
            · rw [if_pos x, if_pos x]
              have hi := (h.2.2 (nx k) x (n4 x)).2
              exact ih (nx k) 0 _ (ub u e) _ x (n4 x) (by omega) (by omega) (by omega)
            · rw [if_neg x, if_neg x]
          · rw [if_neg y, if_neg (show ¬ nx k < P by omega)]
        · rw [if_neg z, if_neg (show ¬ (Lo k ≤ n + 1 ∧ ok k q = true ∧ q = sg (V k)) from fun w => z ⟨w.1, w.2.2⟩)]
/-- X's list for one choice of nodes -/
def fl_ (P : Nat) (V Lo Hi : Nat → Nat) (fe : Nat → Nat → Nat → Option Nat) (nx sg : Nat → Nat) : List Int32 := if nx 0 < P then mt_X P V Lo Hi fe nx sg 5 (nx 0) 0 (sg (V (nx 0 - 1))) 0 else [0]
theorem mt_fl (h : sh_ P Lo Hi Hs nx st) (hok : ∀ k, k < P → ok k (sg (V k)) = true) (hal : ∀ k e p, k < P → st k = false → (al k (2 * e) p = fe k e p ∧ al k (2 * e + 1) p = none) ∨ (al k (2 * e) p = none ∧ al k (2 * e + 1) p = fe k e p))
    (hP : 0 < P) (hP6 : P ≤ 6) (h0 : st 0 = true) (hH : Hs P ≤ 5) (hH0 : Hs 0 = 0) (p : Nat) : (mt_T P V Lo Hi st ok al sg 14 0 0 p 0).Perm (fl_ P V Lo Hi fe nx sg) := by
  obtain ⟨n1, n2, n3, n4⟩ := h.1 0 hP
  have hse := hs_e h (nx 0) 0 (by omega) (fun j j1 j2 => by
    by_cases z : j = 0
    · rw [z]; exact h0
    · exact n3 j (by omega) (by omega))
  rw [Nat.zero_add] at hse
  rw [mt_st h hok n2 n4 (nx 0) 0 14 p 0 (by omega) hP (fun j j1 j2 => by
    by_cases z : j = 0
    · rw [z]; exact h0
    · exact n3 j (by omega) (by omega)) (fun w => by omega) (by omega)]
  unfold fl_
  by_cases x : nx 0 < P
  · rw [if_pos x, if_pos x]
    have hi := (h.2.2 (nx 0) x (n4 x)).2
    exact mt_TX h hok hal 5 (nx 0) 0 _ 0 _ x (n4 x) (by omega) (by omega) (by omega)
  · rw [if_neg x, if_neg x]
theorem mt_no {j : Nat} (hj : j < P) (hn : ok j (sg (V j)) = false) : ∀ f k n p u, k ≤ j → mt_T P V Lo Hi st ok al sg f k n p u = []
  | 0, _, _, _, _, _ => rfl
  | f + 1, k, n, p, u, hk => by
    have ih := mt_no hj hn f
    cases s : st k with
    | true =>
      rw [mt_Ts s]
      by_cases z : k = j
      · rw [z, if_neg (by rw [hn]; decide)]
      · split
        · rw [if_pos (by omega)]
          exact ih (k + 1) 0 _ u (by omega)
        · rfl
    | false =>
      rw [mt_Th s]
      have e : te_ P V Lo Hi st ok al sg f k n p u = [] := by
        unfold te_
        refine fm_nil (fun i _ _ => ?_)
        split
        · rfl
        · split
          · rfl
          · cases al k i p with
            | none => rfl
            | some q => exact ih k (n + 1) q _ hk
      rw [e, List.append_nil]
      by_cases z : k = j
      · rw [if_neg (fun w => by
          have w2 := w.2.1
          rw [w.2.2, z, hn] at w2
          exact absurd w2 (by decide))]
      · split
        · rw [if_pos (by omega)]
          exact ih (k + 1) 0 _ u (by omega)
        · rfl
/-! where a walk of the hop's kind can end -/
def rk_ (fe : Nat → Nat → Nat → Option Nat) (k : Nat) : Nat → Nat → Nat → Prop
  | 0, p, r => r = p
  | m + 1, p, r => ∃ e q, e < 12 ∧ fe k e p = some q ∧ rk_ fe k m q r
theorem mt_ar : ∀ f k n p u x, n < Hi k → x ∈ mt_X P V Lo Hi fe nx sg f k n p u → (∃ m, Lo k ≤ n + m ∧ n + m ≤ Hi k ∧ rk_ fe k m p (sg (V k))) ∧ (nx k < P → ∃ f' u' x', x' ∈ mt_X P V Lo Hi fe nx sg f' (nx k) 0 (sg (V (nx k - 1))) u')
  | 0, k, n, p, u, x, _, hx => absurd hx (by unfold mt_X; exact List.not_mem_nil)
  | f + 1, k, n, p, u, x, hn, hx => by
    have ih := mt_ar f
    unfold mt_X at hx
    obtain ⟨j, _, hj, hx⟩ := fm_mem hx
    split at hx
    · exact absurd hx List.not_mem_nil
    · cases hq : fe k (j / 2) p with
      | none => rw [hq] at hx; exact absurd hx List.not_mem_nil
      | some q =>
        rw [hq] at hx
        have hx : x ∈ (if j % 2 = 0 then (if n + 1 < Hi k then mt_X P V Lo Hi fe nx sg f k (n + 1) q (ub u (j / 2)) else [])
          else if Lo k ≤ n + 1 ∧ q = sg (V k) then (if nx k < P then mt_X P V Lo Hi fe nx sg f (nx k) 0 (sg (V (nx k - 1))) (ub u (j / 2)) else [ub u (j / 2)]) else []) := hx
        split at hx
        · split at hx
          · next z =>
            obtain ⟨⟨m, a, b, c⟩, d⟩ := ih k (n + 1) q _ x z hx
            exact ⟨⟨m + 1, by omega, by omega, j / 2, q, by omega, hq, c⟩, d⟩
          · exact absurd hx List.not_mem_nil
        · split at hx
          · next z =>
            refine ⟨⟨1, z.1, by omega, j / 2, q, by omega, hq, z.2.symm⟩, fun w => ?_⟩
            rw [if_pos w] at hx
            exact ⟨_, _, _, hx⟩
          · exact absurd hx List.not_mem_nil
theorem mt_ars (h : sh_ P Lo Hi Hs nx st) : ∀ d k f u x, k + d = P → k < P → st k = false → x ∈ mt_X P V Lo Hi fe nx sg f k 0 (sg (V (k - 1))) u → ∀ j, k ≤ j → j < P → st j = false → ∃ m, Lo j ≤ m ∧ m ≤ Hi j ∧ rk_ fe j m (sg (V (j - 1))) (sg (V j)) := by
  intro d
  induction d using Nat.strongRecOn with
  | ind d ih =>
    intro k f u x hd hk s hx j j1 j2 j3
    have l := (h.2.2 k hk s).2
    obtain ⟨⟨m, a, b, c⟩, e⟩ := mt_ar f k 0 _ u x (by omega) hx
    rw [Nat.zero_add] at a b
    by_cases z : j = k
    · rw [z]; exact ⟨m, a, b, c⟩
    · obtain ⟨n1, n2, n3, n4⟩ := h.1 k hk
      have : nx k ≤ j := by
        rcases Nat.lt_or_ge j (nx k) with w | w
        · rw [n3 j (by omega) w] at j3; exact absurd j3 (by decide)
        · exact w
      obtain ⟨f', u', x', hx'⟩ := e (by omega)
      exact ih (P - nx k) (by omega) (nx k) f' u' x' (by omega) (by omega) (n4 (by omega)) hx' j this j2 j3
theorem fl_ar (h : sh_ P Lo Hi Hs nx st) (hP : 0 < P) (h0 : st 0 = true) {x : Int32} (hx : x ∈ fl_ P V Lo Hi fe nx sg) : ∀ j, j < P → st j = false → ∃ m, Lo j ≤ m ∧ m ≤ Hi j ∧ rk_ fe j m (sg (V (j - 1))) (sg (V j)) := by
  intro j hj s
  obtain ⟨n1, n2, n3, n4⟩ := h.1 0 hP
  have : nx 0 ≤ j := by
    rcases Nat.lt_or_ge j (nx 0) with w | w
    · by_cases z : j = 0
      · rw [z, h0] at s; exact absurd s (by decide)
      · rw [n3 j (by omega) w] at s; exact absurd s (by decide)
    · exact w
  unfold fl_ at hx
  rw [if_pos (by omega)] at hx
  exact mt_ars h (P - nx 0) (nx 0) 5 0 x (by omega) (by omega) (n4 (by omega)) hx j this hj s
end
end
section
/-! the condition for chosen nodes: a pure stack of truths (0 false, 1 unknown, 2 true) -/
def vo_ (pr : Nat → Int64) (s : Nat → Int32) (t : Nat) : Int64 := if t < 4 then pr (s t).toNatClampNeg else (nI t - 1000).toInt64
def cm_ (pr : Nat → Int64) (s : Nat → Int32) (c : Nat → Nat) (i : Nat) : Nat :=
  if c i = 13 then (if s (c (i + 1)) = s (c (i + 2)) then 2 else 0)
  else if c i = 12 then (if vo_ pr s (c (i + 1)) = 9000000000000000000 then 2 else 0)
  else if vo_ pr s (c (i + 1)) = 9000000000000000000 then 1
  else if vo_ pr s (c (i + 2)) = 9000000000000000000 then 1
  else if c i = 11 then (if vo_ pr s (c (i + 1)) = vo_ pr s (c (i + 2)) then 2 else 0)
  else (if vo_ pr s (c (i + 2)) ≤ vo_ pr s (c (i + 1)) then 0 else 2)
def jn_ (t a b : Nat) : Nat := if t = 14 then (if b ≤ a then b else a) else (if b ≤ a then a else b)
def ts_ (pr : Nat → Int64) (s : Nat → Int32) (c cs : Nat → Nat) (n : Nat) : Nat → Nat → Nat
  | 0 => fun _ => 0
  | j + 1 => fun l =>
    if l = cs (n - 1 - j) - 1 then
      (if c (n - 1 - j) < 10 then ts_ pr s c cs n j l
      else if c (n - 1 - j) ≤ 13 then cm_ pr s c (n - 1 - j)
      else if c (n - 1 - j) ≤ 15 then jn_ (c (n - 1 - j)) (ts_ pr s c cs n j (cs (n - 1 - j))) (ts_ pr s c cs n j (cs (n - 1 - j) - 1))
      else if c (n - 1 - j) = 16 then 2 - ts_ pr s c cs n j (cs (n - 1 - j) - 1)
      else ts_ pr s c cs n j l)
    else ts_ pr s c cs n j l
def tk_ (pr : Nat → Int64) (s : Nat → Int32) (c cs : Nat → Nat) (n k : Nat) : Nat → Nat := ts_ pr s c cs n (n - k)
theorem tk_e {pr : Nat → Int64} {s : Nat → Int32} {c cs : Nat → Nat} {n k : Nat} (hk : k < n) (l : Nat) : tk_ pr s c cs n k l = if l = cs k - 1 then
      (if c k < 10 then tk_ pr s c cs n (k + 1) l
      else if c k ≤ 13 then cm_ pr s c k
      else if c k ≤ 15 then jn_ (c k) (tk_ pr s c cs n (k + 1) (cs k)) (tk_ pr s c cs n (k + 1) (cs k - 1))
      else if c k = 16 then 2 - tk_ pr s c cs n (k + 1) (cs k - 1)
      else tk_ pr s c cs n (k + 1) l)
    else tk_ pr s c cs n (k + 1) l := by
  unfold tk_
  obtain ⟨j, hj⟩ : ∃ j, n - k = j + 1 := ⟨n - k - 1, by omega⟩
  have e1 : n - 1 - j = k := by omega
  have e3 : n - (k + 1) = j := by omega
  rw [hj, e3]
  show (if l = cs (n - 1 - j) - 1 then _ else _) = _
  rw [e1]
theorem cm_2 (pr : Nat → Int64) (s : Nat → Int32) (c : Nat → Nat) (i : Nat) : cm_ pr s c i ≤ 2 := by
  unfold cm_
  repeat' split
  all_goals omega
theorem jn_2 {t a b : Nat} (ha : a ≤ 2) (hb : b ≤ 2) : jn_ t a b ≤ 2 := by
  unfold jn_
  repeat' split
  all_goals omega
theorem tk_2 (pr : Nat → Int64) (s : Nat → Int32) (c cs : Nat → Nat) (n : Nat) : ∀ j l, ts_ pr s c cs n j l ≤ 2
  | 0, _ => Nat.zero_le 2
  | j + 1, l => by
    have ih := tk_2 pr s c cs n j
    unfold ts_
    split
    · split
      · exact ih l
      · split
        · exact cm_2 pr s c _
        · split
          · exact jn_2 (ih _) (ih _)
          · split
            · omega
            · exact ih l
    · exact ih l
/-- operands behind a comparison -/
def op_ (nm : Nat → Prop) (t : Nat) : Prop := (t < 4 ∧ nm t) ∨ (1000 ≤ t ∧ t ≤ 10999)
theorem cd_op {c : Nat → Nat} {nm : Nat → Prop} {n : Nat} {cs os : Nat → Nat} {nu : Nat → Prop} (h : cd_W c nm n cs os nu) {k : Nat} (hk : k < n) (ho : os k = 0) (h1 : 10 ≤ c k) (h2 : c k ≤ 13) :
    0 < cs k ∧ cs (k + 1) = cs k - 1 ∧ k + 1 < n ∧ op_ nm (c (k + 1)) ∧ (c k = 13 → c (k + 1) < 4 ∧ nm (c (k + 1))) ∧ (c k = 12 → os (k + 1) = 1) ∧ (c k ≠ 12 → os (k + 1) = 2 ∧ k + 2 < n ∧ op_ nm (c (k + 2)) ∧ (c k = 13 → c (k + 2) < 4 ∧ nm (c (k + 2)))) := by
  have hn := h.2.2.2.1
  rcases h.2.2.2.2 k hk with ⟨a, _⟩ | ⟨_, _, a, _⟩ | ⟨_, _, a, _⟩ | ⟨_, z, _, _, w, o, v⟩
  · omega
  · omega
  · omega
  · have o1 : 0 < os (k + 1) := by rw [o]; split <;> omega
    have k1 : k + 1 < n := by
      rcases Nat.lt_or_ge (k + 1) n with q | q
      · exact q
      · have : k + 1 = n := by omega
        rw [this, hn] at o1
        omega
    rcases h.2.2.2.2 (k + 1) k1 with ⟨_, c1, b, d, f⟩ | ⟨a, _⟩ | ⟨a, _⟩ | ⟨a, _⟩
    · refine ⟨z, w, k1, f.imp id (fun q => q.2), fun e => ?_, fun e => by rw [o, if_pos e], fun e => ?_⟩
      · rcases f with f | f
        · exact f
        · exact absurd (v.mp f.1) (fun q => q e)
      · have o2 : os (k + 1) = 2 := by rw [o, if_neg e]
        have o3 : os (k + 2) = 1 := by
          have : os (k + 1 + 1) = os (k + 1) - 1 := b
          rw [o2] at this
          exact this
        have k2 : k + 2 < n := by
          rcases Nat.lt_or_ge (k + 2) n with q | q
          · exact q
          · have : k + 2 = n := by omega
            rw [this, hn] at o3
            omega
        rcases h.2.2.2.2 (k + 2) k2 with ⟨_, _, _, _, f2⟩ | ⟨a, _⟩ | ⟨a, _⟩ | ⟨a, _⟩
        · refine ⟨o2, k2, f2.imp id (fun q => q.2), fun e' => ?_⟩
          rcases f2 with f2 | f2
          · exact f2
          · have : nu (k + 1) := d.mp f2.1
            exact absurd (v.mp this) (fun q => q e')
        · omega
        · omega
        · omega
    · omega
    · omega
    · omega
theorem cd_wb {c : Nat → Nat} {nm : Nat → Prop} {n : Nat} {cs os : Nat → Nat} {nu : Nat → Prop} (h : cd_W c nm n cs os nu) : ∀ d i, i + d = n → cs i + os i ≤ d
  | 0, i, hi => by rw [show i = n from by omega, h.2.2.1, h.2.2.2.1]; exact Nat.le_refl 0
  | d + 1, i, hi => by
    have a := cd_wb h d (i + 1) (by omega)
    rcases h.2.2.2.2 i (by omega) with ⟨_, b, c, _⟩ | ⟨b, b', _, _, c, d⟩ | ⟨b, b', _, c, d⟩ | ⟨b, b', _, _, c, d, _⟩
    · omega
    · omega
    · omega
    · rw [d] at a
      split at a <;> omega
theorem cd_10 {c : Nat → Nat} {nm : Nat → Prop} {n : Nat} {cs os : Nat → Nat} {nu : Nat → Prop} (h : cd_W c nm n cs os nu) {k : Nat} (hk : k < n) : c k ≤ 10999 ∧ (0 < os k → (c k < 4 ∨ 1000 ≤ c k) ∧ cs (k + 1) = cs k ∧ os (k + 1) = os k - 1) ∧ (os k = 0 → 10 ≤ c k ∧ c k ≤ 16 ∧ 0 < cs k ∧ (14 ≤ c k → c k ≤ 15 → cs (k + 1) = cs k + 1 ∧ os (k + 1) = 0) ∧ (c k = 16 → cs (k + 1) = cs k ∧ os (k + 1) = 0)) := by
  rcases h.2.2.2.2 k hk with ⟨a, b, b', _, c⟩ | ⟨a, b, b1, b2, c, d⟩ | ⟨a, b, b1, c, d⟩ | ⟨a, b, b1, b2, c, d, _⟩
  · refine ⟨by omega, fun _ => ⟨by omega, b, b'⟩, fun q => by omega⟩
  · exact ⟨by omega, fun q => by omega, fun _ => ⟨by omega, by omega, b, fun _ _ => ⟨c, d⟩, fun q => by omega⟩⟩
  · exact ⟨by omega, fun q => by omega, fun _ => ⟨by omega, by omega, b, fun _ q => by omega, fun _ => ⟨c, d⟩⟩⟩
  · exact ⟨by omega, fun q => by omega, fun _ => ⟨by omega, by omega, b, fun q _ => by omega, fun q => by omega⟩⟩
/-- the named variables stand for nodes that are there -/
def sn_ (nT : Int32) (nm : Nat → Prop) (s : Nat → Int32) : Prop := ∀ v, v < 4 → nm v → ∃ m, m < 8 ∧ s v = nI m ∧ bt nT m = true
variable {nT : Int32} {eT : Int32} {xlv : Int32} {xpc : Int32} {xqc : Int32} {xcc : Int32} {xec : Int32} {mc : Int32} {lw : Int32} {rc : Int32} {xla : Nat → Int32} {xpr : Nat → Int64} {xed : Nat → Int32} {sN : Nat → Int32} {sE : Nat → Int32} {sL : Nat → Int32} {sP : Nat → Int64} {sD : Nat → Int32} {pva : Nat → Int32} {pwa : Nat → Int32} {pam : Nat → Int32} {pdi : Nat → Int32} {plo : Nat → Int32} {phi : Nat → Int32} {ptk : Nat → Int32} {pco : Nat → Int32} {pex : Nat → Int32} {tr : Nat → Int32} {ds : Nat → Int32} {ch : Nat → Int32} {ar : Nat → Int32} {rN : Nat → Int32} {rM : Nat → Int32} {s1 : Nat → Int32} {s2 : Nat → Int32} {s3 : Nat → Int32} {s4 : Nat → Int32} {s5 : Nat → Int32}
variable {ylv : Int32} {ypc : Int32} {yqc : Int32} {ycc : Int32} {yec : Int32} {yde : Int32} {yus : Int32} {ywe : Int32} {yfo : Int32} {yli : Int32} {yso : Int32} {ysu : Int64} {yla : Nat → Int32} {ypr : Nat → Int64} {yfr : Nat → Int32} {yto : Nat → Int32} {yty : Nat → Int32} {ywt : Nat → Int32} {yst : Nat → Int32} {ypa : Nat → Int32} {ysp : Nat → Int32} {ypl : Nat → Int32} {ycp : Nat → Int32} {ybo : Nat → Int32} {ytk : Nat → Int32} {yno : Nat → Int32} {ych : Nat → Int32} {yfa : Nat → Int32}
theorem xc_v {post : Int64 → Prop} {nm : Nat → Prop} {s : Nat → Int32} {t : Nat} (hR : gr_R nT eT xla xpr xed yla ypr yfr yto yty ywt) (ht : op_ nm t) (hs : sn_ nT nm s) (hc : ∀ v, v < 4 → ch v = s v) (h : post (vo_ ypr s t)) : wpX_valueOf post (nT, eT, xlv, xpc, xqc, xcc, xec, mc, lw, rc, xla, xpr, xed, sN, sE, sL, sP, sD, pva, pwa, pam, pdi, plo, phi, ptk, pco, pex, tr, ds, ch, ar, rN, rM, s1, s2, s3, s4, s5) (nI t) := by
  unfold vo_ at h
  rcases ht with ⟨h4, hn⟩ | ⟨h1, h2⟩
  · obtain ⟨m, hm, e, b⟩ := hs t h4 hn
    have ep : ypr m = xpr m := by
      rcases hR.2.2.1 m hm with ⟨_, _, q⟩ | ⟨q, _⟩
      · exact q
      · rw [q] at b; exact absurd b (by decide)
    rw [if_pos h4, e, nI_clamp (by omega), ep] at h
    refine br_f (nI_ge (b := 4) h4 (by omega)) ⟨vp_in_nI h4 (by omega), ?_⟩
    rw [nI_clamp (by omega), hc t h4, e]
    refine ⟨vp_in_nI hm (by omega), ?_⟩
    rw [nI_clamp (by omega)]
    exact h
  · rw [if_neg (by omega)] at h
    exact br_t (nI_le (a := 4) (by omega) (by omega)) h
theorem xc_c {post : Int32 → Prop} {n : Nat} {c cs os : Nat → Nat} {nm nu : Nat → Prop} {s : Nat → Int32} (hn : n ≤ 12) (hco : ∀ k, k < n → pco k = nI (c k)) (hR : gr_R nT eT xla xpr xed yla ypr yfr yto yty ywt) (hW : cd_W c nm n cs os nu) (hs : sn_ nT nm s) (hc : ∀ v, v < 4 → ch v = s v) {k : Nat} (hk : k < n) (ho : os k = 0) (h1 : 10 ≤ c k) (h2 : c k ≤ 13) (h : post (nI (cm_ ypr s c k))) : wpX_comparison post (nT, eT, xlv, xpc, xqc, xcc, xec, mc, lw, rc, xla, xpr, xed, sN, sE, sL, sP, sD, pva, pwa, pam, pdi, plo, phi, ptk, pco, pex, tr, ds, ch, ar, rN, rM, s1, s2, s3, s4, s5) (nI k) := by
  obtain ⟨_, _, k1, o1, s1, _, r⟩ := cd_op hW hk ho h1 h2
  have e1 : nI k + 1 = nI (k + 1) := nI_1 k
  have e2 : nI k + 2 = nI (k + 2) := nI_add k 2
  have ne : ∀ a, a < 100 → c k ≠ a → ¬ nI (c k) = nI a := fun a ha q e => q ((nI_eq (by omega) (by omega)).mp e)
  have wk : vp_in (nI k) 12 := vp_in_nI (by omega) (by omega)
  have w1 : vp_in (nI (k + 1)) 12 := vp_in_nI (by omega) (by omega)
  have d0 : pco (nI k).toNatClampNeg = nI (c k) := by rw [nI_clamp (by omega), hco k hk]
  have d1 : pco (nI (k + 1)).toNatClampNeg = nI (c (k + 1)) := by rw [nI_clamp (by omega), hco _ k1]
  unfold cm_ at h
  unfold wpX_comparison
  dsimp only
  rw [e1, e2, d0, d1]
  refine ⟨wk, ?_⟩
  by_cases z : c k = 13
  · obtain ⟨_, k2, _, s2⟩ := r (by omega)
    have d2 : pco (nI (k + 2)).toNatClampNeg = nI (c (k + 2)) := by rw [nI_clamp (by omega), hco _ k2]
    obtain ⟨a1, _⟩ := s1 z
    obtain ⟨a2, _⟩ := s2 z
    rw [if_pos z] at h
    rw [d2]
    refine br_t (by rw [z]; rfl) ⟨w1, vp_in_nI a1 (by omega), vp_in_nI (by omega) (by omega), vp_in_nI a2 (by omega), ?_⟩
    rw [nI_clamp (by omega), nI_clamp (by omega), hc _ a1, hc _ a2]
    by_cases q : s (c (k + 1)) = s (c (k + 2))
    · rw [if_pos q] at h; exact br_t q h
    · rw [if_neg q] at h; exact br_f q h
  rw [if_neg z] at h
  refine br_f (ne 13 (by omega) z) ⟨w1, xc_v hR o1 hs hc ⟨wk, ?_⟩⟩
  by_cases y : c k = 12
  · rw [if_pos y] at h
    refine br_t (by rw [y]; rfl) ?_
    by_cases q : vo_ ypr s (c (k + 1)) = 9000000000000000000
    · rw [if_pos q] at h; exact br_t q h
    · rw [if_neg q] at h; exact br_f q h
  rw [if_neg y] at h
  obtain ⟨_, k2, o2, _⟩ := r y
  have d2 : pco (nI (k + 2)).toNatClampNeg = nI (c (k + 2)) := by rw [nI_clamp (by omega), hco _ k2]
  rw [d2]
  refine br_f (ne 12 (by omega) y) ⟨vp_in_nI (by omega) (by omega), xc_v hR o2 hs hc ?_⟩
  by_cases q : vo_ ypr s (c (k + 1)) = 9000000000000000000
  · rw [if_pos q] at h; exact br_t q h
  rw [if_neg q] at h
  refine br_f q ?_
  by_cases q2 : vo_ ypr s (c (k + 2)) = 9000000000000000000
  · rw [if_pos q2] at h; exact br_t q2 h
  rw [if_neg q2] at h
  refine br_f q2 ⟨wk, ?_⟩
  by_cases x : c k = 11
  · rw [if_pos x] at h
    refine br_t (by rw [x]; rfl) ?_
    by_cases q3 : vo_ ypr s (c (k + 1)) = vo_ ypr s (c (k + 2))
    · rw [if_pos q3] at h; exact br_t q3 (br_f tg_10 h)
    · rw [if_neg q3] at h; exact br_f q3 (br_t rfl h)
  · rw [if_neg x] at h
    refine br_f (ne 11 (by omega) x) ?_
    by_cases q3 : vo_ ypr s (c (k + 2)) ≤ vo_ ypr s (c (k + 1))
    · rw [if_pos q3] at h; exact br_t q3 (br_t rfl h)
    · rw [if_neg q3] at h; exact br_f q3 (br_f tg_10 h)
end
section
/-! conditionHolds and truth -/
theorem tk_op {pr : Nat → Int64} {s : Nat → Int32} {c cs : Nat → Nat} {n k : Nat} (hk : k < n) (h : c k < 4 ∨ 1000 ≤ c k) (l : Nat) : tk_ pr s c cs n k l = tk_ pr s c cs n (k + 1) l := by
  rw [tk_e hk]
  split
  · by_cases z : c k < 10
    · rw [if_pos z]
    · rw [if_neg z, if_neg (by omega), if_neg (by omega), if_neg (by omega)]
  · rfl
def cv_ (pr : Nat → Int64) (s : Nat → Int32) (c cs : Nat → Nat) (n : Nat) : Bool := decide (n = 0 ∨ tk_ pr s c cs n 0 0 = 2)
theorem tk_le (pr : Nat → Int64) (s : Nat → Int32) (c cs : Nat → Nat) (n k l : Nat) : tk_ pr s c cs n k l ≤ 2 := tk_2 pr s c cs n _ l
def yk (x : Nat) : Int32 := if x = 0 then 0 else if x = 1 then 2 else 1
theorem yk_a0 : ∀ a, a < 3 → ∀ b, b < 3 → (yk a = 0 ∨ yk b = 0) → yk (jn_ 14 a b) = 0 := by decide +kernel
theorem yk_a1 : ∀ a, a < 3 → ∀ b, b < 3 → (yk a = 1 ∧ yk b = 1) → yk (jn_ 14 a b) = 1 := by decide +kernel
theorem yk_a2 : ∀ a, a < 3 → ∀ b, b < 3 → (¬ yk a = 0 ∧ ¬ yk b = 0 ∧ ¬ (yk a = 1 ∧ yk b = 1)) → yk (jn_ 14 a b) = 2 := by decide +kernel
theorem yk_o1 : ∀ a, a < 3 → ∀ b, b < 3 → (yk a = 1 ∨ yk b = 1) → yk (jn_ 15 a b) = 1 := by decide +kernel
theorem yk_o0 : ∀ a, a < 3 → ∀ b, b < 3 → (yk a = 0 ∧ yk b = 0) → yk (jn_ 15 a b) = 0 := by decide +kernel
theorem yk_o2 : ∀ a, a < 3 → ∀ b, b < 3 → (¬ yk a = 1 ∧ ¬ yk b = 1 ∧ ¬ (yk a = 0 ∧ yk b = 0)) → yk (jn_ 15 a b) = 2 := by decide +kernel
theorem yk_not : ∀ a, a < 3 → (yk a = 2 → yk (2 - a) = 2) ∧ (¬ yk a = 2 → yk (2 - a) = 1 - yk a) := by decide +kernel
variable {nT : Int32} {eT : Int32} {xlv : Int32} {xpc : Int32} {xqc : Int32} {xcc : Int32} {xec : Int32} {mc : Int32} {lw : Int32} {rc : Int32} {xla : Nat → Int32} {xpr : Nat → Int64} {xed : Nat → Int32} {sN : Nat → Int32} {sE : Nat → Int32} {sL : Nat → Int32} {sP : Nat → Int64} {sD : Nat → Int32} {pva : Nat → Int32} {pwa : Nat → Int32} {pam : Nat → Int32} {pdi : Nat → Int32} {plo : Nat → Int32} {phi : Nat → Int32} {ptk : Nat → Int32} {pco : Nat → Int32} {pex : Nat → Int32} {tr : Nat → Int32} {ds : Nat → Int32} {ch : Nat → Int32} {ar : Nat → Int32} {rN : Nat → Int32} {rM : Nat → Int32} {s1 : Nat → Int32} {s2 : Nat → Int32} {s3 : Nat → Int32} {s4 : Nat → Int32} {s5 : Nat → Int32}
variable {ylv : Int32} {ypc : Int32} {yqc : Int32} {ycc : Int32} {yec : Int32} {yde : Int32} {yus : Int32} {ywe : Int32} {yfo : Int32} {yli : Int32} {yso : Int32} {ysu : Int64} {yla : Nat → Int32} {ypr : Nat → Int64} {yfr : Nat → Int32} {yto : Nat → Int32} {yty : Nat → Int32} {ywt : Nat → Int32} {yst : Nat → Int32} {ypa : Nat → Int32} {ysp : Nat → Int32} {ypl : Nat → Int32} {ycp : Nat → Int32} {ybo : Nat → Int32} {ytk : Nat → Int32} {yno : Nat → Int32} {ych : Nat → Int32} {yfa : Nat → Int32}
theorem xc_j {post : Int32 → Prop} {t a b : Nat} (ht : t = 14 ∨ t = 15) (ha : a ≤ 2) (hb : b ≤ 2) (h : post (nI (jn_ t a b))) : wpX_joined post (nI t) (nI a) (nI b) := by
  unfold jn_ at h
  rcases ht with rfl | rfl
  · rw [if_pos rfl] at h
    by_cases z : b ≤ a
    · rw [if_pos z] at h
      exact br_t (nI_le z (by omega)) (br_t rfl h)
    · rw [if_neg z] at h
      exact br_f (nI_ge (by omega) (by omega)) (br_t rfl h)
  · rw [if_neg (by decide)] at h
    by_cases z : b ≤ a
    · rw [if_pos z] at h
      refine br_t (nI_le z (by omega)) (br_f (by decide) ?_)
      rw [nI_add, pk_sub (by omega), show a + b - b = a from by omega]
      exact h
    · rw [if_neg z] at h
      refine br_f (nI_ge (by omega) (by omega)) (br_f (by decide) ?_)
      rw [nI_add, pk_sub (by omega), show a + b - a = b from by omega]
      exact h
theorem xc_l {post : Int32 → SX → Prop} {n : Nat} {c cs os : Nat → Nat} {nm nu : Nat → Prop} {s : Nat → Int32} (hn : n ≤ 12) (hco : ∀ k, k < n → pco k = nI (c k)) (hR : gr_R nT eT xla xpr xed yla ypr yfr yto yty ywt) (hW : n = 0 ∨ cd_W c nm n cs os nu) (hs : sn_ nT nm s) (hc : ∀ v, v < 4 → ch v = s v)
    (h : ∀ tr, post (tg_z (cv_ ypr s c cs n)) (nT, eT, xlv, xpc, xqc, (nI n), xec, mc, lw, rc, xla, xpr, xed, sN, sE, sL, sP, sD, pva, pwa, pam, pdi, plo, phi, ptk, pco, pex, tr, ds, ch, ar, rN, rM, s1, s2, s3, s4, s5)) : wpX_conditionHolds post (nT, eT, xlv, xpc, xqc, (nI n), xec, mc, lw, rc, xla, xpr, xed, sN, sE, sL, sP, sD, pva, pwa, pam, pdi, plo, phi, ptk, pco, pex, tr, ds, ch, ar, rN, rM, s1, s2, s3, s4, s5) := by
  rcases Nat.eq_zero_or_pos n with z0 | z0
  · subst z0
    have e : cv_ ypr s c cs 0 = true := decide_eq_true (Or.inl rfl)
    rw [e] at h
    exact nm_e ⟨1, br_t (by decide) (br_t rfl (h tr))⟩
  have hW := hW.resolve_left (by omega)
  have K : ∀ i tr, i ≤ n → (∀ l, l < cs i → tr l = nI (tk_ ypr s c cs n i l)) → wX_conditionHolds_9 post nT eT xlv xpc xqc (nI n) xec mc lw rc (i + 1) (nI (cs i)) (nI i + (-1)) xla xpr xed sN sE sL sP sD pva pwa pam pdi plo phi ptk pco pex tr ds ch ar rN rM s1 s2 s3 s4 s5 := by
    intro i
    induction i with
    | zero =>
      intro tr hi ht
      have t0 := ht 0 (by rw [hW.1]; omega)
      have hle := tk_le ypr s c cs n 0 0
      refine br_t (by decide) (br_f (nI_ne0 z0 (by omega)) ?_)
      rw [t0]
      by_cases q : tk_ ypr s c cs n 0 0 = 2
      · have e : cv_ ypr s c cs n = true := decide_eq_true (Or.inr q)
        rw [e] at h
        exact br_t (by rw [q]; rfl) (h tr)
      · have e : cv_ ypr s c cs n = false := decide_eq_false (by omega)
        rw [e] at h
        exact br_f (fun w => q ((nI_eq (b := 2) (by omega) (by omega)).mp w)) (h tr)
    | succ k ih =>
      intro tr hi ht
      have wb := cd_wb hW (n - (k + 1)) (k + 1) (by omega)
      have wb0 := cd_wb hW (n - k) k (by omega)
      obtain ⟨cl, co1, co2⟩ := cd_10 hW (k := k) (by omega)
      have ne : ∀ a, a < 100 → c k ≠ a → ¬ nI (c k) = nI a := fun a ha q e => q ((nI_eq (by omega) (by omega)).mp e)
      rw [pk_m1]
      refine br_f (nI_pos (by omega)) ⟨vp_in_nI (by omega) (by omega), nm_r (show _ = nI (c k) from by rw [nI_clamp (by omega), hco k (by omega)]) ?_⟩
      rcases Nat.eq_zero_or_pos (os k) with o | o
      · obtain ⟨t1, t2, w0, b1, b2⟩ := co2 o
        refine br_f (nI_nlt (b := 10) t1 (by omega)) ?_
        by_cases z : c k ≤ 13
        · obtain ⟨_, cw, _⟩ := cd_op hW (by omega) o t1 z
          refine br_f (nI_nlt (b := c k) (a := 13) z (by omega)) (xc_c hn hco hR hW hs hc (by omega) o t1 z ⟨vp_in_nI (by omega) (by omega), nm_r (tg_u (by omega)) (nm_r (show _ = nI (cs k) from ?_) (nm_e (ih _ (by omega) (fun l hl => ?_))))⟩)
          · rw [nI_1]; exact congrArg nI (by omega)
          · rw [tk_e (k := k) (by omega)]
            by_cases y : l = cs k - 1
            · rw [if_pos y, if_neg (by omega), if_pos z, y, cw, pk_us]
            · rw [if_neg y, cw, pk_un y]; exact ht l (by omega)
        · refine br_t (nI_lt (a := 13) (by omega) (by omega)) ?_
          by_cases y : c k = 16
          · obtain ⟨cw, _⟩ := b2 y
            have e1 : nI (cs (k + 1)) - 1 = nI (cs k - 1) := by rw [cw]; exact pk_sub (b := 1) (by omega)
            have w : vp_in (nI (cs k - 1)) 12 := vp_in_nI (by omega) (by omega)
            have hle := tk_le ypr s c cs n (k + 1) (cs k - 1)
            have e2 : 2 - nI (tk_ ypr s c cs n (k + 1) (cs k - 1)) = nI (2 - tk_ ypr s c cs n (k + 1) (cs k - 1)) := pk_sub (a := 2) (by omega)
            unfold wX_conditionHolds_49
            rw [e1, nI_clamp (show cs k - 1 < 2 ^ 31 by omega), ht (cs k - 1) (by omega), e2]
            refine br_t (by rw [y]; rfl) ⟨w, w, nm_e (nm_e ?_)⟩
            rw [cw]
            refine ih _ (by omega) (fun l hl => ?_)
            rw [tk_e (k := k) (by omega)]
            by_cases x : l = cs k - 1
            · rw [if_pos x, if_neg (by omega), if_neg (by omega), if_neg (by omega), if_pos y, x, pk_us]
            · rw [if_neg x, pk_un x]; exact ht l (by omega)
          · obtain ⟨cw, _⟩ := b1 (by omega) (by omega)
            have e0 : nI (cs (k + 1)) + (-1) = nI (cs k) := by rw [cw, pk_m1]
            have e1 : nI (cs k) - 1 = nI (cs k - 1) := pk_sub (b := 1) (by omega)
            have go : wX_conditionHolds_88 post (wX_conditionHolds_9 post nT eT xlv xpc xqc (nI n) xec mc lw rc (k + 1)) (nI (cs (k + 1))) (nI k) (nI (c k)) nT eT xlv xpc xqc (nI n) xec mc lw rc xla xpr xed sN sE sL sP sD pva pwa pam pdi plo phi ptk pco pex tr ds ch ar rN rM s1 s2 s3 s4 s5 := by
              refine nm_r e0 ?_
              rw [e1, nI_clamp (show cs k < 2 ^ 31 by omega), nI_clamp (show cs k - 1 < 2 ^ 31 by omega), ht (cs k) (by omega), ht (cs k - 1) (by omega)]
              refine ⟨vp_in_nI (by omega) (by omega), vp_in_nI (by omega) (by omega), xc_j (by omega) (tk_le _ _ _ _ _ _ _) (tk_le _ _ _ _ _ _ _) ⟨vp_in_nI (by omega) (by omega), nm_e (nm_e (ih _ (by omega) (fun l hl => ?_)))⟩⟩
              rw [tk_e (k := k) (by omega)]
              by_cases x : l = cs k - 1
              · rw [if_pos x, if_neg (by omega), if_neg (by omega), if_pos (by omega), x, pk_us]
              · rw [if_neg x, pk_un x]; exact ht l (by omega)
            refine br_f (ne 16 (by omega) y) ?_
            by_cases x : c k = 14
            · exact br_t (by rw [x]; rfl) go
            · exact br_f (ne 14 (by omega) x) (br_t (by rw [show c k = 15 from by omega]; rfl) go)
      · obtain ⟨t1, cw, _⟩ := co1 o
        have go : wX_conditionHolds_49 post (wX_conditionHolds_9 post nT eT xlv xpc xqc (nI n) xec mc lw rc (k + 1)) (nI (cs (k + 1))) (nI k) (nI (c k)) nT eT xlv xpc xqc (nI n) xec mc lw rc xla xpr xed sN sE sL sP sD pva pwa pam pdi plo phi ptk pco pex tr ds ch ar rN rM s1 s2 s3 s4 s5 := by
          refine br_f (ne 16 (by omega) (by omega)) (br_f (ne 14 (by omega) (by omega)) (br_f (ne 15 (by omega) (by omega)) (nm_e ?_)))
          rw [cw]
          refine ih tr (by omega) (fun l hl => ?_)
          rw [tk_op (by omega) t1]
          exact ht l (by omega)
        by_cases z : c k < 10
        · exact br_t (nI_lt (b := 10) z (by omega)) go
        · exact br_f (nI_nlt (b := 10) (by omega) (by omega)) (br_t (nI_lt (a := 13) (by omega) (by omega)) go)
  have K0 := K n tr (Nat.le_refl n) (fun l hl => absurd hl (by rw [hW.2.2.1]; exact Nat.not_lt_zero l))
  rw [hW.2.2.1] at K0
  exact nm_r (Int32.sub_eq_add_neg (nI n) 1) ⟨n + 1, K0⟩
/-! Y's truth -/
theorem yc_v {post : Int64 → Prop} {nm : Nat → Prop} {s : Nat → Int32} {t : Nat} (ht : op_ nm t) (hs : sn_ nT nm s) (hc : ∀ v, v < 4 → yno v = s v) (h : post (vo_ ypr s t)) : wpY_operand post (ylv, ypc, yqc, ycc, yec, yde, yus, ywe, yfo, yli, yso, ysu, yla, ypr, yfr, yto, yty, ywt, pva, pwa, pam, pdi, plo, phi, ptk, pco, pex, yst, ypa, ysp, ypl, ycp, ybo, ytk, yno, ych, yfa) (nI t) := by
  unfold vo_ at h
  rcases ht with ⟨h4, hn⟩ | ⟨h1, h2⟩
  · obtain ⟨m, hm, e, b⟩ := hs t h4 hn
    rw [if_pos h4] at h
    refine br_t (nI_lt (b := 1000) (by omega) (by omega)) ⟨vp_in_nI h4 (by omega), ?_⟩
    rw [nI_clamp (by omega), hc t h4]
    rw [e] at h ⊢
    exact ⟨vp_in_nI (by omega) (by omega), h⟩
  · rw [if_neg (by omega)] at h
    exact br_f (nI_nlt (b := 1000) (by omega) (by omega)) h
theorem yc_r {post : Int32 → Prop} {n : Nat} {c cs os : Nat → Nat} {nm nu : Nat → Prop} {s : Nat → Int32} (hW : cd_W c nm n cs os nu) (hs : sn_ nT nm s) (hc : ∀ v, v < 4 → yno v = s v) {k : Nat} {b : Int32} (hk : k < n) (ho : os k = 0) (h1 : 10 ≤ c k) (h2 : c k ≤ 13) (hb : c k ≠ 12 → b = nI (c (k + 2))) (h : post (yk (cm_ ypr s c k))) : wpY_result post (ylv, ypc, yqc, ycc, yec, yde, yus, ywe, yfo, yli, yso, ysu, yla, ypr, yfr, yto, yty, ywt, pva, pwa, pam, pdi, plo, phi, ptk, pco, pex, yst, ypa, ysp, ypl, ycp, ybo, ytk, yno, ych, yfa) (nI (c k)) (nI (c (k + 1))) b := by
  obtain ⟨_, _, k1, o1, s1, _, r⟩ := cd_op hW hk ho h1 h2
  have ne : ∀ a, a < 100 → c k ≠ a → ¬ nI (c k) = nI a := fun a ha q e => q ((nI_eq (by omega) (by omega)).mp e)
  unfold cm_ at h
  refine br_f (ne 14 (by omega) (by omega)) (br_f (ne 15 (by omega) (by omega)) (br_f (ne 16 (by omega) (by omega)) ?_))
  by_cases z : c k = 13
  · obtain ⟨_, k2, _, s2⟩ := r (by omega)
    obtain ⟨a1, _⟩ := s1 z
    obtain ⟨a2, _⟩ := s2 z
    rw [if_pos z] at h
    rw [hb (by omega)]
    refine br_t (by rw [z]; rfl) ⟨vp_in_nI a1 (by omega), vp_in_nI a2 (by omega), ?_⟩
    rw [nI_clamp (by omega), nI_clamp (by omega), hc _ a1, hc _ a2]
    by_cases q : s (c (k + 1)) = s (c (k + 2))
    · rw [if_pos q] at h; exact br_t q h
    · rw [if_neg q] at h; exact br_f q h
  rw [if_neg z] at h
  refine br_f (ne 13 (by omega) z) (yc_v o1 hs hc ?_)
  by_cases y : c k = 12
  · rw [if_pos y] at h
    refine br_t (by rw [y]; rfl) ?_
    by_cases q : vo_ ypr s (c (k + 1)) = 9000000000000000000
    · rw [if_pos q] at h; exact br_t q h
    · rw [if_neg q] at h; exact br_f q h
  rw [if_neg y] at h
  obtain ⟨_, k2, o2, _⟩ := r y
  rw [hb y]
  refine br_f (ne 12 (by omega) y) (yc_v o2 hs hc ?_)
  by_cases q : vo_ ypr s (c (k + 1)) = 9000000000000000000
  · rw [if_pos q] at h; exact br_t q h
  rw [if_neg q] at h
  refine br_f q ?_
  by_cases q2 : vo_ ypr s (c (k + 2)) = 9000000000000000000
  · rw [if_pos q2] at h; exact br_t q2 h
  rw [if_neg q2] at h
  refine br_f q2 ?_
  by_cases x : c k = 10
  · rw [if_neg (show ¬ c k = 11 by omega)] at h
    refine br_t (by rw [x]; rfl) ?_
    by_cases q3 : vo_ ypr s (c (k + 2)) ≤ vo_ ypr s (c (k + 1))
    · rw [if_pos q3] at h; exact br_t q3 h
    · rw [if_neg q3] at h; exact br_f q3 h
  · rw [if_pos (show c k = 11 by omega)] at h
    refine br_f (ne 10 (by omega) x) ?_
    by_cases q3 : vo_ ypr s (c (k + 1)) = vo_ ypr s (c (k + 2))
    · rw [if_pos q3] at h; exact br_t q3 h
    · rw [if_neg q3] at h; exact br_f q3 h
theorem yc_j {post : Int32 → Prop} {t a b : Nat} (ht : t = 14 ∨ t = 15) (ha : a ≤ 2) (hb : b ≤ 2) (h : post (yk (jn_ t a b))) : wpY_result post (ylv, ypc, yqc, ycc, yec, yde, yus, ywe, yfo, yli, yso, ysu, yla, ypr, yfr, yto, yty, ywt, pva, pwa, pam, pdi, plo, phi, ptk, pco, pex, yst, ypa, ysp, ypl, ycp, ybo, ytk, yno, ych, yfa) (nI t) (yk a) (yk b) := by
  have ha' : a < 3 := by omega
  have hb' : b < 3 := by omega
  rcases ht with rfl | rfl
  · refine br_t rfl (br_c (fun w1 => ?_) (fun w1 => br_c (fun w2 => ?_) (fun w2 => br_c (fun w3 => br_c (fun w4 => ?_) (fun w4 => ?_)) (fun w3 => ?_))))
    · rw [yk_a0 a ha' b hb' (Or.inl w1)] at h; exact h
    · rw [yk_a0 a ha' b hb' (Or.inr w2)] at h; exact h
    · rw [yk_a1 a ha' b hb' ⟨w3, w4⟩] at h; exact h
    · rw [yk_a2 a ha' b hb' ⟨w1, w2, fun q => w4 q.2⟩] at h; exact h
    · rw [yk_a2 a ha' b hb' ⟨w1, w2, fun q => w3 q.1⟩] at h; exact h
  · refine br_f (by decide) (br_t rfl (br_c (fun w1 => ?_) (fun w1 => br_c (fun w2 => ?_) (fun w2 => br_c (fun w3 => br_c (fun w4 => ?_) (fun w4 => ?_)) (fun w3 => ?_)))))
    · rw [yk_o1 a ha' b hb' (Or.inl w1)] at h; exact h
    · rw [yk_o1 a ha' b hb' (Or.inr w2)] at h; exact h
    · rw [yk_o0 a ha' b hb' ⟨w3, w4⟩] at h; exact h
    · rw [yk_o2 a ha' b hb' ⟨w1, w2, fun q => w4 q.2⟩] at h; exact h
    · rw [yk_o2 a ha' b hb' ⟨w1, w2, fun q => w3 q.1⟩] at h; exact h
theorem yc_n {post : Int32 → Prop} {a : Nat} {b : Int32} (ha : a ≤ 2) (h : post (yk (2 - a))) : wpY_result post (ylv, ypc, yqc, ycc, yec, yde, yus, ywe, yfo, yli, yso, ysu, yla, ypr, yfr, yto, yty, ywt, pva, pwa, pam, pdi, plo, phi, ptk, pco, pex, yst, ypa, ysp, ypl, ycp, ybo, ytk, yno, ych, yfa) (nI 16) (yk a) b := by
  have q := yk_not a (by omega)
  refine br_f (by decide) (br_f (by decide) (br_t rfl (br_c (fun w => ?_) (fun w => ?_))))
  · rw [q.1 w] at h; exact h
  · rw [q.2 w] at h; exact h
end
section
/-! Y's truth: the loop -/
def st_T (pr : Nat → Int64) (s : Nat → Int32) (c cs os : Nat → Nat) (n : Nat) (yst : Nat → Int32) (i : Nat) : Prop :=
  (∀ l, l < cs i → yst l = yk (tk_ pr s c cs n i l)) ∧ ∀ m, m < os i → yst (cs i + os i - 1 - m) = nI (c (i + m))
theorem yk_1 : ∀ a, a < 3 → ¬ a = 2 → ¬ yk a = 1 := by decide +kernel
theorem st_op {pr : Nat → Int64} {s : Nat → Int32} {c cs os : Nat → Nat} {n k : Nat} {yst : Nat → Int32} (hk : k < n) (h : st_T pr s c cs os n yst (k + 1)) (ho : 0 < os k) (h1 : c k < 4 ∨ 1000 ≤ c k) (h2 : cs (k + 1) = cs k) (h3 : os (k + 1) = os k - 1) : st_T pr s c cs os n (upd yst (cs k + os k - 1) (nI (c k))) k := by
  refine ⟨fun l hl => ?_, fun m hm => ?_⟩
  · rw [pk_un (by omega), tk_op hk h1]
    exact h.1 l (by omega)
  · by_cases z : m = 0
    · subst z; exact pk_us
    · rw [pk_un (by omega)]
      have := h.2 (m - 1) (by omega)
      rw [h2, h3, show cs k + (os k - 1) - 1 - (m - 1) = cs k + os k - 1 - m from by omega, show k + 1 + (m - 1) = k + m from by omega] at this
      exact this
theorem st_re {pr : Nat → Int64} {s : Nat → Int32} {c cs os : Nat → Nat} {n k : Nat} {yst : Nat → Int32} (hk : k < n) (h : st_T pr s c cs os n yst (k + 1)) (ho : os k = 0) (hl : cs k - 1 ≤ cs (k + 1)) (hv : ∀ l, l ≠ cs k - 1 → tk_ pr s c cs n k l = tk_ pr s c cs n (k + 1) l) : st_T pr s c cs os n (upd yst (cs k - 1) (yk (tk_ pr s c cs n k (cs k - 1)))) k := by
  refine ⟨fun l hl => ?_, fun m hm => by omega⟩
  by_cases z : l = cs k - 1
  · rw [z, pk_us]
  · rw [pk_un z, hv l z]
    exact h.1 l (by omega)
variable {nT : Int32} {eT : Int32} {xlv : Int32} {xpc : Int32} {xqc : Int32} {xcc : Int32} {xec : Int32} {mc : Int32} {lw : Int32} {rc : Int32} {xla : Nat → Int32} {xpr : Nat → Int64} {xed : Nat → Int32} {sN : Nat → Int32} {sE : Nat → Int32} {sL : Nat → Int32} {sP : Nat → Int64} {sD : Nat → Int32} {pva : Nat → Int32} {pwa : Nat → Int32} {pam : Nat → Int32} {pdi : Nat → Int32} {plo : Nat → Int32} {phi : Nat → Int32} {ptk : Nat → Int32} {pco : Nat → Int32} {pex : Nat → Int32} {tr : Nat → Int32} {ds : Nat → Int32} {ch : Nat → Int32} {ar : Nat → Int32} {rN : Nat → Int32} {rM : Nat → Int32} {s1 : Nat → Int32} {s2 : Nat → Int32} {s3 : Nat → Int32} {s4 : Nat → Int32} {s5 : Nat → Int32}
variable {ylv : Int32} {ypc : Int32} {yqc : Int32} {ycc : Int32} {yec : Int32} {yde : Int32} {yus : Int32} {ywe : Int32} {yfo : Int32} {yli : Int32} {yso : Int32} {ysu : Int64} {yla : Nat → Int32} {ypr : Nat → Int64} {yfr : Nat → Int32} {yto : Nat → Int32} {yty : Nat → Int32} {ywt : Nat → Int32} {yst : Nat → Int32} {ypa : Nat → Int32} {ysp : Nat → Int32} {ypl : Nat → Int32} {ycp : Nat → Int32} {ybo : Nat → Int32} {ytk : Nat → Int32} {yno : Nat → Int32} {ych : Nat → Int32} {yfa : Nat → Int32}
theorem yc_l {post : Int32 → SY → Prop} {n : Nat} {c cs os : Nat → Nat} {nm nu : Nat → Prop} {s : Nat → Int32} (hn : n ≤ 12) (hco : ∀ k, k < n → pco k = nI (c k)) (hW : n = 0 ∨ cd_W c nm n cs os nu) (hs : sn_ nT nm s) (hc : ∀ v, v < 4 → yno v = s v)
    (h1 : cv_ ypr s c cs n = true → ∀ yst, post 1 (ylv, ypc, yqc, (nI n), yec, yde, yus, ywe, yfo, yli, yso, ysu, yla, ypr, yfr, yto, yty, ywt, pva, pwa, pam, pdi, plo, phi, ptk, pco, pex, yst, ypa, ysp, ypl, ycp, ybo, ytk, yno, ych, yfa)) (h0 : cv_ ypr s c cs n = false → ∀ yst r, ¬ r = 1 → post r (ylv, ypc, yqc, (nI n), yec, yde, yus, ywe, yfo, yli, yso, ysu, yla, ypr, yfr, yto, yty, ywt, pva, pwa, pam, pdi, plo, phi, ptk, pco, pex, yst, ypa, ysp, ypl, ycp, ybo, ytk, yno, ych, yfa)) : wpY_truth post (ylv, ypc, yqc, (nI n), yec, yde, yus, ywe, yfo, yli, yso, ysu, yla, ypr, yfr, yto, yty, ywt, pva, pwa, pam, pdi, plo, phi, ptk, pco, pex, yst, ypa, ysp, ypl, ycp, ybo, ytk, yno, ych, yfa) := by
  rcases Nat.eq_zero_or_pos n with z0 | z0
  · subst z0
    have e : cv_ ypr s c cs 0 = true := decide_eq_true (Or.inl rfl)
    exact nm_e ⟨1, br_t (by decide) (br_t rfl (h1 e yst))⟩
  have hW := hW.resolve_left (by omega)
  have K : ∀ i yst, i ≤ n → st_T ypr s c cs os n yst i → wY_truth_9 post ylv ypc yqc (nI n) yec yde yus ywe yfo yli yso ysu (i + 1) (nI (cs i + os i)) (nI i + (-1)) yla ypr yfr yto yty ywt pva pwa pam pdi plo phi ptk pco pex yst ypa ysp ypl ycp ybo ytk yno ych yfa := by
    intro i
    induction i with
    | zero =>
      intro yst hi ht
      have t0 := ht.1 0 (by rw [hW.1]; omega)
      have hle := tk_le ypr s c cs n 0 0
      refine br_t (by decide) (br_f (nI_ne0 z0 (by omega)) ?_)
      rw [t0]
      by_cases q : tk_ ypr s c cs n 0 0 = 2
      · rw [q]
        exact h1 (decide_eq_true (Or.inr q)) yst
      · exact h0 (decide_eq_false (by omega)) yst _ (yk_1 _ (by omega) q)
    | succ k ih =>
      intro yst hi ht
      have wb := cd_wb hW (n - (k + 1)) (k + 1) (by omega)
      have wb0 := cd_wb hW (n - k) k (by omega)
      obtain ⟨cl, co1, co2⟩ := cd_10 hW (k := k) (by omega)
      have ne : ∀ a, a < 100 → c k ≠ a → ¬ nI (c k) = nI a := fun a ha q e => q ((nI_eq (by omega) (by omega)).mp e)
      rw [pk_m1]
      refine br_f (nI_pos (by omega)) ⟨vp_in_nI (by omega) (by omega), nm_r (show _ = nI (c k) from by rw [nI_clamp (by omega), hco k (by omega)]) ?_⟩
      rcases Nat.eq_zero_or_pos (os k) with o | o
      · obtain ⟨t1, t2, w0, b1, b2⟩ := co2 o
        have fin : ∀ r : Int32, r = yk (tk_ ypr s c cs n k (cs k - 1)) → cs k - 1 ≤ cs (k + 1) → (∀ l, l ≠ cs k - 1 → tk_ ypr s c cs n k l = tk_ ypr s c cs n (k + 1) l) → (vp_in (nI (cs k - 1)) 30 ∧ ∀ a_stack_56 : Nat → Int32, a_stack_56 = upd yst (nI (cs k - 1)).toNatClampNeg r → ∀ x2_57 : Int32, x2_57 = nI k + (-1) → wY_truth_9 post ylv ypc yqc (nI n) yec yde yus ywe yfo yli yso ysu (k + 1) (nI (cs k)) x2_57 yla ypr yfr yto yty ywt pva pwa pam pdi plo phi ptk pco pex a_stack_56 ypa ysp ypl ycp ybo ytk yno ych yfa) := fun r hr hl hv => by
          refine ⟨vp_in_nI (by omega) (by omega), nm_r (tg_u (by omega)) (nm_e ?_)⟩
          rw [hr]
          have := ih _ (by omega) (st_re (by omega) ht o hl hv)
          rw [o, Nat.add_zero] at this
          exact this
        have pl : nI (cs k - 1) + 1 = nI (cs k) := by rw [nI_1]; exact congrArg nI (by omega)
        have hv0 : ∀ l, l ≠ cs k - 1 → tk_ ypr s c cs n k l = tk_ ypr s c cs n (k + 1) l := fun l hl => by rw [tk_e (k := k) (by omega), if_neg hl]
        refine br_f (nI_nlt (b := 10) t1 (by omega)) (br_t (nI_lt (b := 1000) (by omega) (by omega)) ?_)
        by_cases z : c k ≤ 13
        · obtain ⟨_, cw, k1, _, _, r1, r2⟩ := cd_op hW (by omega) o t1 z
          have vt : tk_ ypr s c cs n k (cs k - 1) = cm_ ypr s c k := by rw [tk_e (k := k) (by omega), if_pos rfl, if_neg (by omega), if_pos z]
          by_cases y : c k = 12
          · have o1 := r1 y
            have e0 : nI (cs (k + 1) + os (k + 1)) + (-1) = nI (cs k - 1) := by rw [o1, cw, pk_m1]
            have a0 := ht.2 0 (by omega)
            rw [o1, cw, show cs k - 1 + 1 - 1 - 0 = cs k - 1 from by omega, Nat.add_zero] at a0
            refine nm_r e0 ⟨vp_in_nI (by omega) (by omega), nm_r (show _ = nI (c (k + 1)) from by rw [nI_clamp (by omega), a0]) (br_t (by rw [y]; rfl) (nm_r pl (yc_r hW hs hc (by omega) o t1 z (fun q => absurd y q) (fin _ (by rw [vt]) (by omega) hv0))))⟩
          · obtain ⟨o1, k2, _⟩ := r2 y
            have e0 : nI (cs (k + 1) + os (k + 1)) + (-1) = nI (cs k) := by rw [o1, cw, show cs k - 1 + 2 = cs k + 1 from by omega, pk_m1]
            have e1 : nI (cs k) + (-1) = nI (cs k - 1) := by rw [show cs k = cs k - 1 + 1 from by omega, pk_m1]; rfl
            have a0 := ht.2 0 (by omega)
            have a1 := ht.2 1 (by omega)
            rw [o1, cw, show cs k - 1 + 2 - 1 - 0 = cs k from by omega, Nat.add_zero] at a0
            rw [o1, cw, show cs k - 1 + 2 - 1 - 1 = cs k - 1 from by omega, show k + 1 + 1 = k + 2 from rfl] at a1
            refine nm_r e0 ⟨vp_in_nI (by omega) (by omega), nm_r (show _ = nI (c (k + 1)) from by rw [nI_clamp (by omega), a0]) (br_f (ne 12 (by omega) y) (br_f (ne 16 (by omega) (by omega)) (nm_r e1 ⟨vp_in_nI (by omega) (by omega), nm_r pl (yc_r hW hs hc (by omega) o t1 z (fun _ => by rw [nI_clamp (by omega), a1]) (fin _ (by rw [vt]) (by omega) hv0))⟩)))⟩
        · by_cases y : c k = 16
          · obtain ⟨cw, o1⟩ := b2 y
            have vt : tk_ ypr s c cs n k (cs k - 1) = 2 - tk_ ypr s c cs n (k + 1) (cs k - 1) := by rw [tk_e (k := k) (by omega), if_pos rfl, if_neg (by omega), if_neg (by omega), if_neg (by omega), if_pos y]
            have e0 : nI (cs (k + 1) + os (k + 1)) + (-1) = nI (cs k - 1) := by rw [o1, cw, show cs k + 0 = cs k - 1 + 1 from by omega, pk_m1]
            have a0 := ht.1 (cs k - 1) (by omega)
            refine nm_r e0 ⟨vp_in_nI (by omega) (by omega), nm_r (show _ = yk (tk_ ypr s c cs n (k + 1) (cs k - 1)) from by rw [nI_clamp (by omega), a0]) (br_f (ne 12 (by omega) (by omega)) (br_t (by rw [y]; rfl) (nm_r pl ?_)))⟩
            rw [y]
            exact yc_n (tk_le _ _ _ _ _ _ _) (fin _ (by rw [vt]) (by omega) hv0)
          · obtain ⟨cw, o1⟩ := b1 (by omega) (by omega)
            have vt : tk_ ypr s c cs n k (cs k - 1) = jn_ (c k) (tk_ ypr s c cs n (k + 1) (cs k)) (tk_ ypr s c cs n (k + 1) (cs k - 1)) := by rw [tk_e (k := k) (by omega), if_pos rfl, if_neg (by omega), if_neg (by omega), if_pos (by omega)]
            have e0 : nI (cs (k + 1) + os (k + 1)) + (-1) = nI (cs k) := by rw [o1, cw, Nat.add_zero, pk_m1]
            have e1 : nI (cs k) + (-1) = nI (cs k - 1) := by rw [show cs k = cs k - 1 + 1 from by omega, pk_m1]; rfl
            have a0 := ht.1 (cs k) (by omega)
            have a1 := ht.1 (cs k - 1) (by omega)
            refine nm_r e0 ⟨vp_in_nI (by omega) (by omega), nm_r (show _ = yk (tk_ ypr s c cs n (k + 1) (cs k)) from by rw [nI_clamp (by omega), a0]) (br_f (ne 12 (by omega) (by omega)) (br_f (ne 16 (by omega) y) (nm_r e1 ⟨vp_in_nI (by omega) (by omega), nm_r pl ?_⟩)))⟩
            rw [nI_clamp (show cs k - 1 < 2 ^ 31 by omega), a1]
            have := fin _ (by rw [vt]) (by omega) hv0
            rw [nI_clamp (show cs k - 1 < 2 ^ 31 by omega)] at this
            exact yc_j (by omega) (tk_le _ _ _ _ _ _ _) (tk_le _ _ _ _ _ _ _) this
      · obtain ⟨t1, cw, o1⟩ := co1 o
        have go : wY_truth_33 post (wY_truth_9 post ylv ypc yqc (nI n) yec yde yus ywe yfo yli yso ysu (k + 1)) (nI (cs (k + 1) + os (k + 1))) (nI k) (nI (c k)) ylv ypc yqc (nI n) yec yde yus ywe yfo yli yso ysu yla ypr yfr yto yty ywt pva pwa pam pdi plo phi ptk pco pex yst ypa ysp ypl ycp ybo ytk yno ych yfa := by
          have e0 : nI (cs (k + 1) + os (k + 1)) + 1 = nI (cs k + os k) := by rw [cw, o1, nI_1]; exact congrArg nI (by omega)
          refine nm_r e0 ⟨vp_in_nI (by omega) (by omega), nm_r (tg_u (by omega)) (nm_e ?_)⟩
          rw [show cs (k + 1) + os (k + 1) = cs k + os k - 1 from by omega]
          exact ih _ (by omega) (st_op (by omega) ht o t1 cw o1)
        by_cases z : c k < 10
        · exact br_t (nI_lt (b := 10) z (by omega)) go
        · exact br_f (nI_nlt (b := 10) (by omega) (by omega)) (br_f (nI_nlt (b := 1000) (by omega) (by omega)) go)
  have K0 := K n yst (Nat.le_refl n) ⟨fun l hl => absurd hl (by rw [hW.2.2.1]; exact Nat.not_lt_zero l), fun m hm => absurd hm (by rw [hW.2.2.2.1]; exact Nat.not_lt_zero m)⟩
  rw [hW.2.2.1, hW.2.2.2.1] at K0
  exact nm_r (Int32.sub_eq_add_neg (nI n) 1) ⟨n + 1, K0⟩
end
section
/-! X's trails: the small methods -/
def Vf (a : Nat → Int32) (k : Nat) : Nat := (a k).toNatClampNeg
theorem q_f {va wa am di lo h : Nat → Int32} {k : Nat} (q : qu_P va wa am di lo h k) : va k = nI (Vf va k) ∧ Vf va k < 4 ∧ (∃ w, w < 16 ∧ wa k = nI w) ∧ (¬ am k = 0 → 0 < k ∧ (di k = 0 ∨ di k = 1 ∨ di k = 2) ∧ lo k = nI (Vf lo k) ∧ h k = nI (Vf h k) ∧ 1 ≤ Vf lo k ∧ Vf lo k ≤ Vf h k ∧ Vf h k ≤ 3) := by
  obtain ⟨v, w, t, h1, h2, h3, e1, e2, e3, r⟩ := q
  have c1 : Vf va k = v := by unfold Vf; rw [e1, nI_clamp (by omega)]
  refine ⟨by rw [c1]; exact e1, by omega, ⟨w, h2, e2⟩, fun z => ?_⟩
  have tp : 0 < t := by
    rcases Nat.eq_zero_or_pos t with y | y
    · rw [y] at e3; exact absurd e3 z
    · exact y
  obtain ⟨k0, d, l, c, d1, l1, l2, l3, f1, f2, f3⟩ := r tp
  have c2 : Vf lo k = l := by unfold Vf; rw [f2, nI_clamp (by omega)]
  have c3 : Vf h k = c := by unfold Vf; rw [f3, nI_clamp (by omega)]
  refine ⟨k0, ?_, by rw [c2]; exact f2, by rw [c3]; exact f3, by omega, by omega, by omega⟩
  have : d = 0 ∨ d = 1 ∨ d = 2 := by omega
  rcases this with rfl | rfl | rfl
  · exact Or.inl f1
  · exact Or.inr (Or.inl f1)
  · exact Or.inr (Or.inr f1)
def fe_ (eT : Int32) (yfr yto yty pam pdi : Nat → Int32) (k e p : Nat) : Option Nat :=
  if bt eT e = true ∧ bt (pam k) (yty e).toNatClampNeg = true then (if ¬ pdi k = 1 ∧ yfr e = nI p then some (yto e).toNatClampNeg else if ¬ pdi k = 0 ∧ yto e = nI p then some (yfr e).toNatClampNeg else none) else none
def rf (o : Option Nat) : Int32 := match o with
  | none => -1
  | some q => nI q
def nxf (am : Nat → Int32) : Nat → Nat → Nat
  | 0, j => j
  | d + 1, j => if am j = 0 then nxf am d (j + 1) else j
def nx_ (am : Nat → Int32) (P k : Nat) : Nat := nxf am (P - (k + 1)) (k + 1)
theorem nxf_s {am : Nat → Int32} {P : Nat} : ∀ d j, j + d = P → j ≤ nxf am d j ∧ nxf am d j ≤ P ∧ (∀ i, j ≤ i → i < nxf am d j → am i = 0) ∧ (nxf am d j < P → ¬ am (nxf am d j) = 0)
  | 0, j, h => ⟨Nat.le_refl j, by show j ≤ P; omega, fun i h1 h2 => absurd h2 (by show ¬ i < j; omega), fun q => absurd q (by show ¬ j < P; omega)⟩
  | d + 1, j, h => by
    unfold nxf
    by_cases z : am j = 0
    · rw [if_pos z]
      obtain ⟨a, b, c, e⟩ := nxf_s (P := P) d (j + 1) (by omega)
      refine ⟨by omega, b, fun i h1 h2 => ?_, e⟩
      by_cases y : i = j
      · rw [y]; exact z
      · exact c i (by omega) h2
    · rw [if_neg z]
      exact ⟨Nat.le_refl j, by omega, fun i h1 h2 => absurd h1 (by omega), fun _ => z⟩
def wz (w : Nat → Int32) (u : Int32) : Nat → Nat
  | 0 => 0
  | n + 1 => wz w u n + (if bt u n = true then (w n).toNatClampNeg else 0)
def ws_ (w : Nat → Int32) (u : Int32) : Nat := wz w u 12
def mn_ (a b : Nat) : Nat := if a < b then a else b
def lm_ (w : Int32 → Nat) : Nat → List Int32 → Nat
  | l, [] => l
  | l, u :: L => lm_ w (mn_ (w u) l) L
theorem lm_app (w : Int32 → Nat) : ∀ (A : List Int32) l B, lm_ w l (A ++ B) = lm_ w (lm_ w l A) B
  | [], _, _ => rfl
  | u :: A, l, B => lm_app w A _ B
/-- only edges that are there are used -/
def us_ (eT u : Int32) : Prop := ∀ e, bt u e = true → bt eT e = true
theorem us_0 (eT : Int32) : us_ eT 0 := fun e h => by rw [b_0] at h; exact absurd h (by decide)
theorem us_u {eT u : Int32} {e : Nat} (h : us_ eT u) (he : e < 12) (hb : bt eT e = true) : us_ eT (ub u e) := fun i hi => by
  unfold ub at hi
  rw [tg_or u (by omega), Bool.or_eq_true, decide_eq_true_eq] at hi
  rcases hi with q | q
  · exact h i q
  · rw [q]; exact hb
theorem wz_le {nT eT : Int32} {xla : Nat → Int32} {xpr : Nat → Int64} {xed yla : Nat → Int32} {ypr : Nat → Int64} {yfr yto yty ywt : Nat → Int32} (hR : gr_R nT eT xla xpr xed yla ypr yfr yto yty ywt) {u : Int32} (hu : us_ eT u) : ∀ n, n ≤ 12 → wz ywt u n ≤ 100 * n
  | 0, _ => Nat.le_refl 0
  | n + 1, h => by
    have ih := wz_le hR hu n (by omega)
    show wz ywt u n + _ ≤ _
    split
    · next z =>
      rcases hR.2.2.2 n (by omega) with ⟨_, f, t, y, w, _, _, _, hw, _, _, _, _, _, _, e⟩ | ⟨q, _⟩
      · rw [e, nI_clamp (by omega)]; omega
      · rw [hu n z] at q; exact absurd q (by decide)
    · omega
theorem tg_one {x : Int32} {e : Nat} (he : e < 32) (h : bt x e = true) : ((x >>> (nI e &&& 31)) &&& 1) = 1 := by
  obtain ⟨j, hj, q⟩ := pk_andE (x >>> (nI e &&& 31)) (m := 1) 1 (by decide)
  have n0 : ¬ ((x >>> (nI e &&& 31)) &&& 1) = 0 := fun z => by rw [(tg_bit x he).mp z] at h; exact absurd h (by decide)
  rw [q] at n0 ⊢
  have : j = 1 := by
    rcases Nat.eq_zero_or_pos j with z | z
    · rw [z] at n0; exact absurd rfl n0
    · omega
  rw [this]; rfl
variable {nT : Int32} {eT : Int32} {xlv : Int32} {xpc : Int32} {xqc : Int32} {xcc : Int32} {xec : Int32} {mc : Int32} {lw : Int32} {rc : Int32} {xla : Nat → Int32} {xpr : Nat → Int64} {xed : Nat → Int32} {sN : Nat → Int32} {sE : Nat → Int32} {sL : Nat → Int32} {sP : Nat → Int64} {sD : Nat → Int32} {pva : Nat → Int32} {pwa : Nat → Int32} {pam : Nat → Int32} {pdi : Nat → Int32} {plo : Nat → Int32} {phi : Nat → Int32} {ptk : Nat → Int32} {pco : Nat → Int32} {pex : Nat → Int32} {tr : Nat → Int32} {ds : Nat → Int32} {ch : Nat → Int32} {ar : Nat → Int32} {rN : Nat → Int32} {rM : Nat → Int32} {s1 : Nat → Int32} {s2 : Nat → Int32} {s3 : Nat → Int32} {s4 : Nat → Int32} {s5 : Nat → Int32}
variable {ylv : Int32} {ypc : Int32} {yqc : Int32} {ycc : Int32} {yec : Int32} {yde : Int32} {yus : Int32} {ywe : Int32} {yfo : Int32} {yli : Int32} {yso : Int32} {ysu : Int64} {yla : Nat → Int32} {ypr : Nat → Int64} {yfr : Nat → Int32} {yto : Nat → Int32} {yty : Nat → Int32} {ywt : Nat → Int32} {yst : Nat → Int32} {ypa : Nat → Int32} {ysp : Nat → Int32} {ypl : Nat → Int32} {ycp : Nat → Int32} {ybo : Nat → Int32} {ytk : Nat → Int32} {yno : Nat → Int32} {ych : Nat → Int32} {yfa : Nat → Int32}
theorem fe_lt (hR : gr_R nT eT xla xpr xed yla ypr yfr yto yty ywt) {k e p q : Nat} (h : fe_ eT yfr yto yty pam pdi k e p = some q) : q < 8 ∧ bt eT e = true ∧ e < 12 := by
  unfold fe_ at h
  split at h
  · next z =>
    have he : e < 12 := by
      rcases Nat.lt_or_ge e 12 with x | x
      · exact x
      · rw [hR.2.1 e x] at z; exact absurd z.1 (by decide)
    refine ⟨?_, z.1, he⟩
    rcases hR.2.2.2 e he with ⟨_, f, t, y, w, hf, ht, _, _, _, _, _, e1, e2, _, _⟩ | ⟨a, _⟩
    · rw [e1, e2, nI_clamp (by omega), nI_clamp (by omega)] at h
      split at h
      · cases h; exact ht
      · split at h
        · cases h; exact hf
        · exact absurd h (by simp)
    · rw [a] at z; exact absurd z.1 (by decide)
  · exact absurd h (by simp)
theorem xm_fe {post : Int32 → Prop} {k e p : Nat} (hR : gr_R nT eT xla xpr xed yla ypr yfr yto yty ywt) (he : e < 12) (hk : k < 6) (h : post (rf (fe_ eT yfr yto yty pam pdi k e p))) : wpX_farEnd post (nT, eT, xlv, xpc, xqc, xcc, xec, mc, lw, rc, xla, xpr, xed, sN, sE, sL, sP, sD, pva, pwa, pam, pdi, plo, phi, ptk, pco, pex, tr, ds, ch, ar, rN, rM, s1, s2, s3, s4, s5) (nI e) (nI p) (nI k) := by
  have we : vp_in (nI e) 12 := vp_in_nI he (by omega)
  have wk : vp_in (nI k) 6 := vp_in_nI hk (by omega)
  have ce : (nI e).toNatClampNeg = e := nI_clamp (by omega)
  have ck : (nI k).toNatClampNeg = k := nI_clamp (by omega)
  unfold fe_ at h
  refine ⟨we, tg_isIn (by omega) (tg_zbr (fun b => ?_) (fun b => ⟨wk, ?_⟩))⟩
  · rw [if_neg (fun q => by rw [b] at q; exact absurd q.1 (by decide))] at h
    exact h
  · obtain ⟨q1, q2, q3, _⟩ := tg_ft (hR.2.2.2 e he) b
    rcases hR.2.2.2 e he with ⟨_, f, t, y, w, hf, ht, hy, _, _, _, _, e1, e2, e3, _⟩ | ⟨a, _⟩
    · have cy : (yty e).toNatClampNeg = y := by rw [e3, nI_clamp (by omega)]
      rw [ce, ck, q3, e3]
      refine tg_isIn (by omega) (tg_zbr (fun c => ?_) (fun c => ⟨wk, ?_⟩))
      · rw [if_neg (fun q => by rw [cy, c] at q; exact absurd q.2 (by decide))] at h
        exact h
      · rw [if_pos ⟨b, by rw [cy]; exact c⟩] at h
        have r59 : ¬ (¬ pdi k = 1 ∧ yfr e = nI p) → wX_farEnd_59 post (nI e) (nI p) (nI k) nT eT xlv xpc xqc xcc xec mc lw rc xla xpr xed sN sE sL sP sD pva pwa pam pdi plo phi ptk pco pex tr ds ch ar rN rM s1 s2 s3 s4 s5 := fun z => by
          rw [if_neg z] at h
          refine ⟨wk, ?_⟩
          rw [ck]
          refine br_c (fun x => ?_) (fun x => ⟨we, ?_⟩)
          · rw [if_neg (fun w => w.1 x)] at h; exact h
          · rw [ce, q2]
            refine br_c (fun x' => ⟨we, ?_⟩) (fun x' => ?_)
            · rw [if_pos ⟨x, x'⟩, e1, nI_clamp (by omega)] at h
              rw [ce, q1, e1]; exact h
            · rw [if_neg (fun w => x' w.2)] at h; exact h
        refine br_c (fun x => r59 (fun z => z.1 x)) (fun x => ⟨we, ?_⟩)
        rw [ce, q1]
        refine br_c (fun x' => ⟨we, ?_⟩) (fun x' => r59 (fun z => x' z.2))
        rw [if_pos ⟨x, x'⟩, e2, nI_clamp (by omega)] at h
        rw [ce, q2, e2]; exact h
    · rw [a] at b; exact absurd b (by decide)
theorem xm_nx {post : Int32 → Prop} {P k : Nat} (hP : P ≤ 6) (hk : k < P) (h : post (nI (nx_ pam P k))) : wpX_nextHop post (nT, eT, xlv, (nI P), xqc, xcc, xec, mc, lw, rc, xla, xpr, xed, sN, sE, sL, sP, sD, pva, pwa, pam, pdi, plo, phi, ptk, pco, pex, tr, ds, ch, ar, rN, rM, s1, s2, s3, s4, s5) (nI k) := by
  have K : ∀ d j, j + d = P → post (nI (nxf pam d j)) → wX_nextHop_4 post nT eT xlv (nI P) xqc xcc xec mc lw rc xla xpr xed sN sE sL sP sD pva pwa pam pdi plo phi ptk pco pex tr ds ch ar rN rM s1 s2 s3 s4 s5 (d + 1) (nI j) := by
    intro d
    induction d with
    | zero =>
      intro j hj hp
      exact br_t (nI_le (by omega) (by omega)) hp
    | succ d ih =>
      intro j hj hp
      unfold nxf at hp
      refine br_f (nI_ge (by omega) (by omega)) ⟨vp_in_nI (by omega) (by omega), ?_⟩
      rw [nI_clamp (by omega)]
      refine br_c (fun z => ?_) (fun z => ?_)
      · rw [if_pos z] at hp
        exact nm_r (nI_1 j) (ih (j + 1) (by omega) hp)
      · rw [if_neg z] at hp; exact hp
  exact nm_r (nI_1 k) ⟨P - (k + 1) + 1, K (P - (k + 1)) (k + 1) (by omega) h⟩
theorem xm_am {post : SX → Prop} {m l : Nat} {u : Int32} (hR : gr_R nT eT xla xpr xed yla ypr yfr yto yty ywt) (hu : us_ eT u) (hl : l ≤ 1000000) (h : post (nT, eT, xlv, xpc, xqc, xcc, xec, (nI (m + 1)), (nI (mn_ (ws_ ywt u) l)), rc, xla, xpr, xed, sN, sE, sL, sP, sD, pva, pwa, pam, pdi, plo, phi, ptk, pco, pex, tr, ds, ch, ar, rN, rM, s1, s2, s3, s4, s5)) : wpX_addMatch post (nT, eT, xlv, xpc, xqc, xcc, xec, (nI m), (nI l), rc, xla, xpr, xed, sN, sE, sL, sP, sD, pva, pwa, pam, pdi, plo, phi, ptk, pco, pex, tr, ds, ch, ar, rN, rM, s1, s2, s3, s4, s5) u := by
  have K : ∀ d i, i + d = 12 → wX_addMatch_4 post u nT eT xlv xpc xqc xcc xec (nI m) (nI l) rc xla xpr xed sN sE sL sP sD pva pwa pam pdi plo phi ptk pco pex tr ds ch ar rN rM s1 s2 s3 s4 s5 (d + 1) (nI (wz ywt u i)) (nI i) := by
    intro d
    induction d with
    | zero =>
      intro i hi
      have e : i = 12 := by omega
      subst e
      have b := wz_le hR hu 12 (by omega)
      refine br_t (nI_le (a := 12) (by omega) (by omega)) ?_
      unfold ws_ mn_ at h
      by_cases z : wz ywt u 12 < l
      · rw [if_pos z] at h
        exact br_f (nI_ge z (by omega)) (nm_r (nI_1 m) h)
      · rw [if_neg z] at h
        exact br_t (nI_le (by omega) (by omega)) (nm_r (nI_1 m) h)
    | succ d ih =>
      intro i hi
      refine br_f (nI_ge (b := 12) (by omega) (by decide)) ⟨vp_in_nI (by omega) (by omega), nm_r (show _ = nI (wz ywt u (i + 1)) from ?_) (nm_r (nI_1 i) (ih (i + 1) (by omega)))⟩
      rw [nI_clamp (by omega)]
      show _ = nI (wz ywt u i + _)
      cases b : bt u i
      · rw [(tg_bit u (by omega)).mpr b, if_neg (by decide), Int32.zero_mul, Int32.add_zero, Nat.add_zero]
      · rw [tg_one (by omega) b, if_pos rfl, Int32.one_mul]
        obtain ⟨_, _, _, q4⟩ := tg_ft (hR.2.2.2 i (by omega)) (hu i b)
        rcases hR.2.2.2 i (by omega) with ⟨_, f, t, y, w, _, _, _, hw, _, _, _, _, _, _, e⟩ | ⟨q, _⟩
        · rw [q4, e, nI_clamp (by omega), nI_add]
        · rw [hu i b] at q; exact absurd q (by decide)
  exact ⟨13, K 12 0 (by omega)⟩
theorem xm_os {post : Int32 → SX → Prop} {d : Nat} {a b c e : Int32} (hd : d < 5) (h : post 1 (nT, eT, xlv, xpc, xqc, xcc, xec, mc, lw, rc, xla, xpr, xed, sN, sE, sL, sP, sD, pva, pwa, pam, pdi, plo, phi, ptk, pco, pex, tr, ds, ch, ar, rN, rM, (upd s1 d a), (upd s2 d b), (upd s3 d c), (upd s4 d e), (upd s5 d 0))) : wpX_openStep post (nT, eT, xlv, xpc, xqc, xcc, xec, mc, lw, rc, xla, xpr, xed, sN, sE, sL, sP, sD, pva, pwa, pam, pdi, plo, phi, ptk, pco, pex, tr, ds, ch, ar, rN, rM, s1, s2, s3, s4, s5) (nI d) a b c e := by
  have w : vp_in (nI d) 5 := vp_in_nI hd (by omega)
  exact br_t (nI_lt (b := 5) hd (by omega)) ⟨w, nm_r (tg_u (by omega)) ⟨w, nm_r (tg_u (by omega)) ⟨w, nm_r (tg_u (by omega)) ⟨w, nm_r (tg_u (by omega)) ⟨w, nm_r (tg_u (by omega)) h⟩⟩⟩⟩⟩
theorem xm_os0 {post : Int32 → SX → Prop} {a b c e : Int32} (h : post 0 (nT, eT, xlv, xpc, xqc, xcc, xec, mc, lw, rc, xla, xpr, xed, sN, sE, sL, sP, sD, pva, pwa, pam, pdi, plo, phi, ptk, pco, pex, tr, ds, ch, ar, rN, rM, s1, s2, s3, s4, s5)) : wpX_openStep post (nT, eT, xlv, xpc, xqc, xcc, xec, mc, lw, rc, xla, xpr, xed, sN, sE, sL, sP, sD, pva, pwa, pam, pdi, plo, phi, ptk, pco, pex, tr, ds, ch, ar, rN, rM, s1, s2, s3, s4, s5) (nI 5) a b c e := br_f (by decide) h
end
section
/-! X's trails: one step, and the loop -/
def mt_B (P : Nat) (V Lo Hi : Nat → Nat) (fe : Nat → Nat → Nat → Option Nat) (nx sg : Nat → Nat) (f k n p : Nat) (u : Int32) (j : Nat) : List Int32 :=
  if bt u (j / 2) = true then [] else om (fe k (j / 2) p) (fun q => if j % 2 = 0 then (if n + 1 < Hi k then mt_X P V Lo Hi fe nx sg f k (n + 1) q (ub u (j / 2)) else [])
      else if Lo k ≤ n + 1 ∧ q = sg (V k) then (if nx k < P then mt_X P V Lo Hi fe nx sg f (nx k) 0 (sg (V (nx k - 1))) (ub u (j / 2)) else [ub u (j / 2)]) else [])
theorem mt_XB (P : Nat) (V Lo Hi : Nat → Nat) (fe : Nat → Nat → Nat → Option Nat) (nx sg : Nat → Nat) (f k n p : Nat) (u : Int32) : mt_X P V Lo Hi fe nx sg (f + 1) k n p u = fm (mt_B P V Lo Hi fe nx sg f k n p u) 24 0 := rfl
theorem mt_B0 {P : Nat} {V Lo Hi : Nat → Nat} {fe : Nat → Nat → Nat → Option Nat} {nx sg : Nat → Nat} {f k n p : Nat} {u : Int32} {j : Nat} (h : bt u (j / 2) = true ∨ fe k (j / 2) p = none) : mt_B P V Lo Hi fe nx sg f k n p u j = [] := by
  unfold mt_B
  by_cases z : bt u (j / 2) = true
  · rw [if_pos z]
  · rw [if_neg z, h.resolve_left z]; rfl
theorem mt_Bc {P : Nat} {V Lo Hi : Nat → Nat} {fe : Nat → Nat → Nat → Option Nat} {nx sg : Nat → Nat} {f k n p q : Nat} {u : Int32} {j : Nat} (h : bt u (j / 2) = false) (hq : fe k (j / 2) p = some q) (hj : j % 2 = 0) : mt_B P V Lo Hi fe nx sg f k n p u j = if n + 1 < Hi k then mt_X P V Lo Hi fe nx sg f k (n + 1) q (ub u (j / 2)) else [] := by
  unfold mt_B
  rw [if_neg (by rw [h]; decide), hq]
  exact if_pos hj
theorem mt_Be {P : Nat} {V Lo Hi : Nat → Nat} {fe : Nat → Nat → Nat → Option Nat} {nx sg : Nat → Nat} {f k n p q : Nat} {u : Int32} {j : Nat} (h : bt u (j / 2) = false) (hq : fe k (j / 2) p = some q) (hj : ¬ j % 2 = 0) : mt_B P V Lo Hi fe nx sg f k n p u j = if Lo k ≤ n + 1 ∧ q = sg (V k) then (if nx k < P then mt_X P V Lo Hi fe nx sg f (nx k) 0 (sg (V (nx k - 1))) (ub u (j / 2)) else [ub u (j / 2)]) else [] := by
  unfold mt_B
  rw [if_neg (by rw [h]; decide), hq]
  exact if_neg hj
def cf : Nat → Nat
  | 0 => 0
  | f + 1 => 24 * (1 + cf f) + 1
theorem mn_le (a b : Nat) : mn_ a b ≤ b := by unfold mn_; split <;> omega
theorem lm_le (w : Int32 → Nat) : ∀ (A : List Int32) l, lm_ w l A ≤ l
  | [], l => Nat.le_refl l
  | u :: A, l => Nat.le_trans (lm_le w A _) (mn_le _ _)
variable {nT : Int32} {eT : Int32} {xlv : Int32} {xpc : Int32} {xqc : Int32} {xcc : Int32} {xec : Int32} {mc : Int32} {lw : Int32} {rc : Int32} {xla : Nat → Int32} {xpr : Nat → Int64} {xed : Nat → Int32} {sN : Nat → Int32} {sE : Nat → Int32} {sL : Nat → Int32} {sP : Nat → Int64} {sD : Nat → Int32} {pva : Nat → Int32} {pwa : Nat → Int32} {pam : Nat → Int32} {pdi : Nat → Int32} {plo : Nat → Int32} {phi : Nat → Int32} {ptk : Nat → Int32} {pco : Nat → Int32} {pex : Nat → Int32} {tr : Nat → Int32} {ds : Nat → Int32} {ch : Nat → Int32} {ar : Nat → Int32} {rN : Nat → Int32} {rM : Nat → Int32} {s1 : Nat → Int32} {s2 : Nat → Int32} {s3 : Nat → Int32} {s4 : Nat → Int32} {s5 : Nat → Int32}
variable {ylv : Int32} {ypc : Int32} {yqc : Int32} {ycc : Int32} {yec : Int32} {yde : Int32} {yus : Int32} {ywe : Int32} {yfo : Int32} {yli : Int32} {yso : Int32} {ysu : Int64} {yla : Nat → Int32} {ypr : Nat → Int64} {yfr : Nat → Int32} {yto : Nat → Int32} {yty : Nat → Int32} {ywt : Nat → Int32} {yst : Nat → Int32} {ypa : Nat → Int32} {ysp : Nat → Int32} {ypl : Nat → Int32} {ycp : Nat → Int32} {ybo : Nat → Int32} {ytk : Nat → Int32} {yno : Nat → Int32} {ych : Nat → Int32} {yfa : Nat → Int32}
theorem xm_ch {post : Int32 → SX → Prop} {d k n q e H : Nat} {u : Int32} (hd : d < 5) (hk : k < 6) (hH : H ≤ 3) (hn : n < 4) (f1 : s1 d = nI k) (f2 : s2 d = nI n) (f4 : s4 d = u) (hh : phi k = nI H) (h0 : (¬ n + 1 < H ∨ d = 4) → post 0 (nT, eT, xlv, xpc, xqc, xcc, xec, mc, lw, rc, xla, xpr, xed, sN, sE, sL, sP, sD, pva, pwa, pam, pdi, plo, phi, ptk, pco, pex, tr, ds, ch, ar, rN, rM, s1, s2, s3, s4, s5)) (h1 : n + 1 < H → d < 4 → post 1 (nT, eT, xlv, xpc, xqc, xcc, xec, mc, lw, rc, xla, xpr, xed, sN, sE, sL, sP, sD, pva, pwa, pam, pdi, plo, phi, ptk, pco, pex, tr, ds, ch, ar, rN, rM, (upd s1 (d + 1) (nI k)), (upd s2 (d + 1) (nI (n + 1))), (upd s3 (d + 1) (nI q)), (upd s4 (d + 1) (ub u e)), (upd s5 (d + 1) 0))) : wpX_continueHop post (nT, eT, xlv, xpc, xqc, xcc, xec, mc, lw, rc, xla, xpr, xed, sN, sE, sL, sP, sD, pva, pwa, pam, pdi, plo, phi, ptk, pco, pex, tr, ds, ch, ar, rN, rM, s1, s2, s3, s4, s5) (nI d) (nI e) (nI q) := by
  have w : vp_in (nI d) 5 := vp_in_nI hd (by omega)
  have cd : (nI d).toNatClampNeg = d := nI_clamp (by omega)
  have ck : (nI k).toNatClampNeg = k := nI_clamp (by omega)
  unfold wpX_continueHop
  dsimp only
  rw [cd, f1, f2, f4, nI_1, nI_1]
  refine ⟨w, nm_e ⟨w, nm_e ⟨vp_in_nI hk (by omega), ?_⟩⟩⟩
  rw [ck, hh]
  by_cases z : n + 1 < H
  · refine br_f (nI_ge z (by omega)) ⟨w, ?_⟩
    by_cases y : d < 4
    · exact xm_os (by omega) (br_f tg_10 (h1 z y))
    · have e5 : d + 1 = 5 := by omega
      rw [e5]
      exact xm_os0 (br_t rfl (h0 (Or.inr (by omega))))
  · exact br_t (nI_le (by omega) (by omega)) (h0 (Or.inl z))
theorem xm_eh {post : Int32 → SX → Prop} {P d k n q e m l : Nat} {sg : Nat → Nat} {u : Int32} (hP : P ≤ 6) (hp : ∀ k, k < P → qu_P pva pwa pam pdi plo phi k) (hR : gr_R nT eT xla xpr xed yla ypr yfr yto yty ywt) (hsg : ∀ v, v < 4 → ch v = nI (sg v) ∧ sg v < 8) (hu : us_ eT (ub u e)) (hl : l ≤ 1000000) (hq : q < 8)
    (hd : d < 5) (hk : k < P) (ha : ¬ pam k = 0) (hn : n < 4) (f1 : s1 d = nI k) (f2 : s2 d = nI n) (f4 : s4 d = u)
    (h0 : ¬ (Vf plo k ≤ n + 1 ∧ q = sg (Vf pva k)) → post 0 (nT, eT, xlv, (nI P), xqc, xcc, xec, (nI m), (nI l), rc, xla, xpr, xed, sN, sE, sL, sP, sD, pva, pwa, pam, pdi, plo, phi, ptk, pco, pex, tr, ds, ch, ar, rN, rM, s1, s2, s3, s4, s5))
    (hm : Vf plo k ≤ n + 1 → q = sg (Vf pva k) → ¬ nx_ pam P k < P → post 0 (nT, eT, xlv, (nI P), xqc, xcc, xec, (nI (m + 1)), (nI (mn_ (ws_ ywt (ub u e)) l)), rc, xla, xpr, xed, sN, sE, sL, sP, sD, pva, pwa, pam, pdi, plo, phi, ptk, pco, pex, tr, ds, ch, ar, rN, rM, s1, s2, s3, s4, s5))
    (h4 : Vf plo k ≤ n + 1 → q = sg (Vf pva k) → nx_ pam P k < P → d = 4 → post 0 (nT, eT, xlv, (nI P), xqc, xcc, xec, (nI m), (nI l), rc, xla, xpr, xed, sN, sE, sL, sP, sD, pva, pwa, pam, pdi, plo, phi, ptk, pco, pex, tr, ds, ch, ar, rN, rM, s1, s2, s3, s4, s5))
    (h1 : Vf plo k ≤ n + 1 → q = sg (Vf pva k) → nx_ pam P k < P → d < 4 → post 1 (nT, eT, xlv, (nI P), xqc, xcc, xec, (nI m), (nI l), rc, xla, xpr, xed, sN, sE, sL, sP, sD, pva, pwa, pam, pdi, plo, phi, ptk, pco, pex, tr, ds, ch, ar, rN, rM, (upd s1 (d + 1) (nI (nx_ pam P k))), (upd s2 (d + 1) 0), (upd s3 (d + 1) (nI (sg (Vf pva (nx_ pam P k - 1))))), (upd s4 (d + 1) (ub u e)), (upd s5 (d + 1) 0))) :
    wpX_endHop post (nT, eT, xlv, (nI P), xqc, xcc, xec, (nI m), (nI l), rc, xla, xpr, xed, sN, sE, sL, sP, sD, pva, pwa, pam, pdi, plo, phi, ptk, pco, pex, tr, ds, ch, ar, rN, rM, s1, s2, s3, s4, s5) (nI d) (nI e) (nI q) := by
  have w : vp_in (nI d) 5 := vp_in_nI hd (by omega)
  have wk : vp_in (nI k) 6 := vp_in_nI (by omega) (by omega)
  have cd : (nI d).toNatClampNeg = d := nI_clamp (by omega)
  have ck : (nI k).toNatClampNeg = k := nI_clamp (by omega)
  obtain ⟨v1, v2, _, v3⟩ := q_f (hp k hk)
  obtain ⟨_, _, v4, _, _, v5, v6⟩ := v3 ha
  obtain ⟨g1, g2⟩ := hsg _ v2
  unfold wpX_endHop
  dsimp only
  rw [cd, f1, f2, f4, nI_1, nI_1]
  refine ⟨w, nm_e ⟨w, wk, ?_⟩⟩
  rw [ck, v4, v1, nI_clamp (show Vf pva k < 2 ^ 31 by omega), g1]
  by_cases z : Vf plo k ≤ n + 1
  · refine br_f (nI_nlt z (by omega)) ⟨wk, vp_in_nI v2 (by omega), ?_⟩
    by_cases y : q = sg (Vf pva k)
    · refine br_t (by rw [y]) ⟨w, nm_e (xm_nx hP hk ?_)⟩
      obtain ⟨n1, n2, n3, n4⟩ := nxf_s (am := pam) (P := P) (P - (k + 1)) (k + 1) (by omega)
      have n1' : k + 1 ≤ nx_ pam P k := n1
      have n2' : nx_ pam P k ≤ P := n2
      by_cases x : nx_ pam P k < P
      · have e1 : nI (nx_ pam P k) - 1 = nI (nx_ pam P k - 1) := pk_sub (b := 1) (by omega)
        obtain ⟨b1, b2, _, _⟩ := q_f (hp (nx_ pam P k - 1) (by omega))
        obtain ⟨b3, b4⟩ := hsg _ b2
        refine br_t (nI_lt x (by omega)) ?_
        rw [e1, nI_clamp (show nx_ pam P k - 1 < 2 ^ 31 by omega), b1, nI_clamp (show Vf pva (nx_ pam P k - 1) < 2 ^ 31 by omega), b3]
        refine ⟨vp_in_nI (by omega) (by omega), vp_in_nI b2 (by omega), ?_⟩
        by_cases s : d < 4
        · exact xm_os (by omega) ⟨rfl, h1 z y x s⟩
        · have e5 : d + 1 = 5 := by omega
          rw [e5]
          exact xm_os0 ⟨rfl, h4 z y x (by omega)⟩
      · exact br_f (nI_nlt (by omega) (by omega)) (xm_am hR hu hl (hm z y x))
    · exact br_f (fun w => y ((nI_eq (by omega) (by omega)).mp w)) (h0 (fun w => y w.2))
  · exact br_t (nI_lt (by omega) (by omega)) (h0 (fun w => z w.1))
end
section
/-! X's depth-first loop over the edges -/
theorem nI_m1 {q : Nat} (h : q < 2 ^ 31) : ¬ nI q = -1 := fun e => by
  have := nI_pos h
  rw [e] at this
  exact this (by decide)
theorem tg_d2 {j : Nat} (h : j < 2 ^ 30) : nI j / 2 = nI (j / 2) ∧ nI j - nI j / 2 * 2 = nI (j % 2) := ⟨pk_div (d := 2) (by omega) (by omega) (by omega), pk_rem (d := 2) (by omega) (by omega) (by omega)⟩
variable {nT : Int32} {eT : Int32} {xlv : Int32} {xpc : Int32} {xqc : Int32} {xcc : Int32} {xec : Int32} {mc : Int32} {lw : Int32} {rc : Int32} {xla : Nat → Int32} {xpr : Nat → Int64} {xed : Nat → Int32} {sN : Nat → Int32} {sE : Nat → Int32} {sL : Nat → Int32} {sP : Nat → Int64} {sD : Nat → Int32} {pva : Nat → Int32} {pwa : Nat → Int32} {pam : Nat → Int32} {pdi : Nat → Int32} {plo : Nat → Int32} {phi : Nat → Int32} {ptk : Nat → Int32} {pco : Nat → Int32} {pex : Nat → Int32} {tr : Nat → Int32} {ds : Nat → Int32} {ch : Nat → Int32} {ar : Nat → Int32} {rN : Nat → Int32} {rM : Nat → Int32} {s1 : Nat → Int32} {s2 : Nat → Int32} {s3 : Nat → Int32} {s4 : Nat → Int32} {s5 : Nat → Int32}
variable {ylv : Int32} {ypc : Int32} {yqc : Int32} {ycc : Int32} {yec : Int32} {yde : Int32} {yus : Int32} {ywe : Int32} {yfo : Int32} {yli : Int32} {yso : Int32} {ysu : Int64} {yla : Nat → Int32} {ypr : Nat → Int64} {yfr : Nat → Int32} {yto : Nat → Int32} {yty : Nat → Int32} {ywt : Nat → Int32} {yst : Nat → Int32} {ypa : Nat → Int32} {ysp : Nat → Int32} {ypl : Nat → Int32} {ycp : Nat → Int32} {ybo : Nat → Int32} {ytk : Nat → Int32} {yno : Nat → Int32} {ych : Nat → Int32} {yfa : Nat → Int32}
/-- the step's frame d as the arrays hold it -/
def fr_ (s1 s2 s3 s4 s5 : Nat → Int32) (d k n p : Nat) (u : Int32) (j : Nat) : Prop := s1 d = nI k ∧ s2 d = nI n ∧ s3 d = nI p ∧ s4 d = u ∧ s5 d = nI j
def ag_ (d : Nat) (s1 s2 s3 s4 s5 a1 a2 a3 a4 a5 : Nat → Int32) : Prop := ∀ i, i < d → a1 i = s1 i ∧ a2 i = s2 i ∧ a3 i = s3 i ∧ a4 i = s4 i ∧ a5 i = s5 i
theorem xm_in {post : SX → Prop} {P : Nat} {sg : Nat → Nat} (hP : P ≤ 6) (hp : ∀ k, k < P → qu_P pva pwa pam pdi plo phi k) (hR : gr_R nT eT xla xpr xed yla ypr yfr yto yty ywt) (hsg : ∀ v, v < 4 → ch v = nI (sg v) ∧ sg v < 8)
    {T0 : Nat} (hx : 1000 < T0 → ∀ lw (s1 s2 s3 s4 s5 : Nat → Int32), post (nT, eT, xlv, (nI P), xqc, xcc, xec, (nI 1001), lw, rc, xla, xpr, xed, sN, sE, sL, sP, sD, pva, pwa, pam, pdi, plo, phi, ptk, pco, pex, tr, ds, ch, ar, rN, rM, s1, s2, s3, s4, s5)) {f d : Nat} (hd : d < 5) (hf : d = 4 → f = 0)
    (hch : d < 4 → ∀ k' n' p' u', k' < P → ¬ pam k' = 0 → n' < Vf phi k' → p' < 8 → us_ eT u' → ∀ t m l (s1 s2 s3 s4 s5 : Nat → Int32), fr_ s1 s2 s3 s4 s5 (d + 1) k' n' p' u' 0 → m ≤ 1000 → l ≤ 1000000 → t + cf f ≤ 10000000 → m + (mt_X P (Vf pva) (Vf plo) (Vf phi) (fe_ eT yfr yto yty pam pdi) (nx_ pam P) sg f k' n' p' u').length ≤ T0 →
      (∀ t' (a1 a2 a3 a4 a5 : Nat → Int32), t' ≤ t + cf f → ag_ (d + 1) s1 s2 s3 s4 s5 a1 a2 a3 a4 a5 → m + (mt_X P (Vf pva) (Vf plo) (Vf phi) (fe_ eT yfr yto yty pam pdi) (nx_ pam P) sg f k' n' p' u').length ≤ 1000 →
        wX_findTrails_46 post (10000001 - t') (nI d) (nI t') nT eT xlv (nI P) xqc xcc xec (nI (m + (mt_X P (Vf pva) (Vf plo) (Vf phi) (fe_ eT yfr yto yty pam pdi) (nx_ pam P) sg f k' n' p' u').length)) (nI (lm_ (ws_ ywt) l (mt_X P (Vf pva) (Vf plo) (Vf phi) (fe_ eT yfr yto yty pam pdi) (nx_ pam P) sg f k' n' p' u'))) rc xla xpr xed sN sE sL sP sD pva pwa pam pdi plo phi ptk pco pex tr ds ch ar rN rM a1 a2 a3 a4 a5) →
      wX_findTrails_46 post (10000001 - t) (nI (d + 1)) (nI t) nT eT xlv (nI P) xqc xcc xec (nI m) (nI l) rc xla xpr xed sN sE sL sP sD pva pwa pam pdi plo phi ptk pco pex tr ds ch ar rN rM s1 s2 s3 s4 s5)
    {k n p : Nat} {u : Int32} (hk : k < P) (ha : ¬ pam k = 0) (hn : n < Vf phi k) (hp8 : p < 8) (hu : us_ eT u) :
    ∀ r j t m l (s1 s2 s3 s4 s5 : Nat → Int32), j + r = 24 → fr_ s1 s2 s3 s4 s5 d k n p u j → m ≤ 1000 → l ≤ 1000000 → t + r * (1 + cf f) + 1 ≤ 10000000 → m + (fm (mt_B P (Vf pva) (Vf plo) (Vf phi) (fe_ eT yfr yto yty pam pdi) (nx_ pam P) sg f k n p u) r j).length ≤ T0 →
    (∀ t' (a1 a2 a3 a4 a5 : Nat → Int32), t' ≤ t + r * (1 + cf f) + 1 → ag_ d s1 s2 s3 s4 s5 a1 a2 a3 a4 a5 → m + (fm (mt_B P (Vf pva) (Vf plo) (Vf phi) (fe_ eT yfr yto yty pam pdi) (nx_ pam P) sg f k n p u) r j).length ≤ 1000 →
      wX_findTrails_46 post (10000001 - t') (nI d + (-1)) (nI t') nT eT xlv (nI P) xqc xcc xec (nI (m + (fm (mt_B P (Vf pva) (Vf plo) (Vf phi) (fe_ eT yfr yto yty pam pdi) (nx_ pam P) sg f k n p u) r j).length)) (nI (lm_ (ws_ ywt) l (fm (mt_B P (Vf pva) (Vf plo) (Vf phi) (fe_ eT yfr yto yty pam pdi) (nx_ pam P) sg f k n p u) r j))) rc xla xpr xed sN sE sL sP sD pva pwa pam pdi plo phi ptk pco pex tr ds ch ar rN rM a1 a2 a3 a4 a5) →
    wX_findTrails_46 post (10000001 - t) (nI d) (nI t) nT eT xlv (nI P) xqc xcc xec (nI m) (nI l) rc xla xpr xed sN sE sL sP sD pva pwa pam pdi plo phi ptk pco pex tr ds ch ar rN rM s1 s2 s3 s4 s5 := by
  have w : vp_in (nI d) 5 := vp_in_nI hd (by omega)
  have cd : (nI d).toNatClampNeg = d := nI_clamp (by omega)
  obtain ⟨_, _, _, v3⟩ := q_f (hp k hk)
  obtain ⟨_, _, _, v7, _, v5, v6⟩ := v3 ha
  intro r
  induction r with
  | zero =>
    intro j t m l s1 s2 s3 s4 s5 hj hfr hm hl ht hT hnx
    have e : j = 24 := by omega
    subst e
    obtain ⟨f1, f2, f3, f4, f5⟩ := hfr
    rw [show 10000001 - t = 10000001 - (t + 1) + 1 from by omega]
    refine br_f (nI_ge (b := 10000000) (by omega) (by omega)) (br_f (nI_pos (by omega)) (br_f (nI_nlt (b := m) (a := 1000) hm (by omega)) ⟨w, nm_r (show _ = nI 24 from by rw [cd, f5]) ⟨w, nm_r (show _ = upd s5 d (nI 25) from by rw [cd, nI_1]) (br_f (by decide) (nm_e (nm_r (nI_1 t) ?_)))⟩⟩))
    exact hnx (t + 1) s1 s2 s3 s4 (upd s5 d (nI 25)) (by omega) (fun i hi => ⟨rfl, rfl, rfl, rfl, pk_un (by omega)⟩) hm
  | succ r ih =>
    intro j t m l s1 s2 s3 s4 s5 hj hfr hm hl ht hT hnx
    obtain ⟨f1, f2, f3, f4, f5⟩ := hfr
    have eF : fm (mt_B P (Vf pva) (Vf plo) (Vf phi) (fe_ eT yfr yto yty pam pdi) (nx_ pam P) sg f k n p u) (r + 1) j = (mt_B P (Vf pva) (Vf plo) (Vf phi) (fe_ eT yfr yto yty pam pdi) (nx_ pam P) sg f k n p u j) ++ (fm (mt_B P (Vf pva) (Vf plo) (Vf phi) (fe_ eT yfr yto yty pam pdi) (nx_ pam P) sg f k n p u) r (j + 1)) := rfl
    rw [eF] at hnx hT
    rw [List.length_append] at hT
    have hr : (r + 1) * (1 + cf f) = r * (1 + cf f) + (1 + cf f) := Nat.succ_mul _ _
    have res : ∀ t' m' l' (a1 a2 a3 a4 a5 : Nat → Int32), t' ≤ t + 1 + cf f → fr_ a1 a2 a3 a4 a5 d k n p u (j + 1) → ag_ d s1 s2 s3 s4 s5 a1 a2 a3 a4 a5 → m' = m + (mt_B P (Vf pva) (Vf plo) (Vf phi) (fe_ eT yfr yto yty pam pdi) (nx_ pam P) sg f k n p u j).length → l' = lm_ (ws_ ywt) l (mt_B P (Vf pva) (Vf plo) (Vf phi) (fe_ eT yfr yto yty pam pdi) (nx_ pam P) sg f k n p u j) → m' ≤ 1001 → wX_findTrails_46 post (10000001 - t') (nI d) (nI t') nT eT xlv (nI P) xqc xcc xec (nI m') (nI l') rc xla xpr xed sN sE sL sP sD pva pwa pam pdi plo phi ptk pco pex tr ds ch ar rN rM a1 a2 a3 a4 a5 := by
      intro t' m' l' a1 a2 a3 a4 a5 h1 h2 h3 h4 h5 h6
      by_cases z : m' ≤ 1000
      · have ll := lm_le (ws_ ywt) (mt_B P (Vf pva) (Vf plo) (Vf phi) (fe_ eT yfr yto yty pam pdi) (nx_ pam P) sg f k n p u j) l
        refine ih (j + 1) t' m' l' a1 a2 a3 a4 a5 (by omega) h2 z (by omega) (by omega) (by omega) (fun t'' b1 b2 b3 b4 b5 g1 g2 g3 => ?_)
        have := hnx t'' b1 b2 b3 b4 b5 (by omega) (fun i hi => ⟨(g2 i hi).1.trans (h3 i hi).1, (g2 i hi).2.1.trans (h3 i hi).2.1, (g2 i hi).2.2.1.trans (h3 i hi).2.2.1, (g2 i hi).2.2.2.1.trans (h3 i hi).2.2.2.1, (g2 i hi).2.2.2.2.trans (h3 i hi).2.2.2.2⟩) (by rw [List.length_append]; omega)
        rw [List.length_append, lm_app, ← h5, ← Nat.add_assoc, ← h4] at this
        exact this
      · have e : m' = 1001 := by omega
        rw [e, show 10000001 - t' = 10000001 - (t' + 1) + 1 from by omega]
        exact br_f (nI_ge (b := 10000000) (by omega) (by omega)) (br_f (nI_pos (by omega)) (br_t (by decide) (hx (by omega) _ _ _ _ _ _)))
    have ag0 : ag_ d s1 s2 s3 s4 s5 s1 s2 s3 s4 (upd s5 d (nI (j + 1))) := fun i hi => ⟨rfl, rfl, rfl, rfl, pk_un (by omega)⟩
    have fr0 : fr_ s1 s2 s3 s4 (upd s5 d (nI (j + 1))) d k n p u (j + 1) := ⟨f1, f2, f3, f4, pk_us⟩
    have skip : (mt_B P (Vf pva) (Vf plo) (Vf phi) (fe_ eT yfr yto yty pam pdi) (nx_ pam P) sg f k n p u j) = [] → wX_findTrails_46 post (10000001 - (t + 1)) (nI d) (nI (t + 1)) nT eT xlv (nI P) xqc xcc xec (nI m) (nI l) rc xla xpr xed sN sE sL sP sD pva pwa pam pdi plo phi ptk pco pex tr ds ch ar rN rM s1 s2 s3 s4 (upd s5 d (nI (j + 1))) := fun q => res (t + 1) m l s1 s2 s3 s4 _ (by omega) fr0 ag0 (by rw [q]; rfl) (by rw [q]; rfl) (by omega)
    obtain ⟨e1, e2⟩ := tg_d2 (j := j) (by omega)
    rw [show 10000001 - t = 10000001 - (t + 1) + 1 from by omega]
    refine br_f (nI_ge (b := 10000000) (by omega) (by omega)) (br_f (nI_pos (by omega)) (br_f (nI_nlt (b := m) (a := 1000) hm (by omega)) ⟨w, nm_r (show _ = nI j from by rw [cd, f5]) ⟨w, nm_r (show _ = upd s5 d (nI (j + 1)) from by rw [cd, nI_1]) (br_t (nI_lt (b := 24) (by omega) (by omega)) ⟨by decide, nm_r e1 ⟨w, ?_⟩⟩)⟩⟩))
    rw [cd, f4, f3, f1]
    refine tg_isIn (by omega) (tg_zbr (fun b => ⟨w, w, xm_fe hR (by omega) (by omega) ?_⟩) (fun b => br_t rfl (nm_r (nI_1 t) (skip (mt_B0 (Or.inl b))))))
    cases hq : fe_ eT yfr yto yty pam pdi k (j / 2) p with
    | none => exact br_t rfl (nm_r (nI_1 t) (skip (mt_B0 (Or.inr hq))))
    | some q =>
      obtain ⟨q8, qb, qe⟩ := fe_lt hR hq
      have hu' := us_u hu qe qb
      refine br_f (nI_m1 (by omega)) ⟨by decide, ?_⟩
      rw [e2]
      by_cases par : j % 2 = 0
      · have eB := mt_Bc (P := P) (V := Vf pva) (Lo := Vf plo) (Hi := Vf phi) (nx := nx_ pam P) (sg := sg) (f := f) (n := n) b hq par
        refine br_t (by rw [par]; rfl) (xm_ch hd (by omega) v6 (by omega) f1 f2 f4 v7 (fun z => br_t rfl (nm_r (nI_1 t) (skip ?_))) (fun z y => br_f tg_10 (nm_r (nI_1 d) (nm_r (nI_1 t) ?_))))
        · rw [eB]
          rcases z with z | z
          · rw [if_neg z]
          · rw [hf z]
            split <;> rfl
        · rw [if_pos z] at eB
          refine hch y k (n + 1) q (ub u (j / 2)) hk ha z q8 hu' (t + 1) m l _ _ _ _ _ ⟨pk_us, pk_us, pk_us, pk_us, pk_us⟩ hm hl (by omega) (by rw [← eB]; omega) (fun t' a1 a2 a3 a4 a5 g1 g2 g3 => ?_)
          have g := fun i (hi : i < d + 1) => g2 i hi
          refine res t' _ _ a1 a2 a3 a4 a5 (by omega) ?_ (fun i hi => ?_) (by rw [eB]) (by rw [eB]) (by omega)
          · obtain ⟨x1, x2, x3, x4, x5⟩ := g d (by omega)
            rw [pk_un (by omega)] at x1 x2 x3 x4 x5
            exact ⟨x1.trans f1, x2.trans f2, x3.trans f3, x4.trans f4, x5.trans pk_us⟩
          · obtain ⟨x1, x2, x3, x4, x5⟩ := g i (by omega)
            rw [pk_un (by omega)] at x1 x2 x3 x4 x5
            exact ⟨x1, x2, x3, x4, x5.trans (pk_un (by omega))⟩
      · have eB := mt_Be (P := P) (V := Vf pva) (Lo := Vf plo) (Hi := Vf phi) (nx := nx_ pam P) (sg := sg) (f := f) (n := n) b hq par
        refine br_f (by rw [show j % 2 = 1 from by omega]; decide) (xm_eh hP hp hR hsg hu' hl q8 hd hk ha (by omega) f1 f2 f4 (fun z => br_t rfl (nm_r (nI_1 t) (skip ?_))) (fun z1 z2 z3 => br_t rfl (nm_r (nI_1 t) ?_)) (fun z1 z2 z3 z4 => br_t rfl (nm_r (nI_1 t) (skip ?_))) (fun z1 z2 z3 y => br_f tg_10 (nm_r (nI_1 d) (nm_r (nI_1 t) ?_))))
        · rw [eB, if_neg z]
        · rw [if_pos ⟨z1, z2⟩, if_neg z3] at eB
          exact res (t + 1) _ _ s1 s2 s3 s4 _ (by omega) fr0 ag0 (by rw [eB]; rfl) (by rw [eB]; rfl) (by omega)
        · rw [eB, if_pos ⟨z1, z2⟩, if_pos z3, hf z4]; rfl
        · rw [if_pos ⟨z1, z2⟩, if_pos z3] at eB
          obtain ⟨n1, n2, n3, n4⟩ := nxf_s (am := pam) (P := P) (P - (k + 1)) (k + 1) (by omega)
          have n1' : k + 1 ≤ nx_ pam P k := n1
          have an : ¬ pam (nx_ pam P k) = 0 := n4 z3
          obtain ⟨_, _, _, y3⟩ := q_f (hp (nx_ pam P k) z3)
          obtain ⟨_, _, _, _, y5, y6, _⟩ := y3 an
          obtain ⟨_, b2, _, _⟩ := q_f (hp (nx_ pam P k - 1) (by omega))
          refine hch y (nx_ pam P k) 0 (sg (Vf pva (nx_ pam P k - 1))) (ub u (j / 2)) z3 an (by omega) (hsg _ b2).2 hu' (t + 1) m l _ _ _ _ _ ⟨pk_us, pk_us, pk_us, pk_us, pk_us⟩ hm hl (by omega) (by rw [← eB]; omega) (fun t' a1 a2 a3 a4 a5 g1 g2 g3 => ?_)
          have g := fun i (hi : i < d + 1) => g2 i hi
          refine res t' _ _ a1 a2 a3 a4 a5 (by omega) ?_ (fun i hi => ?_) (by rw [eB]) (by rw [eB]) (by omega)
          · obtain ⟨x1, x2, x3, x4, x5⟩ := g d (by omega)
            rw [pk_un (by omega)] at x1 x2 x3 x4 x5
            exact ⟨x1.trans f1, x2.trans f2, x3.trans f3, x4.trans f4, x5.trans pk_us⟩
          · obtain ⟨x1, x2, x3, x4, x5⟩ := g i (by omega)
            rw [pk_un (by omega)] at x1 x2 x3 x4 x5
            exact ⟨x1, x2, x3, x4, x5.trans (pk_un (by omega))⟩
theorem xm_fr {post : SX → Prop} {P : Nat} {sg : Nat → Nat} (hP : P ≤ 6) (hp : ∀ k, k < P → qu_P pva pwa pam pdi plo phi k) (hR : gr_R nT eT xla xpr xed yla ypr yfr yto yty ywt) (hsg : ∀ v, v < 4 → ch v = nI (sg v) ∧ sg v < 8)
    {T0 : Nat} (hx : 1000 < T0 → ∀ lw (s1 s2 s3 s4 s5 : Nat → Int32), post (nT, eT, xlv, (nI P), xqc, xcc, xec, (nI 1001), lw, rc, xla, xpr, xed, sN, sE, sL, sP, sD, pva, pwa, pam, pdi, plo, phi, ptk, pco, pex, tr, ds, ch, ar, rN, rM, s1, s2, s3, s4, s5)) : ∀ f d, d + (f + 1) = 5 → ∀ k n p u, k < P → ¬ pam k = 0 → n < Vf phi k → p < 8 → us_ eT u →
    ∀ r j t m l (s1 s2 s3 s4 s5 : Nat → Int32), j + r = 24 → fr_ s1 s2 s3 s4 s5 d k n p u j → m ≤ 1000 → l ≤ 1000000 → t + r * (1 + cf f) + 1 ≤ 10000000 → m + (fm (mt_B P (Vf pva) (Vf plo) (Vf phi) (fe_ eT yfr yto yty pam pdi) (nx_ pam P) sg f k n p u) r j).length ≤ T0 →
    (∀ t' (a1 a2 a3 a4 a5 : Nat → Int32), t' ≤ t + r * (1 + cf f) + 1 → ag_ d s1 s2 s3 s4 s5 a1 a2 a3 a4 a5 → m + (fm (mt_B P (Vf pva) (Vf plo) (Vf phi) (fe_ eT yfr yto yty pam pdi) (nx_ pam P) sg f k n p u) r j).length ≤ 1000 →
      wX_findTrails_46 post (10000001 - t') (nI d + (-1)) (nI t') nT eT xlv (nI P) xqc xcc xec (nI (m + (fm (mt_B P (Vf pva) (Vf plo) (Vf phi) (fe_ eT yfr yto yty pam pdi) (nx_ pam P) sg f k n p u) r j).length)) (nI (lm_ (ws_ ywt) l (fm (mt_B P (Vf pva) (Vf plo) (Vf phi) (fe_ eT yfr yto yty pam pdi) (nx_ pam P) sg f k n p u) r j))) rc xla xpr xed sN sE sL sP sD pva pwa pam pdi plo phi ptk pco pex tr ds ch ar rN rM a1 a2 a3 a4 a5) →
    wX_findTrails_46 post (10000001 - t) (nI d) (nI t) nT eT xlv (nI P) xqc xcc xec (nI m) (nI l) rc xla xpr xed sN sE sL sP sD pva pwa pam pdi plo phi ptk pco pex tr ds ch ar rN rM s1 s2 s3 s4 s5 := by
  intro f
  induction f with
  | zero =>
    intro d hd k n p u hk ha hn hp8 hu
    exact xm_in hP hp hR hsg hx (by omega) (fun _ => rfl) (fun q => absurd q (by omega)) hk ha hn hp8 hu
  | succ f ihf =>
    intro d hd k n p u hk ha hn hp8 hu
    refine xm_in hP hp hR hsg hx (by omega) (fun q => absurd q (by omega)) (fun _ k' n' p' u' hk' ha' hn' hp' hu' t m l s1 s2 s3 s4 s5 hfr hm hl ht hT hnx => ?_) hk ha hn hp8 hu
    refine ihf (d + 1) (by omega) k' n' p' u' hk' ha' hn' hp' hu' 24 0 t m l s1 s2 s3 s4 s5 rfl hfr hm hl ht hT (fun t' a1 a2 a3 a4 a5 g1 g2 g3 => ?_)
    rw [pk_m1]
    exact hnx t' a1 a2 a3 a4 a5 g1 g2 g3
end
section
/-! findTrails, arrivals, candidates -/
theorem rk_lt {fe : Nat → Nat → Nat → Option Nat} {k : Nat} (hf : ∀ e p q, fe k e p = some q → q < 8) : ∀ m p r, p < 8 → rk_ fe k m p r → r < 8
  | 0, p, r, hp, h => by
    have h : r = p := h
    omega
  | m + 1, p, r, hp, h => by
    obtain ⟨e, q, _, h1, h2⟩ := h
    exact rk_lt hf m q r (hf e p q h1) h2
theorem rk_app {fe : Nat → Nat → Nat → Option Nat} {k : Nat} : ∀ m p r, rk_ fe k (m + 1) p r → ∃ p' e, rk_ fe k m p p' ∧ e < 12 ∧ fe k e p' = some r
  | 0, p, r, h => by
    obtain ⟨e, q, h0, h1, h2⟩ := h
    have h2 : r = q := h2
    exact ⟨p, e, rfl, h0, by rw [h2]; exact h1⟩
  | m + 1, p, r, h => by
    obtain ⟨e, q, h0, h1, h2⟩ := h
    obtain ⟨p', e', a, b, c⟩ := rk_app m q r h2
    exact ⟨p', e', ⟨e, q, h0, h1, a⟩, b, c⟩
theorem cf_4 : 24 * (1 + cf 4) + 1 = 8655025 := by decide +kernel
variable {nT : Int32} {eT : Int32} {xlv : Int32} {xpc : Int32} {xqc : Int32} {xcc : Int32} {xec : Int32} {mc : Int32} {lw : Int32} {rc : Int32} {xla : Nat → Int32} {xpr : Nat → Int64} {xed : Nat → Int32} {sN : Nat → Int32} {sE : Nat → Int32} {sL : Nat → Int32} {sP : Nat → Int64} {sD : Nat → Int32} {pva : Nat → Int32} {pwa : Nat → Int32} {pam : Nat → Int32} {pdi : Nat → Int32} {plo : Nat → Int32} {phi : Nat → Int32} {ptk : Nat → Int32} {pco : Nat → Int32} {pex : Nat → Int32} {tr : Nat → Int32} {ds : Nat → Int32} {ch : Nat → Int32} {ar : Nat → Int32} {rN : Nat → Int32} {rM : Nat → Int32} {s1 : Nat → Int32} {s2 : Nat → Int32} {s3 : Nat → Int32} {s4 : Nat → Int32} {s5 : Nat → Int32}
variable {ylv : Int32} {ypc : Int32} {yqc : Int32} {ycc : Int32} {yec : Int32} {yde : Int32} {yus : Int32} {ywe : Int32} {yfo : Int32} {yli : Int32} {yso : Int32} {ysu : Int64} {yla : Nat → Int32} {ypr : Nat → Int64} {yfr : Nat → Int32} {yto : Nat → Int32} {yty : Nat → Int32} {ywt : Nat → Int32} {yst : Nat → Int32} {ypa : Nat → Int32} {ysp : Nat → Int32} {ypl : Nat → Int32} {ycp : Nat → Int32} {ybo : Nat → Int32} {ytk : Nat → Int32} {yno : Nat → Int32} {ych : Nat → Int32} {yfa : Nat → Int32}
theorem xm_ft {post : SX → Prop} {P m l : Nat} {sg : Nat → Nat} (hP : P ≤ 6) (hP0 : 0 < P) (hp : ∀ k, k < P → qu_P pva pwa pam pdi plo phi k) (hR : gr_R nT eT xla xpr xed yla ypr yfr yto yty ywt) (hsg : ∀ v, v < 4 → ch v = nI (sg v) ∧ sg v < 8) (hm : m ≤ 1000) (hl : l ≤ 1000000)
    (hx : 1000 < m + (fl_ P (Vf pva) (Vf plo) (Vf phi) (fe_ eT yfr yto yty pam pdi) (nx_ pam P) sg).length → ∀ lw (s1 s2 s3 s4 s5 : Nat → Int32), post (nT, eT, xlv, (nI P), xqc, xcc, xec, (nI 1001), lw, rc, xla, xpr, xed, sN, sE, sL, sP, sD, pva, pwa, pam, pdi, plo, phi, ptk, pco, pex, tr, ds, ch, ar, rN, rM, s1, s2, s3, s4, s5))
    (h : m + (fl_ P (Vf pva) (Vf plo) (Vf phi) (fe_ eT yfr yto yty pam pdi) (nx_ pam P) sg).length ≤ 1000 → ∀ (s1 s2 s3 s4 s5 : Nat → Int32), post (nT, eT, xlv, (nI P), xqc, xcc, xec, (nI (m + (fl_ P (Vf pva) (Vf plo) (Vf phi) (fe_ eT yfr yto yty pam pdi) (nx_ pam P) sg).length)), (nI (lm_ (ws_ ywt) l (fl_ P (Vf pva) (Vf plo) (Vf phi) (fe_ eT yfr yto yty pam pdi) (nx_ pam P) sg))), rc, xla, xpr, xed, sN, sE, sL, sP, sD, pva, pwa, pam, pdi, plo, phi, ptk, pco, pex, tr, ds, ch, ar, rN, rM, s1, s2, s3, s4, s5)) :
    wpX_findTrails post (nT, eT, xlv, (nI P), xqc, xcc, xec, (nI m), (nI l), rc, xla, xpr, xed, sN, sE, sL, sP, sD, pva, pwa, pam, pdi, plo, phi, ptk, pco, pex, tr, ds, ch, ar, rN, rM, s1, s2, s3, s4, s5) := by
  unfold fl_ at h hx
  unfold wpX_findTrails
  refine xm_nx (k := 0) hP hP0 ?_
  obtain ⟨n1, n2, n3, n4⟩ := nxf_s (am := pam) (P := P) (P - (0 + 1)) (0 + 1) (by omega)
  have n1' : 0 + 1 ≤ nx_ pam P 0 := n1
  have n2' : nx_ pam P 0 ≤ P := n2
  by_cases x : nx_ pam P 0 < P
  · have an : ¬ pam (nx_ pam P 0) = 0 := n4 x
    have e1 : nI (nx_ pam P 0) - 1 = nI (nx_ pam P 0 - 1) := pk_sub (b := 1) (by omega)
    obtain ⟨b1, b2, _, _⟩ := q_f (hp (nx_ pam P 0 - 1) (by omega))
    obtain ⟨b3, b4⟩ := hsg _ b2
    obtain ⟨_, _, _, y3⟩ := q_f (hp (nx_ pam P 0) x)
    obtain ⟨_, _, _, _, y5, y6, _⟩ := y3 an
    rw [if_pos x] at h hx
    refine br_t (nI_lt x (by omega)) ?_
    rw [e1, nI_clamp (show nx_ pam P 0 - 1 < 2 ^ 31 by omega), b1, nI_clamp (show Vf pva (nx_ pam P 0 - 1) < 2 ^ 31 by omega), b3]
    refine ⟨vp_in_nI (by omega) (by omega), vp_in_nI b2 (by omega), xm_os (d := 0) (by omega) ⟨10000001, ?_⟩⟩
    have c4 := cf_4
    have K := xm_fr (post := post) (sg := sg) (nT := nT) (xla := xla) (xpr := xpr) (xed := xed) hP hp hR hsg hx 4 0 rfl (nx_ pam P 0) 0 (sg (Vf pva (nx_ pam P 0 - 1))) 0 x an (by omega) b4 (us_0 eT) 24 0 0 m l (upd s1 0 (nI (nx_ pam P 0))) (upd s2 0 0) (upd s3 0 (nI (sg (Vf pva (nx_ pam P 0 - 1))))) (upd s4 0 0) (upd s5 0 0) rfl ⟨pk_us, pk_us, pk_us, pk_us, pk_us⟩ hm hl (by omega) (Nat.le_refl _) (fun t' a1 a2 a3 a4 a5 g1 g2 g3 => ?_)
    · exact K
    · rw [show 10000001 - t' = 10000001 - (t' + 1) + 1 from by omega]
      exact br_f (nI_ge (b := 10000000) (by omega) (by omega)) (br_t (by decide) (h g3 a1 a2 a3 a4 a5))
  · rw [if_neg x] at h hx
    refine br_f (nI_nlt (by omega) (by omega)) (xm_am hR (us_0 eT) hl ?_)
    by_cases z : m = 1000
    · subst z
      exact hx (by show 1000 < 1000 + 1; omega) _ _ _ _ _ _
    · exact h (by show m + 1 ≤ 1000; omega) s1 s2 s3 s4 s5
theorem xm_oe {post : Int32 → Prop} {x : Int32} {k : Nat} (hk : k < 6) (hR : gr_R nT eT xla xpr xed yla ypr yfr yto yty ywt) (h : ∀ r, (∀ p e q, p < 8 → bt x p = true → e < 12 → fe_ eT yfr yto yty pam pdi k e p = some q → bt r q = true) → post r) : wpX_oneEdgeOn post (nT, eT, xlv, xpc, xqc, xcc, xec, mc, lw, rc, xla, xpr, xed, sN, sE, sL, sP, sD, pva, pwa, pam, pdi, plo, phi, ptk, pco, pex, tr, ds, ch, ar, rN, rM, s1, s2, s3, s4, s5) x (nI k) := by
  have K1 : ∀ (J : Int32 → Int32 → Prop) p, p < 8 → bt x p = true → ∀ r0 : Int32, (∀ r, (∀ q, bt r0 q = true → bt r q = true) → (∀ e q, e < 12 → fe_ eT yfr yto yty pam pdi k e p = some q → bt r q = true) → J r (nI (p + 1))) → ∀ d e r, e + d = 12 → (∀ q, bt r0 q = true → bt r q = true) → (∀ e' q, e' < e → fe_ eT yfr yto yty pam pdi k e' p = some q → bt r q = true) → wX_oneEdgeOn_15 post J x (nI k) (nI p) nT eT xlv xpc xqc xcc xec mc lw rc xla xpr xed sN sE sL sP sD pva pwa pam pdi plo phi ptk pco pex tr ds ch ar rN rM s1 s2 s3 s4 s5 (d + 1) r (nI e) := by
    intro J p hp hb r0 hJ d
    induction d with
    | zero =>
      intro e r he h1 h2
      have z : e = 12 := by omega
      subst z
      exact br_t (nI_le (a := 12) (by omega) (by omega)) (nm_r (nI_1 p) (hJ r h1 h2))
    | succ d ih =>
      intro e r he h1 h2
      refine br_f (nI_ge (b := 12) (by omega) (by decide)) (tg_isIn (by omega) ?_)
      rw [hb]
      refine br_f tg_10 (xm_fe hR (by omega) hk ?_)
      cases hq : fe_ eT yfr yto yty pam pdi k e p with
      | none =>
        refine br_t rfl (nm_r (nI_1 e) (ih (e + 1) r (by omega) h1 (fun e' q he' hq' => ?_)))
        by_cases z : e' = e
        · rw [z, hq] at hq'; exact absurd hq' (by simp)
        · exact h2 e' q (by omega) hq'
      | some q0 =>
        obtain ⟨q8, _, _⟩ := fe_lt hR hq
        refine br_f (nI_m1 (by omega)) (nm_r (show _ = r ||| ((1 : Int32) <<< (nI q0 &&& 31)) from rfl) (nm_r (nI_1 e) (ih (e + 1) _ (by omega) (fun q hq' => ?_) (fun e' q he' hq' => ?_))))
        · rw [tg_or r (by omega), h1 q hq']; rfl
        · rw [tg_or r (by omega)]
          by_cases z : e' = e
          · rw [z, hq] at hq'; cases hq'; simp
          · rw [h2 e' q (by omega) hq']; rfl
  have K2 : ∀ d p r, p + d = 8 → (∀ p' e q, p' < p → bt x p' = true → e < 12 → fe_ eT yfr yto yty pam pdi k e p' = some q → bt r q = true) → wX_oneEdgeOn_5 post x (nI k) nT eT xlv xpc xqc xcc xec mc lw rc xla xpr xed sN sE sL sP sD pva pwa pam pdi plo phi ptk pco pex tr ds ch ar rN rM s1 s2 s3 s4 s5 (d + 1) r (nI p) := by
    intro d
    induction d with
    | zero =>
      intro p r hp h1
      have z : p = 8 := by omega
      subst z
      exact br_t (nI_le (a := 8) (by omega) (by omega)) (h r h1)
    | succ d ih =>
      intro p r hp h1
      refine br_f (nI_ge (b := 8) (by omega) (by decide)) ⟨13, ?_⟩
      cases b : bt x p
      · refine br_f (by decide) (tg_isIn (by omega) ?_)
        rw [b]
        refine br_t rfl (nm_r (nI_1 p) (ih (p + 1) r (by omega) (fun p' e q hp' hb' he hq => ?_)))
        by_cases z : p' = p
        · rw [z, b] at hb'; exact absurd hb' (by decide)
        · exact h1 p' e q (by omega) hb' he hq
      · refine K1 _ p (by omega) b r (fun r' g1 g2 => ih (p + 1) r' (by omega) (fun p' e q hp' hb' he hq => ?_)) 12 0 r (by omega) (fun q hq => hq) (fun e' q he' => absurd he' (Nat.not_lt_zero e'))
        by_cases z : p' = p
        · rw [z] at hq; exact g2 e q he hq
        · exact g1 q (h1 p' e q (by omega) hb' he hq)
  exact ⟨9, K2 8 0 0 (by omega) (fun p' e q hp' => absurd hp' (Nat.not_lt_zero p'))⟩
/-- arrivals as far as they are known: for the hops below k, and below node p at hop k -/
def ar_ (am lo h : Nat → Int32) (fe : Nat → Nat → Nat → Option Nat) (ar : Nat → Int32) (k : Nat) : Prop := ∀ p m q, p < 8 → Vf lo k ≤ m → m ≤ Vf h k → rk_ fe k m p q → bt (ar (k * 8 + p)) q = true
theorem xm_fa {post : SX → Prop} {P : Nat} (hP : P ≤ 6) (hp : ∀ k, k < P → qu_P pva pwa pam pdi plo phi k) (hR : gr_R nT eT xla xpr xed yla ypr yfr yto yty ywt) (h : ∀ ar, (∀ k, k < P → ¬ pam k = 0 → ar_ pam plo phi (fe_ eT yfr yto yty pam pdi) ar k) → post (nT, eT, xlv, (nI P), xqc, xcc, xec, mc, lw, rc, xla, xpr, xed, sN, sE, sL, sP, sD, pva, pwa, pam, pdi, plo, phi, ptk, pco, pex, tr, ds, ch, ar, rN, rM, s1, s2, s3, s4, s5)) : wpX_findArrivals post (nT, eT, xlv, (nI P), xqc, xcc, xec, mc, lw, rc, xla, xpr, xed, sN, sE, sL, sP, sD, pva, pwa, pam, pdi, plo, phi, ptk, pco, pex, tr, ds, ch, ar, rN, rM, s1, s2, s3, s4, s5) := by
  have K1 : ∀ (J2 J : _) k p, k < P → p < 8 → ¬ pam k = 0 → ∀ ar : Nat → Int32, (∀ y, (∀ m q, Vf plo k ≤ m → m ≤ Vf phi k → rk_ (fe_ eT yfr yto yty pam pdi) k m p q → bt y q = true) → J (nI (p + 1)) xla xpr xed sN sE sL sP sD pva pwa pam pdi plo phi ptk pco pex tr ds ch (upd ar (k * 8 + p) y) rN rM s1 s2 s3 s4 s5) → ∀ d i x y, i + d = Vf phi k → (∀ q, rk_ (fe_ eT yfr yto yty pam pdi) k i p q → bt x q = true) → (∀ m q, Vf plo k ≤ m → m ≤ i → rk_ (fe_ eT yfr yto yty pam pdi) k m p q → bt y q = true) → wX_findArrivals_37 post J2 J (nI k) (nI p) nT eT xlv (nI P) xqc xcc xec mc lw rc xla xpr xed sN sE sL sP sD pva pwa pam pdi plo phi ptk pco pex tr ds ch ar rN rM s1 s2 s3 s4 s5 (d + 1) x y (nI (i + 1)) := by
    intro J2 J k p hk hp8 ha ar hJ d
    obtain ⟨_, _, _, v3⟩ := q_f (hp k hk)
    obtain ⟨_, _, v4, v7, v8, v5, v6⟩ := v3 ha
    have wk : vp_in (nI k) 6 := vp_in_nI (by omega) (by omega)
    have ck : (nI k).toNatClampNeg = k := nI_clamp (by omega)
    induction d with
    | zero =>
      intro i x y hi h1 h2
      have e1 : nI k * 8 + nI p = nI (k * 8 + p) := tg_ix
      refine ⟨wk, ?_⟩
      rw [ck, v7, e1]
      exact br_t (nI_lt (by omega) (by omega)) ⟨vp_in_nI (by omega) (by omega), nm_r (tg_u (by omega)) (nm_r (nI_1 p) (hJ y (fun m q m1 m2 => h2 m q m1 (by omega))))⟩
    | succ d ih =>
      intro i x y hi h1 h2
      refine ⟨wk, ?_⟩
      rw [ck, v7, v4]
      refine br_f (nI_nlt (by omega) (by omega)) (xm_oe (by omega) hR (fun r hr => ⟨wk, ?_⟩))
      have hr' : ∀ q, rk_ (fe_ eT yfr yto yty pam pdi) k (i + 1) p q → bt r q = true := fun q hq => by
        obtain ⟨p', e, g1, g2, g3⟩ := rk_app i p q hq
        exact hr p' e q (rk_lt (fun e p q hq => (fe_lt hR hq).1) i p p' hp8 g1) (h1 p' g1) g2 g3
      by_cases z : i + 1 < Vf plo k
      · exact br_t (nI_lt z (by omega)) (nm_r (nI_1 _) (ih (i + 1) r y (by omega) hr' (fun m q m1 m2 => by omega)))
      · refine br_f (nI_nlt (by omega) (by omega)) (nm_e (nm_r (nI_1 _) (ih (i + 1) r _ (by omega) hr' (fun m q m1 m2 hq => ?_))))
        rw [b_or]
        by_cases w : m = i + 1
        · rw [hr' q (by rw [← w]; exact hq)]; simp
        · rw [h2 m q m1 (by omega) hq]; rfl
  have K2 : ∀ (J : _) k, k < P → ∀ d p (ar : Nat → Int32), p + d = 8 → (∀ ar' : Nat → Int32, (∀ j, (j < k * 8 ∨ k * 8 + 8 ≤ j) → ar' j = ar j) → (¬ pam k = 0 → ar_ pam plo phi (fe_ eT yfr yto yty pam pdi) ar' k) → J (nI (k + 1)) xla xpr xed sN sE sL sP sD pva pwa pam pdi plo phi ptk pco pex tr ds ch ar' rN rM s1 s2 s3 s4 s5) → ∀ ar' : Nat → Int32, (∀ j, (j < k * 8 ∨ k * 8 + 8 ≤ j) → ar' j = ar j) → (¬ pam k = 0 → ∀ p' m q, p' < p → Vf plo k ≤ m → m ≤ Vf phi k → rk_ (fe_ eT yfr yto yty pam pdi) k m p' q → bt (ar' (k * 8 + p')) q = true) → wX_findArrivals_12 post J (nI k) nT eT xlv (nI P) xqc xcc xec mc lw rc (d + 1) (nI p) xla xpr xed sN sE sL sP sD pva pwa pam pdi plo phi ptk pco pex tr ds ch ar' rN rM s1 s2 s3 s4 s5 := by
    intro J k hk d
    have wk : vp_in (nI k) 6 := vp_in_nI (by omega) (by omega)
    have ck : (nI k).toNatClampNeg = k := nI_clamp (by omega)
    induction d with
    | zero =>
      intro p ar hp8 hJ ar' g1 g2
      have z : p = 8 := by omega
      subst z
      exact br_t (nI_le (a := 8) (by omega) (by omega)) (nm_r (nI_1 k) (hJ ar' g1 (fun ha p' m q a b c e => g2 ha p' m q a b c e)))
    | succ d ih =>
      intro p ar hp8 hJ ar' g1 g2
      refine br_f (nI_ge (b := 8) (by omega) (by decide)) ⟨wk, ?_⟩
      rw [ck]
      refine br_c (fun z => nm_r (nI_1 k) (hJ ar' g1 (fun w => absurd z w))) (fun z => nm_e ⟨Vf phi k + 1, ?_⟩)
      refine K1 _ _ k p hk (by omega) z ar' (fun y hy => ih (p + 1) ar (by omega) hJ _ (fun j hj => ?_) (fun _ p' m q a b c e => ?_)) (Vf phi k) 0 _ 0 (by omega) (fun q hq => ?_) (fun m q m1 m2 => ?_)
      · rw [pk_un (by omega)]; exact g1 j hj
      · by_cases w : p' = p
        · rw [w, pk_us]; rw [w] at e; exact hy m q b c e
        · rw [pk_un (by omega)]; exact g2 z p' m q (by omega) b c e
      · have hq : q = p := hq
        rw [hq, tg_sh (by omega)]; simp
      · obtain ⟨_, _, _, v3⟩ := q_f (hp k hk)
        obtain ⟨_, _, _, _, v8, _, _⟩ := v3 z
        omega
  have K3 : ∀ d k ar, k + d = P → (∀ k', k' < k → ¬ pam k' = 0 → ar_ pam plo phi (fe_ eT yfr yto yty pam pdi) ar k') → wX_findArrivals_2 post nT eT xlv (nI P) xqc xcc xec mc lw rc (d + 1) (nI k) xla xpr xed sN sE sL sP sD pva pwa pam pdi plo phi ptk pco pex tr ds ch ar rN rM s1 s2 s3 s4 s5 := by
    intro d
    induction d with
    | zero =>
      intro k ar hk g
      have z : k = P := by omega
      subst z
      exact br_t (nI_le (by omega) (by omega)) (h ar g)
    | succ d ih =>
      intro k ar hk g
      refine br_f (nI_ge (by omega) (by omega)) ⟨9, K2 _ k (by omega) 8 0 ar (by omega) (fun ar' g1 g2 => ih (k + 1) ar' (by omega) (fun k' hk' ha' => ?_)) ar (fun j hj => rfl) (fun _ p' m q a => absurd a (Nat.not_lt_zero p'))⟩
      by_cases z : k' = k
      · rw [z]; rw [z] at ha'; exact g2 ha'
      · intro p m q a b c e
        rw [g1 _ (by omega)]
        exact g k' (by omega) ha' p m q a b c e
  exact ⟨P + 1, K3 P 0 ar (by omega) (fun k' hk' => absurd hk' (Nat.not_lt_zero k'))⟩
end
section
/-! hopsCanArrive, candidatesFor, tryNodes -/
theorem sh_of {va wa am di lo h : Nat → Int32} {P : Nat} (hp : ∀ k, k < P → qu_P va wa am di lo h k) : sh_ P (Vf lo) (Vf h) (qu_H am h) (nx_ am P) (fun k => decide (am k = 0)) := by
  refine ⟨fun k hk => ?_, fun k hk s => ?_, fun k hk s => ?_⟩
  · obtain ⟨a, b, c, d⟩ := nxf_s (am := am) (P := P) (P - (k + 1)) (k + 1) (by omega)
    have a' : k + 1 ≤ nx_ am P k := a
    exact ⟨by omega, b, fun j j1 j2 => decide_eq_true (c j (by omega) j2), fun q => decide_eq_false (d q)⟩
  · have s : am k = 0 := of_decide_eq_true s
    show qu_H am h k + _ = _
    rw [if_pos s]; rfl
  · have s : ¬ am k = 0 := of_decide_eq_false s
    obtain ⟨_, _, _, v⟩ := q_f (hp k hk)
    obtain ⟨_, _, _, _, v5, v6, _⟩ := v s
    refine ⟨?_, v5, v6⟩
    show qu_H am h k + _ = _
    rw [if_neg s]; rfl
/-- node n may stand for variable v -/
def cn_ (nT : Int32) (xla va wa : Nat → Int32) (P v n : Nat) : Prop := (nm_P va P v ∧ bt nT n = true ∧ ∀ k, k < P → Vf va k = v → (xla n &&& wa k) = wa k) ∨ (¬ nm_P va P v ∧ n = 0)
def pa_ (nT : Int32) (xla va wa : Nat → Int32) (P c : Nat) : Prop := ∀ v, v < 4 → cn_ nT xla va wa P v (dg c v)
def pkc (c : Nat) : Nat := dg c 0 + 8 * dg c 1 + 64 * dg c 2 + 512 * dg c 3
theorem tg_pkc {c : Nat} : (((nI (dg c 0) ||| (nI (dg c 1) <<< ((3 : Int32) &&& 31))) ||| (nI (dg c 2) <<< ((6 : Int32) &&& 31))) ||| (nI (dg c 3) <<< ((9 : Int32) &&& 31))) = nI (pkc c) := by
  have h0 := dg_lt c 0
  have h1 := dg_lt c 1
  have h2 := dg_lt c 2
  have h3 := dg_lt c 3
  unfold pkc
  rw [pk_shlN _ 3 (by decide) (by omega), pk_shlN _ 6 (by decide) (by omega), pk_shlN _ 9 (by decide) (by omega), tg_pk 3 (by omega), tg_pk 6 (by omega), tg_pk 9 (by omega)]
variable {nT : Int32} {eT : Int32} {xlv : Int32} {xpc : Int32} {xqc : Int32} {xcc : Int32} {xec : Int32} {mc : Int32} {lw : Int32} {rc : Int32} {xla : Nat → Int32} {xpr : Nat → Int64} {xed : Nat → Int32} {sN : Nat → Int32} {sE : Nat → Int32} {sL : Nat → Int32} {sP : Nat → Int64} {sD : Nat → Int32} {pva : Nat → Int32} {pwa : Nat → Int32} {pam : Nat → Int32} {pdi : Nat → Int32} {plo : Nat → Int32} {phi : Nat → Int32} {ptk : Nat → Int32} {pco : Nat → Int32} {pex : Nat → Int32} {tr : Nat → Int32} {ds : Nat → Int32} {ch : Nat → Int32} {ar : Nat → Int32} {rN : Nat → Int32} {rM : Nat → Int32} {s1 : Nat → Int32} {s2 : Nat → Int32} {s3 : Nat → Int32} {s4 : Nat → Int32} {s5 : Nat → Int32}
variable {ylv : Int32} {ypc : Int32} {yqc : Int32} {ycc : Int32} {yec : Int32} {yde : Int32} {yus : Int32} {ywe : Int32} {yfo : Int32} {yli : Int32} {yso : Int32} {ysu : Int64} {yla : Nat → Int32} {ypr : Nat → Int64} {yfr : Nat → Int32} {yto : Nat → Int32} {yty : Nat → Int32} {ywt : Nat → Int32} {yst : Nat → Int32} {ypa : Nat → Int32} {ysp : Nat → Int32} {ypl : Nat → Int32} {ycp : Nat → Int32} {ybo : Nat → Int32} {ytk : Nat → Int32} {yno : Nat → Int32} {ych : Nat → Int32} {yfa : Nat → Int32}
theorem xm_ha {post : Int32 → Prop} {P : Nat} {sg : Nat → Nat} (hP : P ≤ 6) (hP0 : 0 < P) (hp : ∀ k, k < P → qu_P pva pwa pam pdi plo phi k) (hsg : ∀ v, v < 4 → ch v = nI (sg v) ∧ sg v < 8) (h1 : post 1) (h0 : (∃ k, 1 ≤ k ∧ k < P ∧ ¬ pam k = 0 ∧ bt (ar (k * 8 + sg (Vf pva (k - 1)))) (sg (Vf pva k)) = false) → post 0) : wpX_hopsCanArrive post (nT, eT, xlv, (nI P), xqc, xcc, xec, mc, lw, rc, xla, xpr, xed, sN, sE, sL, sP, sD, pva, pwa, pam, pdi, plo, phi, ptk, pco, pex, tr, ds, ch, ar, rN, rM, s1, s2, s3, s4, s5) := by
  have K : ∀ d i, 1 ≤ i → i + d = P → wX_hopsCanArrive_2 post nT eT xlv (nI P) xqc xcc xec mc lw rc xla xpr xed sN sE sL sP sD pva pwa pam pdi plo phi ptk pco pex tr ds ch ar rN rM s1 s2 s3 s4 s5 (d + 1) (nI i) := by
    intro d
    induction d with
    | zero =>
      intro i h1i hi
      exact br_t (nI_le (by omega) (by omega)) h1
    | succ d ih =>
      intro i h1i hi
      obtain ⟨a1, a2, _, _⟩ := q_f (hp (i - 1) (by omega))
      obtain ⟨b1, b2, _, _⟩ := q_f (hp i (by omega))
      obtain ⟨a3, a4⟩ := hsg _ a2
      obtain ⟨b3, b4⟩ := hsg _ b2
      have e1 : nI i - 1 = nI (i - 1) := pk_sub (b := 1) (by omega)
      have e2 : nI i * 8 + nI (sg (Vf pva (i - 1))) = nI (i * 8 + sg (Vf pva (i - 1))) := tg_ix
      have wi : vp_in (nI i) 6 := vp_in_nI (by omega) (by omega)
      refine br_f (nI_ge (by omega) (by omega)) ?_
      rw [e1, nI_clamp (show i - 1 < 2 ^ 31 by omega), nI_clamp (show i < 2 ^ 31 by omega), a1, b1, nI_clamp (show Vf pva (i - 1) < 2 ^ 31 by omega), nI_clamp (show Vf pva i < 2 ^ 31 by omega), a3, b3]
      refine ⟨vp_in_nI (by omega) (by omega), vp_in_nI a2 (by omega), nm_e ⟨wi, vp_in_nI b2 (by omega), nm_e ⟨wi, br_c (fun z => nm_r (nI_1 i) (ih (i + 1) (by omega) (by omega))) (fun z => ?_)⟩⟩⟩
      rw [e2, nI_clamp (by omega)]
      exact ⟨vp_in_nI (by omega) (by omega), tg_isIn (by omega) (tg_zbr (fun b => h0 ⟨i, h1i, by omega, z, b⟩) (fun b => nm_r (nI_1 i) (ih (i + 1) (by omega) (by omega))))⟩
  exact ⟨P - 1 + 1, K (P - 1) 1 (Nat.le_refl 1) (by omega)⟩
theorem xm_cd {post : Int32 → Prop} {P v : Nat} (hP : P ≤ 6) (hv : v < 4) (hp : ∀ k, k < P → qu_P pva pwa pam pdi plo phi k) (h : ∀ r, (∀ n, n < 8 → (bt r n = true ↔ cn_ nT xla pva pwa P v n)) → post r) : wpX_candidatesFor post (nT, eT, xlv, (nI P), xqc, xcc, xec, mc, lw, rc, xla, xpr, xed, sN, sE, sL, sP, sD, pva, pwa, pam, pdi, plo, phi, ptk, pco, pex, tr, ds, ch, ar, rN, rM, s1, s2, s3, s4, s5) (nI v) := by
  refine tg_xnm hP (fun hn => br_f tg_10 ?_) (fun hn => br_t rfl (h 1 (fun n hn8 => ?_)))
  · have K1 : ∀ (J : Int32 → Int32 → Prop) k, k < P → (∀ r, (∀ n, n < 8 → (bt r n = true ↔ (bt nT n = true ∧ ∀ k', k' < k + 1 → Vf pva k' = v → (xla n &&& pwa k') = pwa k'))) → J r (nI (k + 1))) → ∀ d i r, i + d = 8 → (∀ n, n < 8 → (bt r n = true ↔ (bt nT n = true ∧ (∀ k', k' < k → Vf pva k' = v → (xla n &&& pwa k') = pwa k') ∧ (n < i → Vf pva k = v → (xla n &&& pwa k) = pwa k)))) → wX_candidatesFor_28 post J (nI v) (nI k) nT eT xlv (nI P) xqc xcc xec mc lw rc xla xpr xed sN sE sL sP sD pva pwa pam pdi plo phi ptk pco pex tr ds ch ar rN rM s1 s2 s3 s4 s5 (d + 1) r (nI i) := by
      intro J k hk hJ d
      have wk : vp_in (nI k) 6 := vp_in_nI (by omega) (by omega)
      have ck : (nI k).toNatClampNeg = k := nI_clamp (by omega)
      obtain ⟨a1, a2, _, _⟩ := q_f (hp k hk)
      induction d with
      | zero =>
        intro i r hi hr
        have z : i = 8 := by omega
        subst z
        refine br_t (nI_le (a := 8) (by omega) (by omega)) (nm_r (nI_1 k) (hJ r (fun n hn8 => ?_)))
        rw [hr n hn8]
        refine ⟨fun q => ⟨q.1, fun k' hk' e => ?_⟩, fun q => ⟨q.1, fun k' hk' e => q.2 k' (by omega) e, fun _ e => q.2 k (by omega) e⟩⟩
        by_cases y : k' = k
        · rw [y]; rw [y] at e; exact q.2.2 hn8 e
        · exact q.2.1 k' (by omega) e
      | succ d ih =>
        intro i r hi hr
        refine br_f (nI_ge (b := 8) (by omega) (by decide)) ⟨wk, ?_⟩
        rw [ck, nI_clamp (show i < 2 ^ 31 by omega)]
        refine br_c (fun e => ⟨vp_in_nI (by omega) (by omega), wk, wk, br_c (fun b => nm_r (nI_1 i) (ih (i + 1) r (by omega) (fun n hn8 => ?_))) (fun b => nm_e (nm_r (nI_1 i) (ih (i + 1) _ (by omega) (fun n hn8 => ?_))))⟩) (fun e => nm_r (nI_1 i) (ih (i + 1) r (by omega) (fun n hn8 => ?_)))
        · rw [hr n hn8]
          refine ⟨fun q => ⟨q.1, q.2.1, fun hh e' => ?_⟩, fun q => ⟨q.1, q.2.1, fun hh e' => q.2.2 (by omega) e'⟩⟩
          by_cases y : n = i
          · rw [y]; exact b
          · exact q.2.2 (by omega) e'
        · have ev : Vf pva k = v := (nI_eq (by omega) (by omega)).mp (a1.symm.trans e)
          rw [tg_andn r (by omega), Bool.and_eq_true, hr n hn8]
          by_cases y : n = i
          · subst y
            refine ⟨fun q => ?_, fun q => absurd (q.2.2 (by omega) ev) b⟩
            have := q.2
            simp at this
          · rw [decide_eq_false y]
            refine ⟨fun q => ⟨q.1.1, q.1.2.1, fun hh e' => q.1.2.2 (by omega) e'⟩, fun q => ⟨⟨q.1, q.2.1, fun hh e' => q.2.2 (by omega) e'⟩, rfl⟩⟩
        · have ev : ¬ Vf pva k = v := fun w => e (by rw [a1, w])
          rw [hr n hn8]
          exact ⟨fun q => ⟨q.1, q.2.1, fun _ e' => absurd e' ev⟩, fun q => ⟨q.1, q.2.1, fun _ e' => absurd e' ev⟩⟩
    have K2 : ∀ d k r, k + d = P → (∀ n, n < 8 → (bt r n = true ↔ (bt nT n = true ∧ ∀ k', k' < k → Vf pva k' = v → (xla n &&& pwa k') = pwa k'))) → wX_candidatesFor_17 post (nI v) nT eT xlv (nI P) xqc xcc xec mc lw rc xla xpr xed sN sE sL sP sD pva pwa pam pdi plo phi ptk pco pex tr ds ch ar rN rM s1 s2 s3 s4 s5 (d + 1) r (nI k) := by
      intro d
      induction d with
      | zero =>
        intro k r hk hr
        have z : k = P := by omega
        subst z
        refine br_t (nI_le (by omega) (by omega)) (h r (fun n hn8 => ?_))
        rw [hr n hn8]
        exact ⟨fun q => Or.inl ⟨hn, q.1, q.2⟩, fun q => q.elim (fun w => ⟨w.2.1, w.2.2⟩) (fun w => absurd hn w.1)⟩
      | succ d ih =>
        intro k r hk hr
        refine br_f (nI_ge (by omega) (by omega)) ⟨9, K1 _ k (by omega) (fun r' hr' => ih (k + 1) r' (by omega) hr') 8 0 r (by omega) (fun n hn8 => ?_)⟩
        rw [hr n hn8]
        exact ⟨fun q => ⟨q.1, q.2, fun w => absurd w (Nat.not_lt_zero n)⟩, fun q => ⟨q.1, q.2.1⟩⟩
    refine ⟨P + 1, K2 P 0 nT (by omega) (fun n hn8 => ?_)⟩
    exact ⟨fun q => ⟨q, fun k' hk' => absurd hk' (Nat.not_lt_zero k')⟩, fun q => q.1⟩
  · rw [tg_b1, decide_eq_true_eq]
    exact ⟨fun q => Or.inr ⟨hn, q⟩, fun q => q.elim (fun w => absurd w.1 hn) (fun w => w.2)⟩
theorem pa_sn {P c : Nat} (hp : pa_ nT xla pva pwa P c) : sn_ nT (nm_P pva P) (fun v => nI (dg c v)) := fun v hv hn => by
  rcases hp v hv with ⟨_, b, _⟩ | ⟨q, _⟩
  · exact ⟨dg c v, dg_lt c v, rfl, b⟩
  · exact absurd hn q
theorem xm_tn {post : SX → Prop} {P n m l R cc : Nat} {c cs os : Nat → Nat} {nu : Nat → Prop} {XL : List Int32} (hP : P ≤ 6) (hP0 : 0 < P) (hp : ∀ k, k < P → qu_P pva pwa pam pdi plo phi k) (h00 : pam 0 = 0) (hR : gr_R nT eT xla xpr xed yla ypr yfr yto yty ywt)
    (hn : n ≤ 12) (hco : ∀ k, k < n → pco k = nI (c k)) (hW : n = 0 ∨ cd_W c (nm_P pva P) n cs os nu) (har : ∀ k, k < P → ¬ pam k = 0 → ar_ pam plo phi (fe_ eT yfr yto yty pam pdi) ar k)
    (hpa : pa_ nT xla pva pwa P cc) (hm : m ≤ 1000) (hl : l ≤ 1000000) (hRr : R ≤ 1000)
    (x1 : cv_ ypr (fun v => nI (dg cc v)) c cs n = true → XL = fl_ P (Vf pva) (Vf plo) (Vf phi) (fe_ eT yfr yto yty pam pdi) (nx_ pam P) (dg cc)) (x0 : cv_ ypr (fun v => nI (dg cc v)) c cs n = false → XL = [])
    (hx : 1000 < m + XL.length → ∀ lw rc (rN rM tr ch s1 s2 s3 s4 s5 : Nat → Int32), post (nT, eT, xlv, (nI P), xqc, (nI n), xec, (nI 1001), lw, rc, xla, xpr, xed, sN, sE, sL, sP, sD, pva, pwa, pam, pdi, plo, phi, ptk, pco, pex, tr, ds, ch, ar, rN, rM, s1, s2, s3, s4, s5))
    (h0 : XL = [] → ∀ (tr ch s1 s2 s3 s4 s5 : Nat → Int32), post (nT, eT, xlv, (nI P), xqc, (nI n), xec, (nI m), (nI l), (nI R), xla, xpr, xed, sN, sE, sL, sP, sD, pva, pwa, pam, pdi, plo, phi, ptk, pco, pex, tr, ds, ch, ar, rN, rM, s1, s2, s3, s4, s5))
    (h1 : ¬ XL = [] → m + XL.length ≤ 1000 → ∀ (tr ch s1 s2 s3 s4 s5 : Nat → Int32), post (nT, eT, xlv, (nI P), xqc, (nI n), xec, (nI (m + XL.length)), (nI (lm_ (ws_ ywt) l XL)), (nI (R + 1)), xla, xpr, xed, sN, sE, sL, sP, sD, pva, pwa, pam, pdi, plo, phi, ptk, pco, pex, tr, ds, ch, ar, (upd rN R (nI (pkc cc))), (upd rM R (nI XL.length)), s1, s2, s3, s4, s5)) :
    wpX_tryNodes post (nT, eT, xlv, (nI P), xqc, (nI n), xec, (nI m), (nI l), (nI R), xla, xpr, xed, sN, sE, sL, sP, sD, pva, pwa, pam, pdi, plo, phi, ptk, pco, pex, tr, ds, ch, ar, rN, rM, s1, s2, s3, s4, s5) (nI (dg cc 0)) (nI (dg cc 1)) (nI (dg cc 2)) (nI (dg cc 3)) := by
  have hsg : ∀ v, v < 4 → upd (upd (upd (upd ch 0 (nI (dg cc 0))) 1 (nI (dg cc 1))) 2 (nI (dg cc 2))) 3 (nI (dg cc 3)) v = nI (dg cc v) ∧ dg cc v < 8 := fun v hv => by
    refine ⟨?_, dg_lt cc v⟩
    have : v = 0 ∨ v = 1 ∨ v = 2 ∨ v = 3 := by omega
    rcases this with rfl | rfl | rfl | rfl
    · rw [pk_un (by omega), pk_un (by omega), pk_un (by omega), pk_us]
    · rw [pk_un (by omega), pk_un (by omega), pk_us]
    · rw [pk_un (by omega), pk_us]
    · rw [pk_us]
  refine nm_e (nm_e (nm_e (nm_e (xm_ha (sg := dg cc) hP hP0 hp hsg (br_f tg_10 ?_) (fun q => br_t rfl ?_)))))
  · refine xc_l (nT := nT) (s := fun v => nI (dg cc v)) hn hco hR hW (pa_sn hpa) (fun v hv => (hsg v hv).1) (fun tr => ?_)
    refine tg_zbr (fun e => h0 (x0 e) _ _ _ _ _ _ _) (fun e => ?_)
    have eX := x1 e
    refine xm_ft (sg := dg cc) hP hP0 hp hR hsg hm hl (fun q lw s1 s2 s3 s4 s5 => ?_) (fun q s1 s2 s3 s4 s5 => ?_)
    · rw [← eX] at q
      refine br_f (nI_ge (by omega) (by omega)) (br_f (nI_ge (b := 1001) (by omega) (by omega)) ⟨vp_in_nI (by omega) (by omega), nm_e ⟨vp_in_nI (by omega) (by omega), nm_e (nm_e (hx q _ _ _ _ _ _ _ _ _ _ _))⟩⟩)
    · rw [← eX] at q ⊢
      by_cases z : XL = []
      · have e0 : XL.length = 0 := by rw [z]; rfl
        rw [e0, Nat.add_zero]
        have e1 : lm_ (ws_ ywt) l XL = l := by rw [z]; rfl
        rw [e1]
        exact br_t (Int32.le_refl _) (h0 z _ _ _ _ _ _ _)
      · have e0 : 0 < XL.length := List.length_pos_iff.mpr z
        refine br_f (nI_ge (by omega) (by omega)) (br_f (nI_ge (b := 1001) (by omega) (by omega)) ⟨vp_in_nI (by omega) (by omega), nm_r (by rw [tg_pkc, nI_clamp (by omega)]) ⟨vp_in_nI (by omega) (by omega), nm_r (by rw [pk_sub (by omega), nI_clamp (by omega), show m + XL.length - m = XL.length from by omega]) (nm_r (nI_1 R) (h1 z q _ _ _ _ _ _ _))⟩⟩)
  · obtain ⟨k, k1, k2, k3, k4⟩ := q
    refine h0 ?_ _ _ _ _ _ _ _
    cases e : cv_ ypr (fun v => nI (dg cc v)) c cs n with
    | false => exact x0 e
    | true =>
      have eX := x1 e
      cases hXL : XL with
      | nil => rfl
      | cons y L =>
        exfalso
        have hy : y ∈ fl_ P (Vf pva) (Vf plo) (Vf phi) (fe_ eT yfr yto yty pam pdi) (nx_ pam P) (dg cc) := by rw [← eX, hXL]; exact List.mem_cons_self
        obtain ⟨mm, m1, m2, m3⟩ := fl_ar (sh_of hp) hP0 (decide_eq_true h00) hy k k2 (decide_eq_false k3)
        have := har k k2 k3 (dg cc (Vf pva (k - 1))) mm (dg cc (Vf pva k)) (dg_lt _ _) m1 m2 m3
        rw [k4] at this
        exact absurd this (by decide)
end
section
/-! survey -/
def sm_ (X : Nat → List Int32) : Nat → Nat
  | 0 => 0
  | c + 1 => sm_ X c + (X c).length
def rr_ (X : Nat → List Int32) : Nat → Nat
  | 0 => 0
  | c + 1 => rr_ X c + (if X c = [] then 0 else 1)
def ml_ (w : Int32 → Nat) (X : Nat → List Int32) : Nat → Nat
  | 0 => 1000000
  | c + 1 => lm_ w (ml_ w X c) (X c)
theorem sm_m (X : Nat → List Int32) (c : Nat) : ∀ d, sm_ X c ≤ sm_ X (c + d)
  | 0 => Nat.le_refl _
  | d + 1 => Nat.le_trans (sm_m X c d) (Nat.le_add_right _ _)
theorem rr_m (X : Nat → List Int32) (c : Nat) : ∀ d, rr_ X c ≤ rr_ X (c + d)
  | 0 => Nat.le_refl _
  | d + 1 => Nat.le_trans (rr_m X c d) (Nat.le_add_right _ _)
theorem rr_l (X : Nat → List Int32) : ∀ c, rr_ X c ≤ sm_ X c
  | 0 => Nat.le_refl 0
  | c + 1 => by
    have := rr_l X c
    show rr_ X c + (if X c = [] then 0 else 1) ≤ sm_ X c + (X c).length
    split
    · omega
    · next z =>
      have := List.length_pos_iff.mpr z
      omega
theorem ml_l (w : Int32 → Nat) (X : Nat → List Int32) : ∀ c, ml_ w X c ≤ 1000000
  | 0 => Nat.le_refl _
  | c + 1 => Nat.le_trans (lm_le w (X c) _) (ml_l w X c)
theorem rr_1 {X : Nat → List Int32} {c : Nat} (h : ¬ X c = []) : rr_ X (c + 1) = rr_ X c + 1 := by show rr_ X c + _ = _; rw [if_neg h]
theorem rr_lt {X : Nat → List Int32} {i c : Nat} (h : i < c) (hi : ¬ X i = []) : rr_ X i < rr_ X c := by
  have := rr_m X (i + 1) (c - (i + 1))
  rw [show i + 1 + (c - (i + 1)) = c from by omega] at this
  have e : rr_ X (i + 1) = rr_ X i + 1 := by show rr_ X i + _ = _; rw [if_neg hi]
  omega
def sv_ (w : Int32 → Nat) (X : Nat → List Int32) (c : Nat) (mc lw rc : Int32) (rN rM : Nat → Int32) : Prop :=
  (sm_ X c ≤ 1000 ∧ mc = nI (sm_ X c) ∧ lw = nI (ml_ w X c) ∧ rc = nI (rr_ X c) ∧ ∀ i, i < c → ¬ X i = [] → rN (rr_ X i) = nI (pkc i) ∧ rM (rr_ X i) = nI (X i).length) ∨ (1000 < sm_ X 4096 ∧ mc = nI 1001)
theorem sv_nil {w : Int32 → Nat} {X : Nat → List Int32} {c : Nat} {mc lw rc : Int32} {rN rM : Nat → Int32} (h : sv_ w X c mc lw rc rN rM) (hX : X c = []) : sv_ w X (c + 1) mc lw rc rN rM := by
  rcases h with ⟨a, b, d, e, f⟩ | q
  · have e1 : sm_ X (c + 1) = sm_ X c := by show sm_ X c + _ = _; rw [hX]; rfl
    have e2 : rr_ X (c + 1) = rr_ X c := by show rr_ X c + _ = _; rw [if_pos hX]; rfl
    have e3 : ml_ w X (c + 1) = ml_ w X c := by show lm_ w _ _ = _; rw [hX]; rfl
    refine Or.inl ⟨by rw [e1]; exact a, by rw [e1]; exact b, by rw [e3]; exact d, by rw [e2]; exact e, fun i hi hn => ?_⟩
    by_cases z : i = c
    · rw [z] at hn; exact absurd hX hn
    · exact f i (by omega) hn
  · exact Or.inr q
theorem sv_nils {w : Int32 → Nat} {X : Nat → List Int32} {c : Nat} {mc lw rc : Int32} {rN rM : Nat → Int32} (h : sv_ w X c mc lw rc rN rM) : ∀ d, (∀ i, c ≤ i → i < c + d → X i = []) → sv_ w X (c + d) mc lw rc rN rM
  | 0, _ => h
  | d + 1, hX => sv_nil (sv_nils h d (fun i h1 h2 => hX i h1 (by omega))) (hX (c + d) (by omega) (by omega))
theorem dgs {a b c d : Nat} (ha : a < 8) (hb : b < 8) (hc : c < 8) (hd : d < 8) : dg (a * 512 + b * 64 + c * 8 + d) 0 = a ∧ dg (a * 512 + b * 64 + c * 8 + d) 1 = b ∧ dg (a * 512 + b * 64 + c * 8 + d) 2 = c ∧ dg (a * 512 + b * 64 + c * 8 + d) 3 = d := by
  unfold dg
  rw [show (8 : Nat) ^ (3 - 0) = 512 from rfl, show (8 : Nat) ^ (3 - 1) = 64 from rfl, show (8 : Nat) ^ (3 - 2) = 8 from rfl, show (8 : Nat) ^ (3 - 3) = 1 from rfl]
  refine ⟨?_, ?_, ?_, ?_⟩ <;> omega
/-- X c is X's list of the matches with code c -/
def xl_ (P n : Nat) (nT eT : Int32) (xla pva pwa pam pdi plo phi yfr yto yty : Nat → Int32) (ypr : Nat → Int64) (c cs : Nat → Nat) (X : Nat → List Int32) : Prop :=
  ∀ cc, cc < 4096 → (pa_ nT xla pva pwa P cc → (cv_ ypr (fun v => nI (dg cc v)) c cs n = true → X cc = fl_ P (Vf pva) (Vf plo) (Vf phi) (fe_ eT yfr yto yty pam pdi) (nx_ pam P) (dg cc)) ∧ (cv_ ypr (fun v => nI (dg cc v)) c cs n = false → X cc = [])) ∧ (¬ pa_ nT xla pva pwa P cc → X cc = [])
variable {nT : Int32} {eT : Int32} {xlv : Int32} {xpc : Int32} {xqc : Int32} {xcc : Int32} {xec : Int32} {mc : Int32} {lw : Int32} {rc : Int32} {xla : Nat → Int32} {xpr : Nat → Int64} {xed : Nat → Int32} {sN : Nat → Int32} {sE : Nat → Int32} {sL : Nat → Int32} {sP : Nat → Int64} {sD : Nat → Int32} {pva : Nat → Int32} {pwa : Nat → Int32} {pam : Nat → Int32} {pdi : Nat → Int32} {plo : Nat → Int32} {phi : Nat → Int32} {ptk : Nat → Int32} {pco : Nat → Int32} {pex : Nat → Int32} {tr : Nat → Int32} {ds : Nat → Int32} {ch : Nat → Int32} {ar : Nat → Int32} {rN : Nat → Int32} {rM : Nat → Int32} {s1 : Nat → Int32} {s2 : Nat → Int32} {s3 : Nat → Int32} {s4 : Nat → Int32} {s5 : Nat → Int32}
variable {ylv : Int32} {ypc : Int32} {yqc : Int32} {ycc : Int32} {yec : Int32} {yde : Int32} {yus : Int32} {ywe : Int32} {yfo : Int32} {yli : Int32} {yso : Int32} {ysu : Int64} {yla : Nat → Int32} {ypr : Nat → Int64} {yfr : Nat → Int32} {yto : Nat → Int32} {yty : Nat → Int32} {ywt : Nat → Int32} {yst : Nat → Int32} {ypa : Nat → Int32} {ysp : Nat → Int32} {ypl : Nat → Int32} {ycp : Nat → Int32} {ybo : Nat → Int32} {ytk : Nat → Int32} {yno : Nat → Int32} {ych : Nat → Int32} {yfa : Nat → Int32}
theorem xs_d {post : SX → Prop} {J56 J78 J100 : _} {m1 m2 m3 m4 : Int32} {P n a b c0 : Nat} {c cs os : Nat → Nat} {nu : Nat → Prop} {X : Nat → List Int32} (hP : P ≤ 6) (hP0 : 0 < P) (hp : ∀ k, k < P → qu_P pva pwa pam pdi plo phi k) (h00 : pam 0 = 0) (hR : gr_R nT eT xla xpr xed yla ypr yfr yto yty ywt)
    (hn : n ≤ 12) (hco : ∀ k, k < n → pco k = nI (c k)) (hW : n = 0 ∨ cd_W c (nm_P pva P) n cs os nu) (har : ∀ k, k < P → ¬ pam k = 0 → ar_ pam plo phi (fe_ eT yfr yto yty pam pdi) ar k)
    (hX : xl_ P n nT eT xla pva pwa pam pdi plo phi yfr yto yty ypr c cs X) (h3 : ∀ i, i < 8 → (bt m4 i = true ↔ cn_ nT xla pva pwa P 3 i)) (ha : a < 8) (hb : b < 8) (hc0 : c0 < 8) (na : cn_ nT xla pva pwa P 0 a) (nb : cn_ nT xla pva pwa P 1 b) (nc : cn_ nT xla pva pwa P 2 c0)
    (hJ : ∀ mc lw rc (rN rM tr ch s1 s2 s3 s4 s5 : Nat → Int32), sv_ (ws_ ywt) X (a * 512 + b * 64 + c0 * 8 + 8) mc lw rc rN rM → J100 (nI (c0 + 1)) nT eT xlv (nI P) xqc (nI n) xec mc lw rc xla xpr xed sN sE sL sP sD pva pwa pam pdi plo phi ptk pco pex tr ds ch ar rN rM s1 s2 s3 s4 s5) :
    ∀ dd d mc lw rc (rN rM tr ch s1 s2 s3 s4 s5 : Nat → Int32), d + dd = 8 → sv_ (ws_ ywt) X (a * 512 + b * 64 + c0 * 8 + d) mc lw rc rN rM → wX_survey_122 post J56 J78 J100 m1 m2 m3 m4 (nI a) (nI b) (nI c0) (dd + 1) (nI d) nT eT xlv (nI P) xqc (nI n) xec mc lw rc xla xpr xed sN sE sL sP sD pva pwa pam pdi plo phi ptk pco pex tr ds ch ar rN rM s1 s2 s3 s4 s5 := by
  intro dd
  induction dd with
  | zero =>
    intro d mc lw rc rN rM tr ch s1 s2 s3 s4 s5 hd hs
    have z : d = 8 := by omega
    subst z
    exact br_t (nI_le (a := 8) (by omega) (by omega)) (nm_r (nI_1 c0) (hJ mc lw rc rN rM tr ch s1 s2 s3 s4 s5 hs))
  | succ dd ih =>
    intro d mc lw rc rN rM tr ch s1 s2 s3 s4 s5 hd hs
    obtain ⟨g0, g1, g2, g3⟩ := dgs ha hb hc0 (show d < 8 by omega)
    have hX' := hX (a * 512 + b * 64 + c0 * 8 + d) (by omega)
    have pi : cn_ nT xla pva pwa P 3 d → pa_ nT xla pva pwa P (a * 512 + b * 64 + c0 * 8 + d) := fun q v hv => by
      have : v = 0 ∨ v = 1 ∨ v = 2 ∨ v = 3 := by omega
      rcases this with rfl | rfl | rfl | rfl
      · rw [g0]; exact na
      · rw [g1]; exact nb
      · rw [g2]; exact nc
      · rw [g3]; exact q
    refine br_f (nI_ge (b := 8) (by omega) (by decide)) (tg_isIn (by omega) (tg_zbr (fun e => nm_r (nI_1 d) (ih (d + 1) _ _ _ _ _ _ _ _ _ _ _ _ (by omega) (sv_nil hs (hX'.2 (fun q => ?_))))) (fun e => ?_)))
    · have := q 3 (by omega)
      rw [g3] at this
      rw [(h3 d (by omega)).mpr this] at e
      exact absurd e (by decide)
    · have pc := pi ((h3 d (by omega)).mp e)
      obtain ⟨x1, x0⟩ := hX'.1 pc
      rcases hs with ⟨q1, rfl, rfl, rfl, q5⟩ | ⟨q1, rfl⟩
      · refine br_f (nI_nlt (b := sm_ X (a * 512 + b * 64 + c0 * 8 + d)) (a := 1000) q1 (by omega)) ?_
        have rl := rr_l X (a * 512 + b * 64 + c0 * 8 + d)
        have T := fun (post : SX → Prop) hx h0 h1 => xm_tn (post := post) (l := ml_ (ws_ ywt) X (a * 512 + b * 64 + c0 * 8 + d)) (R := rr_ X (a * 512 + b * 64 + c0 * 8 + d)) (nT := nT) (eT := eT) (xlv := xlv) (xqc := xqc) (xec := xec) (xla := xla) (xpr := xpr) (xed := xed) (sN := sN) (sE := sE) (sL := sL) (sP := sP) (sD := sD) (ptk := ptk) (pex := pex) (tr := tr) (ds := ds) (ch := ch) (rN := rN) (rM := rM) (s1 := s1) (s2 := s2) (s3 := s3) (s4 := s4) (s5 := s5) hP hP0 hp h00 hR hn hco hW har pc q1 (ml_l (ws_ ywt) X _) (by omega) x1 x0 hx h0 h1
        rw [g0, g1, g2, g3] at T
        refine T _ (fun q lw rc rN rM tr ch s1 s2 s3 s4 s5 => nm_r (nI_1 d) (ih (d + 1) _ _ _ _ _ _ _ _ _ _ _ _ (by omega) (Or.inr ⟨?_, rfl⟩))) (fun q tr ch s1 s2 s3 s4 s5 => nm_r (nI_1 d) (ih (d + 1) _ _ _ _ _ _ _ _ _ _ _ _ (by omega) (sv_nil (Or.inl ⟨q1, rfl, rfl, rfl, q5⟩) q))) (fun q q' tr ch s1 s2 s3 s4 s5 => nm_r (nI_1 d) (ih (d + 1) _ _ _ _ _ _ _ _ _ _ _ _ (by omega) (Or.inl ⟨q', rfl, rfl, ?_, fun i hi hne => ?_⟩)))
        · have := sm_m X (a * 512 + b * 64 + c0 * 8 + d + 1) (4096 - (a * 512 + b * 64 + c0 * 8 + d + 1))
          rw [show a * 512 + b * 64 + c0 * 8 + d + 1 + (4096 - (a * 512 + b * 64 + c0 * 8 + d + 1)) = 4096 from by omega] at this
          have e : sm_ X (a * 512 + b * 64 + c0 * 8 + d + 1) = sm_ X (a * 512 + b * 64 + c0 * 8 + d) + (X (a * 512 + b * 64 + c0 * 8 + d)).length := rfl
          omega
        · exact congrArg nI (rr_1 q).symm
        · by_cases z : i = a * 512 + b * 64 + c0 * 8 + d
          · rw [z]; exact ⟨pk_us, pk_us⟩
          · have := rr_lt (c := a * 512 + b * 64 + c0 * 8 + d) (by omega) hne
            rw [pk_un (by omega), pk_un (by omega)]
            exact q5 i (by omega) hne
      · exact br_t (by decide) (nm_r (nI_1 d) (ih (d + 1) _ _ _ _ _ _ _ _ _ _ _ _ (by omega) (Or.inr ⟨q1, rfl⟩)))
theorem xs_c {post : SX → Prop} {J56 J78 : _} {m1 m2 m3 m4 : Int32} {P n a b : Nat} {c cs os : Nat → Nat} {nu : Nat → Prop} {X : Nat → List Int32} (hP : P ≤ 6) (hP0 : 0 < P) (hp : ∀ k, k < P → qu_P pva pwa pam pdi plo phi k) (h00 : pam 0 = 0) (hR : gr_R nT eT xla xpr xed yla ypr yfr yto yty ywt)
    (hn : n ≤ 12) (hco : ∀ k, k < n → pco k = nI (c k)) (hW : n = 0 ∨ cd_W c (nm_P pva P) n cs os nu) (har : ∀ k, k < P → ¬ pam k = 0 → ar_ pam plo phi (fe_ eT yfr yto yty pam pdi) ar k)
    (hX : xl_ P n nT eT xla pva pwa pam pdi plo phi yfr yto yty ypr c cs X) (h2 : ∀ i, i < 8 → (bt m3 i = true ↔ cn_ nT xla pva pwa P 2 i)) (h3 : ∀ i, i < 8 → (bt m4 i = true ↔ cn_ nT xla pva pwa P 3 i)) (ha : a < 8) (hb : b < 8) (na : cn_ nT xla pva pwa P 0 a) (nb : cn_ nT xla pva pwa P 1 b)
    (hJ : ∀ mc lw rc (rN rM tr ch s1 s2 s3 s4 s5 : Nat → Int32), sv_ (ws_ ywt) X (a * 512 + b * 64 + 64) mc lw rc rN rM → J78 (nI (b + 1)) nT eT xlv (nI P) xqc (nI n) xec mc lw rc xla xpr xed sN sE sL sP sD pva pwa pam pdi plo phi ptk pco pex tr ds ch ar rN rM s1 s2 s3 s4 s5) :
    ∀ dd d mc lw rc (rN rM tr ch s1 s2 s3 s4 s5 : Nat → Int32), d + dd = 8 → sv_ (ws_ ywt) X (a * 512 + b * 64 + d * 8) mc lw rc rN rM → wX_survey_100 post J56 J78 m1 m2 m3 m4 (nI a) (nI b) (dd + 1) (nI d) nT eT xlv (nI P) xqc (nI n) xec mc lw rc xla xpr xed sN sE sL sP sD pva pwa pam pdi plo phi ptk pco pex tr ds ch ar rN rM s1 s2 s3 s4 s5 := by
  intro dd
  induction dd with
  | zero =>
    intro d mc lw rc rN rM tr ch s1 s2 s3 s4 s5 hd hs
    have z : d = 8 := by omega
    subst z
    exact br_t (nI_le (a := 8) (by omega) (by omega)) (nm_r (nI_1 b) (hJ mc lw rc rN rM tr ch s1 s2 s3 s4 s5 hs))
  | succ dd ih =>
    intro d mc lw rc rN rM tr ch s1 s2 s3 s4 s5 hd hs
    refine br_f (nI_ge (b := 8) (by omega) (by decide)) (tg_isIn (by omega) (tg_zbr (fun e => nm_r (nI_1 d) (ih (d + 1) _ _ _ _ _ _ _ _ _ _ _ _ (by omega) ?_)) (fun e => ⟨9, ?_⟩)))
    · have := sv_nils hs 8 (fun i i1 i2 => (hX i (by omega)).2 (fun q => by
        have q2 := q 2 (by omega)
        obtain ⟨_, _, g2, _⟩ := dgs ha hb (show d < 8 by omega) (show i - (a * 512 + b * 64 + d * 8) < 8 by omega)
        rw [show a * 512 + b * 64 + d * 8 + (i - (a * 512 + b * 64 + d * 8)) = i from by omega] at g2
        rw [g2] at q2
        rw [(h2 d (by omega)).mpr q2] at e
        exact absurd e (by decide)))
      rw [show a * 512 + b * 64 + (d + 1) * 8 = a * 512 + b * 64 + d * 8 + 8 from by omega]
      exact this
    · refine xs_d hP hP0 hp h00 hR hn hco hW har hX h3 ha hb (by omega) na nb ((h2 d (by omega)).mp e) (fun mc lw rc rN rM tr ch s1 s2 s3 s4 s5 hs' => ih (d + 1) mc lw rc rN rM tr ch s1 s2 s3 s4 s5 (by omega) ?_) 8 0 mc lw rc rN rM tr ch s1 s2 s3 s4 s5 (by omega) hs
      rw [show a * 512 + b * 64 + (d + 1) * 8 = a * 512 + b * 64 + d * 8 + 8 from by omega]
      exact hs'
theorem xs_b {post : SX → Prop} {J56 : _} {m1 m2 m3 m4 : Int32} {P n a : Nat} {c cs os : Nat → Nat} {nu : Nat → Prop} {X : Nat → List Int32} (hP : P ≤ 6) (hP0 : 0 < P) (hp : ∀ k, k < P → qu_P pva pwa pam pdi plo phi k) (h00 : pam 0 = 0) (hR : gr_R nT eT xla xpr xed yla ypr yfr yto yty ywt)
    (hn : n ≤ 12) (hco : ∀ k, k < n → pco k = nI (c k)) (hW : n = 0 ∨ cd_W c (nm_P pva P) n cs os nu) (har : ∀ k, k < P → ¬ pam k = 0 → ar_ pam plo phi (fe_ eT yfr yto yty pam pdi) ar k)
    (hX : xl_ P n nT eT xla pva pwa pam pdi plo phi yfr yto yty ypr c cs X) (h1 : ∀ i, i < 8 → (bt m2 i = true ↔ cn_ nT xla pva pwa P 1 i)) (h2 : ∀ i, i < 8 → (bt m3 i = true ↔ cn_ nT xla pva pwa P 2 i)) (h3 : ∀ i, i < 8 → (bt m4 i = true ↔ cn_ nT xla pva pwa P 3 i)) (ha : a < 8) (na : cn_ nT xla pva pwa P 0 a)
    (hJ : ∀ mc lw rc (rN rM tr ch s1 s2 s3 s4 s5 : Nat → Int32), sv_ (ws_ ywt) X (a * 512 + 512) mc lw rc rN rM → J56 (nI (a + 1)) nT eT xlv (nI P) xqc (nI n) xec mc lw rc xla xpr xed sN sE sL sP sD pva pwa pam pdi plo phi ptk pco pex tr ds ch ar rN rM s1 s2 s3 s4 s5) :
    ∀ dd d mc lw rc (rN rM tr ch s1 s2 s3 s4 s5 : Nat → Int32), d + dd = 8 → sv_ (ws_ ywt) X (a * 512 + d * 64) mc lw rc rN rM → wX_survey_78 post J56 m1 m2 m3 m4 (nI a) (dd + 1) (nI d) nT eT xlv (nI P) xqc (nI n) xec mc lw rc xla xpr xed sN sE sL sP sD pva pwa pam pdi plo phi ptk pco pex tr ds ch ar rN rM s1 s2 s3 s4 s5 := by
  intro dd
  induction dd with
  | zero =>
    intro d mc lw rc rN rM tr ch s1 s2 s3 s4 s5 hd hs
    have z : d = 8 := by omega
    subst z
    exact br_t (nI_le (a := 8) (by omega) (by omega)) (nm_r (nI_1 a) (hJ mc lw rc rN rM tr ch s1 s2 s3 s4 s5 hs))
  | succ dd ih =>
    intro d mc lw rc rN rM tr ch s1 s2 s3 s4 s5 hd hs
    refine br_f (nI_ge (b := 8) (by omega) (by decide)) (tg_isIn (by omega) (tg_zbr (fun e => nm_r (nI_1 d) (ih (d + 1) _ _ _ _ _ _ _ _ _ _ _ _ (by omega) ?_)) (fun e => ⟨9, ?_⟩)))
    · have := sv_nils hs 64 (fun i i1 i2 => (hX i (by omega)).2 (fun q => by
        have q2 := q 1 (by omega)
        obtain ⟨_, g2, _, _⟩ := dgs ha (show d < 8 by omega) (show (i - (a * 512 + d * 64)) / 8 < 8 by omega) (show (i - (a * 512 + d * 64)) % 8 < 8 by omega)
        rw [show a * 512 + d * 64 + (i - (a * 512 + d * 64)) / 8 * 8 + (i - (a * 512 + d * 64)) % 8 = i from by omega] at g2
        rw [g2] at q2
        rw [(h1 d (by omega)).mpr q2] at e
        exact absurd e (by decide)))
      rw [show a * 512 + (d + 1) * 64 = a * 512 + d * 64 + 64 from by omega]
      exact this
    · refine xs_c hP hP0 hp h00 hR hn hco hW har hX h2 h3 ha (by omega) na ((h1 d (by omega)).mp e) (fun mc lw rc rN rM tr ch s1 s2 s3 s4 s5 hs' => ih (d + 1) mc lw rc rN rM tr ch s1 s2 s3 s4 s5 (by omega) ?_) 8 0 mc lw rc rN rM tr ch s1 s2 s3 s4 s5 (by omega) hs
      rw [show a * 512 + (d + 1) * 64 = a * 512 + d * 64 + 64 from by omega]
      exact hs'
theorem xs_a {post : SX → Prop} {m1 m2 m3 m4 : Int32} {P n : Nat} {c cs os : Nat → Nat} {nu : Nat → Prop} {X : Nat → List Int32} (hP : P ≤ 6) (hP0 : 0 < P) (hp : ∀ k, k < P → qu_P pva pwa pam pdi plo phi k) (h00 : pam 0 = 0) (hR : gr_R nT eT xla xpr xed yla ypr yfr yto yty ywt)
    (hn : n ≤ 12) (hco : ∀ k, k < n → pco k = nI (c k)) (hW : n = 0 ∨ cd_W c (nm_P pva P) n cs os nu) (har : ∀ k, k < P → ¬ pam k = 0 → ar_ pam plo phi (fe_ eT yfr yto yty pam pdi) ar k)
    (hX : xl_ P n nT eT xla pva pwa pam pdi plo phi yfr yto yty ypr c cs X) (h0 : ∀ i, i < 8 → (bt m1 i = true ↔ cn_ nT xla pva pwa P 0 i)) (h1 : ∀ i, i < 8 → (bt m2 i = true ↔ cn_ nT xla pva pwa P 1 i)) (h2 : ∀ i, i < 8 → (bt m3 i = true ↔ cn_ nT xla pva pwa P 2 i)) (h3 : ∀ i, i < 8 → (bt m4 i = true ↔ cn_ nT xla pva pwa P 3 i))
    (hJ : ∀ mc lw rc (rN rM tr ch s1 s2 s3 s4 s5 : Nat → Int32), sv_ (ws_ ywt) X 4096 mc lw rc rN rM → post (nT, eT, xlv, (nI P), xqc, (nI n), xec, mc, lw, rc, xla, xpr, xed, sN, sE, sL, sP, sD, pva, pwa, pam, pdi, plo, phi, ptk, pco, pex, tr, ds, ch, ar, rN, rM, s1, s2, s3, s4, s5)) :
    ∀ dd d mc lw rc (rN rM tr ch s1 s2 s3 s4 s5 : Nat → Int32), d + dd = 8 → sv_ (ws_ ywt) X (d * 512) mc lw rc rN rM → wX_survey_56 post m1 m2 m3 m4 (dd + 1) (nI d) nT eT xlv (nI P) xqc (nI n) xec mc lw rc xla xpr xed sN sE sL sP sD pva pwa pam pdi plo phi ptk pco pex tr ds ch ar rN rM s1 s2 s3 s4 s5 := by
  intro dd
  induction dd with
  | zero =>
    intro d mc lw rc rN rM tr ch s1 s2 s3 s4 s5 hd hs
    have z : d = 8 := by omega
    subst z
    exact br_t (nI_le (a := 8) (by omega) (by omega)) (hJ mc lw rc rN rM tr ch s1 s2 s3 s4 s5 hs)
  | succ dd ih =>
    intro d mc lw rc rN rM tr ch s1 s2 s3 s4 s5 hd hs
    refine br_f (nI_ge (b := 8) (by omega) (by decide)) (tg_isIn (by omega) (tg_zbr (fun e => nm_r (nI_1 d) (ih (d + 1) _ _ _ _ _ _ _ _ _ _ _ _ (by omega) ?_)) (fun e => ⟨9, ?_⟩)))
    · have := sv_nils hs 512 (fun i i1 i2 => (hX i (by omega)).2 (fun q => by
        have q2 := q 0 (by omega)
        obtain ⟨g2, _, _, _⟩ := dgs (show d < 8 by omega) (show (i - d * 512) / 64 < 8 by omega) (show (i - d * 512) / 8 % 8 < 8 by omega) (show (i - d * 512) % 8 < 8 by omega)
        rw [show d * 512 + (i - d * 512) / 64 * 64 + (i - d * 512) / 8 % 8 * 8 + (i - d * 512) % 8 = i from by omega] at g2
        rw [g2] at q2
        rw [(h0 d (by omega)).mpr q2] at e
        exact absurd e (by decide)))
      rw [show (d + 1) * 512 = d * 512 + 512 from by omega]
      exact this
    · refine xs_b hP hP0 hp h00 hR hn hco hW har hX h1 h2 h3 (by omega) ((h0 d (by omega)).mp e) (fun mc lw rc rN rM tr ch s1 s2 s3 s4 s5 hs' => ih (d + 1) mc lw rc rN rM tr ch s1 s2 s3 s4 s5 (by omega) ?_) 8 0 mc lw rc rN rM tr ch s1 s2 s3 s4 s5 (by omega) hs
      rw [show (d + 1) * 512 = d * 512 + 512 from by omega]
      exact hs'
theorem xs_ {post : SX → Prop} {P n : Nat} {c cs os : Nat → Nat} {nu : Nat → Prop} {X : Nat → List Int32} (hP : P ≤ 6) (hp : ∀ k, k < P → qu_P pva pwa pam pdi plo phi k) (hR : gr_R nT eT xla xpr xed yla ypr yfr yto yty ywt)
    (hn : n ≤ 12) (hco : ∀ k, k < n → pco k = nI (c k)) (hW : n = 0 ∨ cd_W c (nm_P pva P) n cs os nu)
    (hX : 0 < P → xl_ P n nT eT xla pva pwa pam pdi plo phi yfr yto yty ypr c cs X) (hX0 : P = 0 → ∀ i, X i = [])
    (hJ : ∀ mc lw rc (rN rM tr ch ar s1 s2 s3 s4 s5 : Nat → Int32), sv_ (ws_ ywt) X 4096 mc lw rc rN rM → post (nT, eT, xlv, (nI P), xqc, (nI n), xec, mc, lw, rc, xla, xpr, xed, sN, sE, sL, sP, sD, pva, pwa, pam, pdi, plo, phi, ptk, pco, pex, tr, ds, ch, ar, rN, rM, s1, s2, s3, s4, s5)) : wpX_survey post (nT, eT, xlv, (nI P), xqc, (nI n), xec, mc, lw, rc, xla, xpr, xed, sN, sE, sL, sP, sD, pva, pwa, pam, pdi, plo, phi, ptk, pco, pex, tr, ds, ch, ar, rN, rM, s1, s2, s3, s4, s5) := by
  have s0 : sv_ (ws_ ywt) X 0 0 1000000 0 rN rM := Or.inl ⟨Nat.zero_le _, rfl, rfl, rfl, fun i hi => absurd hi (Nat.not_lt_zero i)⟩
  rcases Nat.eq_zero_or_pos P with z | z
  · subst z
    refine br_t rfl (hJ _ _ _ _ _ _ _ _ _ _ _ _ _ ?_)
    have := sv_nils s0 4096 (fun i _ _ => hX0 rfl i)
    rw [Nat.zero_add] at this
    exact this
  · have h00 : pam 0 = 0 := by
      obtain ⟨_, _, _, v⟩ := q_f (hp 0 z)
      by_cases q : pam 0 = 0
      · exact q
      · exact absurd (v q).1 (Nat.lt_irrefl 0)
    refine br_f (nI_ne0 z (by omega)) (xm_fa hP hp hR (fun ar har => xm_cd (v := 0) hP (by omega) hp (fun r0 e0 => xm_cd (v := 1) hP (by omega) hp (fun r1 e1 => xm_cd (v := 2) hP (by omega) hp (fun r2 e2 => xm_cd (v := 3) hP (by omega) hp (fun r3 e3 => ⟨9, ?_⟩))))))
    exact xs_a hP z hp h00 hR hn hco hW har (hX z) e0 e1 e2 e3 (fun mc lw rc rN rM tr ch s1 s2 s3 s4 s5 hs => hJ mc lw rc rN rM tr ch ar s1 s2 s3 s4 s5 hs) 8 0 0 1000000 0 rN rM tr ch s1 s2 s3 s4 s5 (by omega) s0
end
section
/-! Y's search: the small methods -/
def al_ (eT : Int32) (yfr yto yty pam pdi : Nat → Int32) (k c p : Nat) : Option Nat :=
  if bt eT (c / 2) = true ∧ bt (pam k) (yty (c / 2)).toNatClampNeg = true then
    (if c % 2 = 1 then (if ¬ pdi k = 0 ∧ ¬ (pdi k = 2 ∧ yfr (c / 2) = yto (c / 2)) ∧ yto (c / 2) = nI p then some (yfr (c / 2)).toNatClampNeg else none)
    else (if ¬ pdi k = 1 ∧ yfr (c / 2) = nI p then some (yto (c / 2)).toNatClampNeg else none)) else none
theorem al_fe {eT : Int32} {yfr yto yty pam pdi : Nat → Int32} {k e p : Nat} (hd : pdi k = 0 ∨ pdi k = 1 ∨ pdi k = 2) : (al_ eT yfr yto yty pam pdi k (2 * e) p = fe_ eT yfr yto yty pam pdi k e p ∧ al_ eT yfr yto yty pam pdi k (2 * e + 1) p = none) ∨ (al_ eT yfr yto yty pam pdi k (2 * e) p = none ∧ al_ eT yfr yto yty pam pdi k (2 * e + 1) p = fe_ eT yfr yto yty pam pdi k e p) := by
  unfold al_ fe_
  rw [show 2 * e / 2 = e from by omega, show (2 * e + 1) / 2 = e from by omega, if_neg (show ¬ 2 * e % 2 = 1 by omega), if_pos (show (2 * e + 1) % 2 = 1 by omega)]
  by_cases b : bt eT e = true ∧ bt (pam k) (yty e).toNatClampNeg = true
  · rw [if_pos b, if_pos b, if_pos b]
    by_cases z : ¬ pdi k = 1 ∧ yfr e = nI p
    · rw [if_pos z, if_pos z]
      refine Or.inl ⟨rfl, if_neg (fun q => q.2.1 ⟨?_, z.2.trans q.2.2.symm⟩)⟩
      exact (hd.resolve_left q.1).resolve_left z.1
    · rw [if_neg z, if_neg z]
      refine Or.inr ⟨rfl, ?_⟩
      by_cases y : ¬ pdi k = 0 ∧ yto e = nI p
      · rw [if_pos y, if_pos ⟨y.1, fun q => z ⟨by rw [q.1]; decide, q.2.trans y.2⟩, y.2⟩]
      · rw [if_neg y, if_neg (fun q => y ⟨q.1, q.2.2⟩)]
  · rw [if_neg b, if_neg b, if_neg b]
    exact Or.inl ⟨rfl, rfl⟩
def ok_ (nT : Int32) (yla pwa : Nat → Int32) (k n : Nat) : Bool := decide (n < 8) && (bt nT n && decide ((yla n &&& pwa k) = pwa k))
theorem wz_ub (w : Nat → Int32) {u : Int32} {e : Nat} (he : e < 12) (hb : bt u e = false) : ∀ n, wz w (ub u e) n = wz w u n + (if e < n then (w e).toNatClampNeg else 0)
  | 0 => by rw [if_neg (Nat.not_lt_zero e)]; rfl
  | n + 1 => by
    show wz w (ub u e) n + _ = wz w u n + _ + _
    rw [wz_ub w he hb n]
    have t : bt (ub u e) n = (bt u n || decide (n = e)) := tg_or u (by omega) n
    rw [t]
    by_cases z : n = e
    · rw [z, hb, decide_eq_true rfl, if_neg (Nat.lt_irrefl e), if_pos (by rfl), if_neg (by decide), if_pos (by omega)]
    · rw [decide_eq_false z, Bool.or_false]
      by_cases y : e < n
      · rw [if_pos y, if_pos (show e < n + 1 by omega)]; omega
      · rw [if_neg y, if_neg (show ¬ e < n + 1 by omega)]; omega
theorem ws_ub (w : Nat → Int32) {u : Int32} {e : Nat} (he : e < 12) (hb : bt u e = false) : ws_ w (ub u e) = ws_ w u + (w e).toNatClampNeg := by
  unfold ws_
  rw [wz_ub w he hb 12, if_pos he]
theorem ub_ba {u : Int32} {e : Nat} (he : e < 12) (hb : bt u e = false) : ub u e &&& (((1 : Int32) <<< (nI e &&& 31)) ^^^ (-1)) = u := by
  apply b_ext
  intro i hi
  rw [tg_andn _ (by omega)]
  unfold ub
  rw [tg_or u (by omega)]
  by_cases z : i = e
  · rw [z, hb]; simp
  · rw [decide_eq_false z]; simp
theorem up_ba {s : Nat → Int32} {v : Nat} {x : Int32} (h : s v = -1) : upd (upd s v x) v (-1) = s := by
  funext j
  by_cases z : j = v
  · rw [z, pk_us, h]
  · rw [pk_un z, pk_un z]
theorem up_id {s : Nat → Int32} {v : Nat} {x : Int32} (h : s v = x) : upd s v x = s := by
  funext j
  by_cases z : j = v
  · rw [z, pk_us, h]
  · rw [pk_un z]
/-- what the last choice of the frame did is still to be taken back -/
def db_ (s yno : Nat → Int32) (bo : Int32) : Prop := (bo = -1 ∧ yno = s) ∨ ∃ v x, v < 4 ∧ bo = nI v ∧ yno = upd s v x ∧ s v = -1
def dt_ (ywt : Nat → Int32) (eT u yus ywe tk : Int32) : Prop := (tk = -1 ∧ yus = u ∧ ywe = nI (ws_ ywt u)) ∨ ∃ e, e < 12 ∧ tk = nI e ∧ bt eT e = true ∧ bt u e = false ∧ yus = ub u e ∧ ywe = nI (ws_ ywt (ub u e))
variable {nT : Int32} {eT : Int32} {xlv : Int32} {xpc : Int32} {xqc : Int32} {xcc : Int32} {xec : Int32} {mc : Int32} {lw : Int32} {rc : Int32} {xla : Nat → Int32} {xpr : Nat → Int64} {xed : Nat → Int32} {sN : Nat → Int32} {sE : Nat → Int32} {sL : Nat → Int32} {sP : Nat → Int64} {sD : Nat → Int32} {pva : Nat → Int32} {pwa : Nat → Int32} {pam : Nat → Int32} {pdi : Nat → Int32} {plo : Nat → Int32} {phi : Nat → Int32} {ptk : Nat → Int32} {pco : Nat → Int32} {pex : Nat → Int32} {tr : Nat → Int32} {ds : Nat → Int32} {ch : Nat → Int32} {ar : Nat → Int32} {rN : Nat → Int32} {rM : Nat → Int32} {s1 : Nat → Int32} {s2 : Nat → Int32} {s3 : Nat → Int32} {s4 : Nat → Int32} {s5 : Nat → Int32}
variable {ylv : Int32} {ypc : Int32} {yqc : Int32} {ycc : Int32} {yec : Int32} {yde : Int32} {yus : Int32} {ywe : Int32} {yfo : Int32} {yli : Int32} {yso : Int32} {ysu : Int64} {yla : Nat → Int32} {ypr : Nat → Int64} {yfr : Nat → Int32} {yto : Nat → Int32} {yty : Nat → Int32} {ywt : Nat → Int32} {yst : Nat → Int32} {ypa : Nat → Int32} {ysp : Nat → Int32} {ypl : Nat → Int32} {ycp : Nat → Int32} {ybo : Nat → Int32} {ytk : Nat → Int32} {yno : Nat → Int32} {ych : Nat → Int32} {yfa : Nat → Int32}
theorem ym_tb {post : SY → Prop} {d : Nat} {s : Nat → Int32} {u : Int32} (hR : gr_R nT eT xla xpr xed yla ypr yfr yto yty ywt) (hd : d < 14) (hb : db_ s yno (ybo d)) (ht : dt_ ywt eT u yus ywe (ytk d)) (h : post (ylv, ypc, yqc, ycc, yec, yde, u, (nI (ws_ ywt u)), yfo, yli, yso, ysu, yla, ypr, yfr, yto, yty, ywt, pva, pwa, pam, pdi, plo, phi, ptk, pco, pex, yst, ypa, ysp, ypl, ycp, (upd ybo d (-1)), (upd ytk d (-1)), s, ych, yfa)) : wpY_takeBack post (ylv, ypc, yqc, ycc, yec, yde, yus, ywe, yfo, yli, yso, ysu, yla, ypr, yfr, yto, yty, ywt, pva, pwa, pam, pdi, plo, phi, ptk, pco, pex, yst, ypa, ysp, ypl, ycp, ybo, ytk, yno, ych, yfa) (nI d) := by
  have w : vp_in (nI d) 14 := vp_in_nI hd (by omega)
  have cd : (nI d).toNatClampNeg = d := nI_clamp (by omega)
  have K : wY_takeBack_21 post (nI d) ylv ypc yqc ycc yec yde yus ywe yfo yli yso ysu yla ypr yfr yto yty ywt pva pwa pam pdi plo phi ptk pco pex yst ypa ysp ypl ycp ybo ytk s ych yfa := by
    refine ⟨w, ?_⟩
    rw [cd]
    rcases ht with ⟨h1, h2, h3⟩ | ⟨e, he, h1, he2, hb2, h2, h3⟩
    · rw [h1, h2, h3]
      exact br_t (by decide) ⟨w, nm_r (tg_u (by omega)) ⟨w, nm_r (tg_u (by omega)) h⟩⟩
    · rw [h1, h2, h3]
      rcases hR.2.2.2 e he with ⟨_, f, t, y, w', _, _, _, hw, _, _, _, _, _, _, ew⟩ | ⟨q, _⟩
      · refine br_f (nI_pos (by omega)) ⟨w, nm_r (ub_ba he hb2) ⟨w, vp_in_nI (by omega) (by omega), nm_r (show _ = nI (ws_ ywt u) from ?_) ⟨w, nm_r (tg_u (by omega)) ⟨w, nm_r (tg_u (by omega)) h⟩⟩⟩⟩
        rw [ws_ub ywt he hb2, nI_clamp (by omega), ew, nI_clamp (by omega), pk_sub (by omega)]
        exact congrArg nI (by omega)
      · rw [he2] at q; exact absurd q (by decide)
  refine ⟨w, ?_⟩
  rw [cd]
  rcases hb with ⟨h1, h2⟩ | ⟨v, x, hv, h1, h2, h3⟩
  · rw [h1, h2]
    exact br_t (by decide) K
  · rw [h1, h2]
    refine br_f (nI_pos (by omega)) ⟨w, vp_in_nI hv (by omega), nm_r (show _ = s from ?_) K⟩
    rw [nI_clamp (by omega), up_ba h3]
theorem ym_se {post : Int32 → SY → Prop} {P d k m : Nat} (hR : gr_R nT eT xla xpr xed yla ypr yfr yto yty ywt) (hp : ∀ k, k < P → qu_P pva pwa pam pdi plo phi k) (hP : P ≤ 6) (hk : k < P) (hd : d < 14) (hm : m < 8) (f1 : ypa d = nI k) (hs : s_ok yno)
    (h0 : ¬ (ok_ nT yla pwa k m = true ∧ (yno (Vf pva k) < 0 ∨ yno (Vf pva k) = nI m)) → post 0 (ylv, ypc, yqc, ycc, yec, yde, yus, ywe, yfo, yli, yso, ysu, yla, ypr, yfr, yto, yty, ywt, pva, pwa, pam, pdi, plo, phi, ptk, pco, pex, yst, ypa, ysp, ypl, ycp, ybo, ytk, yno, ych, yfa))
    (h1 : ok_ nT yla pwa k m = true → yno (Vf pva k) = -1 → post 1 (ylv, ypc, yqc, ycc, yec, yde, yus, ywe, yfo, yli, yso, ysu, yla, ypr, yfr, yto, yty, ywt, pva, pwa, pam, pdi, plo, phi, ptk, pco, pex, yst, ypa, ysp, ypl, ycp, (upd ybo d (nI (Vf pva k))), ytk, (upd yno (Vf pva k) (nI m)), ych, yfa))
    (h2 : ok_ nT yla pwa k m = true → yno (Vf pva k) = nI m → post 1 (ylv, ypc, yqc, ycc, yec, yde, yus, ywe, yfo, yli, yso, ysu, yla, ypr, yfr, yto, yty, ywt, pva, pwa, pam, pdi, plo, phi, ptk, pco, pex, yst, ypa, ysp, ypl, ycp, ybo, ytk, (upd yno (Vf pva k) (nI m)), ych, yfa)) : wpY_settle post (ylv, ypc, yqc, ycc, yec, yde, yus, ywe, yfo, yli, yso, ysu, yla, ypr, yfr, yto, yty, ywt, pva, pwa, pam, pdi, plo, phi, ptk, pco, pex, yst, ypa, ysp, ypl, ycp, ybo, ytk, yno, ych, yfa) (nI d) (nI m) := by
  obtain ⟨v1, v2, _, _⟩ := q_f (hp k hk)
  have w : vp_in (nI d) 14 := vp_in_nI hd (by omega)
  have wk : vp_in (nI k) 6 := vp_in_nI (by omega) (by omega)
  have wv : vp_in (nI (Vf pva k)) 4 := vp_in_nI v2 (by omega)
  refine ⟨w, nm_r (show _ = nI k from by rw [nI_clamp (by omega), f1]) ⟨wk, nm_r (show _ = nI (Vf pva k) from by rw [nI_clamp (by omega), v1]) (tg_yin hm hR (tg_zbr (fun b => h0 (fun q => ?_)) (fun b => ?_)))⟩⟩
  · have q := q.1
    unfold ok_ at q
    rw [b] at q
    simp at q
  · refine ⟨vp_in_nI (by omega) (by omega), wk, wk, ?_⟩
    rw [nI_clamp (show m < 2 ^ 31 by omega), nI_clamp (show k < 2 ^ 31 by omega), nI_clamp (show Vf pva k < 2 ^ 31 by omega)]
    refine br_c (fun l => ⟨wv, ?_⟩) (fun l => h0 (fun q => ?_))
    · have ok : ok_ nT yla pwa k m = true := by unfold ok_; rw [b, decide_eq_true l, decide_eq_true hm]; rfl
      rcases hs _ v2 with q | ⟨m', hm', q⟩
      · rw [q]
        refine br_t (by decide) ⟨wv, ?_⟩
        rw [nI_clamp (show Vf pva k < 2 ^ 31 by omega), q]
        exact br_f (by decide) ⟨w, nm_r (tg_u (by omega)) ⟨wv, nm_r (show _ = upd yno (Vf pva k) (nI m) from rfl) (h1 ok q)⟩⟩
      · rw [q]
        refine br_f (nI_pos (by omega)) ⟨wv, br_c (fun e => ⟨wv, ?_⟩) (fun e => h0 (fun z => z.2.elim (fun y => absurd y (by rw [q]; exact nI_pos (by omega))) (fun y => e (q.symm.trans y))))⟩
        rw [nI_clamp (show Vf pva k < 2 ^ 31 by omega), q]
        exact br_t (nI_pos' (by omega)) ⟨wv, nm_r (show _ = upd yno (Vf pva k) (nI m) from rfl) (h2 ok (q.trans e))⟩
    · have q := q.1
      unfold ok_ at q
      rw [decide_eq_false l] at q
      simp at q
theorem ym_al {post : Int32 → Prop} {P d k n p c : Nat} (hR : gr_R nT eT xla xpr xed yla ypr yfr yto yty ywt) (hp : ∀ k, k < P → qu_P pva pwa pam pdi plo phi k) (hP : P ≤ 6) (hk : k < P) (ha : ¬ pam k = 0) (hd : d < 14) (hc : c < 24) (hn : n ≤ 4) (f1 : ypa d = nI k) (f2 : ysp d = nI n) (f3 : ypl d = nI p)
    (h : post (rf (if bt yus (c / 2) = true then none else if n = Vf phi k then none else al_ eT yfr yto yty pam pdi k c p))) : wpY_along post (ylv, ypc, yqc, ycc, yec, yde, yus, ywe, yfo, yli, yso, ysu, yla, ypr, yfr, yto, yty, ywt, pva, pwa, pam, pdi, plo, phi, ptk, pco, pex, yst, ypa, ysp, ypl, ycp, ybo, ytk, yno, ych, yfa) (nI d) (nI c) := by
  obtain ⟨_, _, _, v3⟩ := q_f (hp k hk)
  obtain ⟨_, vd, _, v7, _, _, v6⟩ := v3 ha
  have w : vp_in (nI d) 14 := vp_in_nI hd (by omega)
  have cd : (nI d).toNatClampNeg = d := nI_clamp (by omega)
  have wk : vp_in (nI k) 6 := vp_in_nI (by omega) (by omega)
  have ck : (nI k).toNatClampNeg = k := nI_clamp (by omega)
  have we : vp_in (nI (c / 2)) 60 := vp_in_nI (by omega) (by omega)
  have ce : (nI (c / 2)).toNatClampNeg = c / 2 := nI_clamp (by omega)
  obtain ⟨e1, e2⟩ := tg_d2 (j := c) (by omega)
  have K : ∀ z : Bool, (z = true ↔ c % 2 = 1) → wY_along_24 post (nI d) (nI k) (nI (c / 2)) (tg_z z) ylv ypc yqc ycc yec yde yus ywe yfo yli yso ysu yla ypr yfr yto yty ywt pva pwa pam pdi plo phi ptk pco pex yst ypa ysp ypl ycp ybo ytk yno ych yfa := by
    intro z hz
    unfold wY_along_24
    refine tg_yie (by omega) hR (tg_zbr (fun b => ?_) (fun b => ?_))
    · have : al_ eT yfr yto yty pam pdi k c p = none := by unfold al_; rw [if_neg (fun q => by rw [b] at q; exact absurd q.1 (by decide))]
      rw [this] at h
      have e : rf (if bt yus (c / 2) = true then none else if n = Vf phi k then none else (none : Option Nat)) = -1 := by
        split
        · rfl
        · split <;> rfl
      rw [e] at h
      exact h
    · by_cases bu : bt yus (c / 2) = true
      · rw [if_pos bu] at h
        exact br_f (fun q => by rw [(tg_bit yus (by omega)).mp q] at bu; exact absurd bu (by decide)) h
      · have bu' : bt yus (c / 2) = false := by cases q : bt yus (c / 2) with
          | false => rfl
          | true => exact absurd q bu
        rw [if_neg bu] at h
        refine br_t ((tg_bit yus (by omega)).mpr bu') ⟨wk, we, ?_⟩
        rw [ck, ce]
        rcases hR.2.2.2 (c / 2) (by omega) with ⟨_, f, t, y, w', hf, ht, hy, _, _, _, _, g1, g2, g3, _⟩ | ⟨a, _⟩
        · have cy : (yty (c / 2)).toNatClampNeg = y := by rw [g3, nI_clamp (by omega)]
          have cf : (yfr (c / 2)).toNatClampNeg = f := by rw [g1, nI_clamp (by omega)]
          have ct : (yto (c / 2)).toNatClampNeg = t := by rw [g2, nI_clamp (by omega)]
          unfold al_ at h
          rw [cy, cf, ct] at h
          rw [g3]
          by_cases bt' : bt (pam k) y = true
          · have bb : bt eT (c / 2) = true ∧ bt (pam k) y = true := ⟨b, bt'⟩
            rw [if_pos bb] at h
            refine br_f (fun q => by rw [(tg_bit (pam k) (by omega)).mp q] at bt'; exact absurd bt' (by decide)) ⟨w, wk, ?_⟩
            rw [cd, f2, v7]
            by_cases hh : n = Vf phi k
            · rw [if_pos hh] at h
              exact br_t (by rw [hh]) h
            · rw [if_neg hh] at h
              refine br_f (fun q => hh ((nI_eq (by omega) (by omega)).mp q)) ⟨wk, ?_⟩
              cases z with
              | false =>
                rw [if_neg (fun q => absurd (hz.mpr q) (by decide))] at h
                refine br_t rfl (br_c (fun q => ?_) (fun q => ⟨wk, ?_⟩))
                · rw [if_neg (fun x => x.1 q)] at h; exact h
                · have k136 : wY_along_136 post (nI d) (nI (c / 2)) 0 ylv ypc yqc ycc yec yde yus ywe yfo yli yso ysu yla ypr yfr yto yty ywt pva pwa pam pdi plo phi ptk pco pex yst ypa ysp ypl ycp ybo ytk yno ych yfa := by
                    refine br_t rfl ⟨we, w, ?_⟩
                    rw [ce, cd, f3]
                    refine br_c (fun x => br_t rfl ⟨we, ?_⟩) (fun x => ?_)
                    · rw [if_pos ⟨q, x⟩] at h
                      rw [g2]; exact h
                    · rw [if_neg (fun y => x y.2)] at h; exact h
                  exact br_c (fun _ => br_t rfl k136) (fun _ => k136)
              | true =>
                rw [if_pos (hz.mp rfl)] at h
                refine br_f tg_10 (br_c (fun q => ?_) (fun q => ⟨wk, ?_⟩))
                · rw [if_neg (fun x => x.1 q)] at h; exact h
                · have k136 : ¬ (pdi k = 2 ∧ yfr (c / 2) = yto (c / 2)) → wY_along_136 post (nI d) (nI (c / 2)) 1 ylv ypc yqc ycc yec yde yus ywe yfo yli yso ysu yla ypr yfr yto yty ywt pva pwa pam pdi plo phi ptk pco pex yst ypa ysp ypl ycp ybo ytk yno ych yfa := fun nl => by
                    refine br_f tg_10 ⟨we, w, ?_⟩
                    rw [ce, cd, f3]
                    refine br_c (fun x => br_f tg_10 ⟨we, ?_⟩) (fun x => ?_)
                    · rw [if_pos ⟨q, nl, x⟩] at h
                      rw [g1]; exact h
                    · rw [if_neg (fun y => x y.2.2)] at h; exact h
                  rw [ck]
                  refine br_c (fun d2 => br_f tg_10 ⟨we, we, ?_⟩) (fun d2 => k136 (fun y => d2 y.1))
                  rw [ce]
                  refine br_c (fun l => ?_) (fun l => k136 (fun y => l y.2))
                  rw [if_neg (fun y => y.2.1 ⟨d2, l⟩)] at h; exact h
          · have nb : ¬ (bt eT (c / 2) = true ∧ bt (pam k) y = true) := fun q => bt' q.2
            rw [if_neg nb] at h
            have bt'' : bt (pam k) y = false := by cases q : bt (pam k) y with
              | false => rfl
              | true => exact absurd q bt'
            refine br_t ((tg_bit (pam k) (by omega)).mpr bt'') ?_
            have e : rf (if n = Vf phi k then none else (none : Option Nat)) = -1 := by split <;> rfl
            rw [e] at h
            exact h
        · rw [a] at b; exact absurd b (by decide)
  unfold wpY_along
  dsimp only
  rw [cd, f1, e2, e1]
  refine ⟨w, nm_e ⟨by decide, nm_e ⟨by decide, ?_⟩⟩⟩
  by_cases z : c % 2 = 1
  · exact br_t (by rw [z]; rfl) (K true ⟨fun _ => z, fun _ => rfl⟩)
  · exact br_f (by rw [show c % 2 = 0 from by omega]; decide) (K false ⟨fun q => absurd q (by decide), fun q => absurd q z⟩)
theorem ym_en {post : SY → Prop} {d : Nat} {a b c : Int32} (hd : d < 14) (h : post (ylv, ypc, yqc, ycc, yec, (nI (d + 1)), yus, ywe, yfo, yli, yso, ysu, yla, ypr, yfr, yto, yty, ywt, pva, pwa, pam, pdi, plo, phi, ptk, pco, pex, yst, (upd ypa d a), (upd ysp d b), (upd ypl d c), (upd ycp d 0), (upd ybo d (-1)), (upd ytk d (-1)), yno, ych, yfa)) : wpY_enter post (ylv, ypc, yqc, ycc, yec, (nI d), yus, ywe, yfo, yli, yso, ysu, yla, ypr, yfr, yto, yty, ywt, pva, pwa, pam, pdi, plo, phi, ptk, pco, pex, yst, ypa, ysp, ypl, ycp, ybo, ytk, yno, ych, yfa) a b c := by
  have w : vp_in (nI d) 14 := vp_in_nI hd (by omega)
  exact ⟨w, nm_r (tg_u (by omega)) ⟨w, nm_r (tg_u (by omega)) ⟨w, nm_r (tg_u (by omega)) ⟨w, nm_r (tg_u (by omega)) ⟨w, nm_r (tg_u (by omega)) (nm_r (nI_1 d) ⟨w, nm_r (tg_u (by omega)) h⟩)⟩⟩⟩⟩⟩
end
section
/-! Y's search: goOn -/
def hp_ (pr : Nat → Int64) (s : Nat → Int32) (v : Nat) : Bool := decide (¬ s v < 0) && decide (¬ pr (s v).toNatClampNeg = 9000000000000000000)
def yc_f : (Nat → Int32) → List ((Nat → Int32) × Int32) → Nat → Int32
  | ch, [] => ch
  | ch, x :: L => yc_f (upd ch (cde x.1) 1) L
def yo_f (pr : Nat → Int64) (v : Nat) : Int32 → List ((Nat → Int32) × Int32) → Int32
  | so, [] => so
  | so, x :: L => yo_f pr v (if hp_ pr x.1 v = true then 1 else so) L
def yu_f (pr : Nat → Int64) (v : Nat) : Int64 → List ((Nat → Int32) × Int32) → Int64
  | su, [] => su
  | su, x :: L => yu_f pr v (if hp_ pr x.1 v = true then su + pr (x.1 v).toNatClampNeg else su) L
theorem yc_app : ∀ (A : List ((Nat → Int32) × Int32)) ch B, yc_f ch (A ++ B) = yc_f (yc_f ch A) B
  | [], _, _ => rfl
  | _ :: A, _, B => yc_app A _ B
theorem yo_app (pr : Nat → Int64) (v : Nat) : ∀ (A : List ((Nat → Int32) × Int32)) so B, yo_f pr v so (A ++ B) = yo_f pr v (yo_f pr v so A) B
  | [], _, _ => rfl
  | _ :: A, _, B => yo_app pr v A _ B
theorem yu_app (pr : Nat → Int64) (v : Nat) : ∀ (A : List ((Nat → Int32) × Int32)) su B, yu_f pr v su (A ++ B) = yu_f pr v (yu_f pr v su A) B
  | [], _, _ => rfl
  | _ :: A, _, B => yu_app pr v A _ B
def cdi (s : Nat → Int32) : Nat → Nat
  | 0 => 0
  | i + 1 => cdi s i * 8 + zc (s i)
theorem cdi_4 (s : Nat → Int32) : cdi s 4 = cde s := by
  show (((0 * 8 + zc (s 0)) * 8 + zc (s 1)) * 8 + zc (s 2)) * 8 + zc (s 3) = _
  unfold cde
  omega
theorem cdi_l {s : Nat → Int32} (hs : s_ok s) : ∀ i, i ≤ 4 → cdi s i < 8 ^ i
  | 0, _ => Nat.zero_lt_one
  | i + 1, h => by
    have a := cdi_l hs i (by omega)
    have b := (zc_lt (hs i (by omega))).1
    show cdi s i * 8 + zc (s i) < 8 ^ i * 8
    omega
/-- the parts below k have nodes that are there -/
def bs_ (nT : Int32) (va s : Nat → Int32) (k : Nat) : Prop := ∀ j, j < k → ∃ m, m < 8 ∧ s (Vf va j) = nI m ∧ bt nT m = true
theorem bs_s {nT : Int32} {va s : Nat → Int32} {k m : Nat} (h : bs_ nT va s k) (hm : m < 8) (hb : bt nT m = true) : bs_ nT va (upd s (Vf va k) (nI m)) (k + 1) := fun j hj => by
  by_cases z : Vf va j = Vf va k
  · rw [z, pk_us]; exact ⟨m, hm, rfl, hb⟩
  · rw [pk_un z]
    by_cases y : j = k
    · subst y; exact absurd rfl z
    · exact h j (by omega)
variable {nT : Int32} {eT : Int32} {xlv : Int32} {xpc : Int32} {xqc : Int32} {xcc : Int32} {xec : Int32} {mc : Int32} {lw : Int32} {rc : Int32} {xla : Nat → Int32} {xpr : Nat → Int64} {xed : Nat → Int32} {sN : Nat → Int32} {sE : Nat → Int32} {sL : Nat → Int32} {sP : Nat → Int64} {sD : Nat → Int32} {pva : Nat → Int32} {pwa : Nat → Int32} {pam : Nat → Int32} {pdi : Nat → Int32} {plo : Nat → Int32} {phi : Nat → Int32} {ptk : Nat → Int32} {pco : Nat → Int32} {pex : Nat → Int32} {tr : Nat → Int32} {ds : Nat → Int32} {ch : Nat → Int32} {ar : Nat → Int32} {rN : Nat → Int32} {rM : Nat → Int32} {s1 : Nat → Int32} {s2 : Nat → Int32} {s3 : Nat → Int32} {s4 : Nat → Int32} {s5 : Nat → Int32}
variable {ylv : Int32} {ypc : Int32} {yqc : Int32} {ycc : Int32} {yec : Int32} {yde : Int32} {yus : Int32} {ywe : Int32} {yfo : Int32} {yli : Int32} {yso : Int32} {ysu : Int64} {yla : Nat → Int32} {ypr : Nat → Int64} {yfr : Nat → Int32} {yto : Nat → Int32} {yty : Nat → Int32} {ywt : Nat → Int32} {yst : Nat → Int32} {ypa : Nat → Int32} {ysp : Nat → Int32} {ypl : Nat → Int32} {ycp : Nat → Int32} {ybo : Nat → Int32} {ytk : Nat → Int32} {yno : Nat → Int32} {ych : Nat → Int32} {yfa : Nat → Int32}
theorem ym_lf {post : SY → Prop} {v w l : Nat} (hv : v < 4) (hs : s_ok yno) (hw : w < 2 ^ 31) (hl : l < 2 ^ 31) (h : post (ylv, ypc, yqc, ycc, yec, yde, yus, (nI w), yfo, (nI (mn_ w l)), (if hp_ ypr yno v = true then 1 else yso), (if hp_ ypr yno v = true then ysu + ypr (yno v).toNatClampNeg else ysu), yla, ypr, yfr, yto, yty, ywt, pva, pwa, pam, pdi, plo, phi, ptk, pco, pex, yst, ypa, ysp, ypl, ycp, ybo, ytk, yno, (upd ych (cde yno) 1), yfa)) : ∃ n, wY_goOn_55 post (nI v) ylv ypc yqc ycc yec yde yus (nI w) yfo (nI l) yso ysu yla ypr yfr yto yty ywt pva pwa pam pdi plo phi ptk pco pex yst ypa ysp ypl ycp ybo ytk yno ych yfa n 0 0 := by
  have wv : vp_in (nI v) 4 := vp_in_nI hv (by omega)
  have cv : (nI v).toNatClampNeg = v := nI_clamp (by omega)
  have K3 : ∀ (yli : Int32) (ych : Nat → Int32), post (ylv, ypc, yqc, ycc, yec, yde, yus, (nI w), yfo, yli, (if hp_ ypr yno v = true then 1 else yso), (if hp_ ypr yno v = true then ysu + ypr (yno v).toNatClampNeg else ysu), yla, ypr, yfr, yto, yty, ywt, pva, pwa, pam, pdi, plo, phi, ptk, pco, pex, yst, ypa, ysp, ypl, ycp, ybo, ytk, yno, ych, yfa) → wY_goOn_123 post (nI v) ylv ypc yqc ycc yec yde yus (nI w) yfo yli yso ysu yla ypr yfr yto yty ywt pva pwa pam pdi plo phi ptk pco pex yst ypa ysp ypl ycp ybo ytk yno ych yfa := by
    intro yli ych h
    refine ⟨wv, ?_⟩
    rw [cv]
    refine br_c (fun z => ?_) (fun z => ⟨wv, ?_⟩)
    · have e : hp_ ypr yno v = false := by unfold hp_; rw [decide_eq_false (fun q => q z)]; rfl
      rw [e, if_neg (by decide), if_neg (by decide)] at h
      exact h
    · obtain ⟨m, hm, em⟩ := (hs v hv).resolve_left (fun q => z (by rw [q]; decide))
      have wm : vp_in (yno v) 40 := by rw [em]; exact vp_in_nI (by omega) (by omega)
      refine ⟨wm, br_c (fun y => ?_) (fun y => ⟨wv, wm, nm_e ?_⟩)⟩
      · have e : hp_ ypr yno v = false := by
          have d : decide (¬ ypr (yno v).toNatClampNeg = 9000000000000000000) = false := decide_eq_false (fun q => q y)
          unfold hp_; rw [d]; exact Bool.and_false _
        rw [e, if_neg (by decide), if_neg (by decide)] at h
        exact h
      · have e : hp_ ypr yno v = true := by unfold hp_; rw [decide_eq_true z, decide_eq_true y]; rfl
        rw [e, if_pos rfl, if_pos rfl] at h
        exact h
  have K : ∀ d i, i + d = 4 → wY_goOn_55 post (nI v) ylv ypc yqc ycc yec yde yus (nI w) yfo (nI l) yso ysu yla ypr yfr yto yty ywt pva pwa pam pdi plo phi ptk pco pex yst ypa ysp ypl ycp ybo ytk yno ych yfa (d + 1) (nI (cdi yno i)) (nI i) := by
    intro d
    induction d with
    | zero =>
      intro i hi
      have e : i = 4 := by omega
      subst e
      have cl := cdi_l hs 4 (by omega)
      rw [show (8 : Nat) ^ 4 = 4096 from rfl] at cl
      rw [cdi_4] at cl ⊢
      refine br_t (nI_le (a := 4) (by omega) (by omega)) ⟨vp_in_nI cl (by omega), nm_r (show _ = upd ych (cde yno) 1 from by rw [nI_clamp (by omega)]; rfl) ?_⟩
      unfold mn_ at h
      by_cases z : w < l
      · rw [if_pos z] at h
        exact br_f (nI_ge z (by omega)) (K3 _ _ h)
      · rw [if_neg z] at h
        exact br_t (nI_le (by omega) (by omega)) (K3 _ _ h)
    | succ d ih =>
      intro i hi
      have cl := cdi_l hs i (by omega)
      have p8 : (8 : Nat) ^ i ≤ 8 ^ 4 := Nat.pow_le_pow_right (by omega) (by omega)
      rw [show (8 : Nat) ^ 4 = 4096 from rfl] at p8
      have wi : vp_in (nI i) 4 := vp_in_nI (by omega) (by omega)
      have e8 : nI (cdi yno i) * 8 = nI (cdi yno i * 8) := pk_mul _ 8
      refine br_f (nI_ge (b := 4) (by omega) (by decide)) ⟨wi, ?_⟩
      rw [nI_clamp (by omega), e8]
      have nx := ih (i + 1) (by omega)
      rcases hs i (by omega) with q | ⟨m, hm, q⟩
      · have ez : zc (yno i) = 0 := by rw [q]; exact if_pos (by decide)
        rw [q]
        refine br_f (by decide) (nm_r (show _ = nI (cdi yno (i + 1)) from ?_) (nm_r (nI_1 i) nx))
        show _ = nI (cdi yno i * 8 + zc (yno i))
        rw [ez]; exact Int32.add_zero _
      · have ez : zc (yno i) = m := by rw [q]; exact (if_neg (nI_pos (by omega))).trans (nI_clamp (by omega))
        rw [q]
        refine br_t (nI_pos' (by omega)) ⟨wi, nm_r (show _ = nI (cdi yno (i + 1)) from ?_) (nm_r (nI_1 i) nx)⟩
        show _ = nI (cdi yno i * 8 + zc (yno i))
        rw [ez, nI_add]
  exact ⟨5, K 4 0 (by omega)⟩
theorem ym_go {post : SY → Prop} {P n d D k m v fo w l : Nat} {c cs os : Nat → Nat} {nu : Nat → Prop} (hP : P ≤ 6) (hp : ∀ k, k < P → qu_P pva pwa pam pdi plo phi k) (hn : n ≤ 12) (hco : ∀ k, k < n → pco k = nI (c k)) (hW : n = 0 ∨ cd_W c (nm_P pva P) n cs os nu)
    (hd : d < 14) (hk : k < P) (f1 : ypa d = nI k) (hv : v < 4) (hs : s_ok yno) (hb : bs_ nT pva yno (k + 1)) (hw : w < 2 ^ 31) (hl : l < 2 ^ 31) (hD : k + 1 < P → D < 14)
    (he : k + 1 < P → post (ylv, (nI P), yqc, (nI n), yec, (nI (D + 1)), yus, (nI w), (nI fo), (nI l), yso, ysu, yla, ypr, yfr, yto, yty, ywt, pva, pwa, pam, pdi, plo, phi, ptk, pco, pex, yst, (upd ypa D (nI (k + 1))), (upd ysp D 0), (upd ypl D (nI m)), (upd ycp D 0), (upd ybo D (-1)), (upd ytk D (-1)), yno, ych, yfa))
    (hm : ¬ k + 1 < P → cv_ ypr yno c cs n = true → ∀ yst, post (ylv, (nI P), yqc, (nI n), yec, (nI D), yus, (nI w), (nI (fo + 1)), (nI (mn_ w l)), (if hp_ ypr yno v = true then 1 else yso), (if hp_ ypr yno v = true then ysu + ypr (yno v).toNatClampNeg else ysu), yla, ypr, yfr, yto, yty, ywt, pva, pwa, pam, pdi, plo, phi, ptk, pco, pex, yst, ypa, ysp, ypl, ycp, ybo, ytk, yno, (upd ych (cde yno) 1), yfa))
    (h0 : ¬ k + 1 < P → cv_ ypr yno c cs n = false → ∀ yst, post (ylv, (nI P), yqc, (nI n), yec, (nI D), yus, (nI w), (nI fo), (nI l), yso, ysu, yla, ypr, yfr, yto, yty, ywt, pva, pwa, pam, pdi, plo, phi, ptk, pco, pex, yst, ypa, ysp, ypl, ycp, ybo, ytk, yno, ych, yfa)) :
    wpY_goOn post (ylv, (nI P), yqc, (nI n), yec, (nI D), yus, (nI w), (nI fo), (nI l), yso, ysu, yla, ypr, yfr, yto, yty, ywt, pva, pwa, pam, pdi, plo, phi, ptk, pco, pex, yst, ypa, ysp, ypl, ycp, ybo, ytk, yno, ych, yfa) (nI d) (nI m) (nI v) := by
  have wd : vp_in (nI d) 14 := vp_in_nI hd (by omega)
  refine ⟨wd, ?_⟩
  rw [nI_clamp (show d < 2 ^ 31 by omega), f1, nI_1]
  by_cases z : k + 1 < P
  · exact br_f (nI_ge z (by omega)) ⟨wd, ym_en (hD z) (he z)⟩
  · have ek : k + 1 = P := by omega
    refine br_t (nI_le (by omega) (by omega)) (yc_l (nT := nT) (s := yno) hn hco hW (fun v' hv' hnm => ?_) (fun _ _ => rfl) (fun e yst => br_t rfl (nm_r (nI_1 fo) (ym_lf hv hs hw hl (hm z e yst)))) (fun e yst r hr => br_f hr (h0 z e yst)))
    obtain ⟨j, hj, e⟩ := hnm
    obtain ⟨b1, b2, _, _⟩ := q_f (hp j hj)
    have ev : Vf pva j = v' := (nI_eq (by omega) (by omega)).mp (b1.symm.trans e)
    obtain ⟨m', m1, m2, m3⟩ := hb j (by omega)
    rw [ev] at m2
    exact ⟨m', m1, m2, m3⟩
end
section
/-! Y's depth-first search -/
def stp (am : Nat → Int32) (k : Nat) : Bool := decide (am k = 0)
def trp (pr : Nat → Int64) (c cs : Nat → Nat) (n : Nat) (s : Nat → Int32) : Bool := cv_ pr s c cs n
def mt_W (P : Nat) (V Lo Hi : Nat → Nat) (st : Nat → Bool) (ok : Nat → Nat → Bool) (al : Nat → Nat → Nat → Option Nat) (tru : (Nat → Int32) → Bool) (f k n p : Nat) (s : Nat → Int32) (u : Int32) (c : Nat) : List ((Nat → Int32) × Int32) :=
  if st k = true then (if ok k c = true ∧ (s (V k) < 0 ∨ s (V k) = nI c) then (if k + 1 < P then mt_Y P V Lo Hi st ok al tru f (k + 1) 0 c (upd s (V k) (nI c)) u else if tru (upd s (V k) (nI c)) = true then [(upd s (V k) (nI c), u)] else []) else [])
  else if c = 0 then (if Lo k ≤ n ∧ ok k p = true ∧ (s (V k) < 0 ∨ s (V k) = nI p) then (if k + 1 < P then mt_Y P V Lo Hi st ok al tru f (k + 1) 0 p (upd s (V k) (nI p)) u else if tru (upd s (V k) (nI p)) = true then [(upd s (V k) (nI p), u)] else []) else [])
  else (if bt u ((c - 1) / 2) = true then [] else if n = Hi k then [] else om (al k (c - 1) p) (fun q => mt_Y P V Lo Hi st ok al tru f k (n + 1) q s (ub u ((c - 1) / 2))))
theorem fm_sh {α : Type} (g : Nat → List α) : ∀ m j, fm (fun c => g (c - 1)) m (j + 1) = fm g m j
  | 0, _ => rfl
  | m + 1, j => by
    show g (j + 1 - 1) ++ fm (fun c => g (c - 1)) m (j + 1 + 1) = g j ++ fm g m (j + 1)
    rw [fm_sh g m (j + 1), Nat.add_sub_cancel]
theorem mt_YW (P : Nat) (V Lo Hi : Nat → Nat) (st : Nat → Bool) (ok : Nat → Nat → Bool) (al : Nat → Nat → Nat → Option Nat) (tru : (Nat → Int32) → Bool) (f k n p : Nat) (s : Nat → Int32) (u : Int32) : mt_Y P V Lo Hi st ok al tru (f + 1) k n p s u = fm (mt_W P V Lo Hi st ok al tru f k n p s u) (if st k = true then 8 else 25) 0 := by
  unfold mt_Y
  by_cases z : st k = true
  · rw [if_pos z, if_pos z]
    exact fm_cong (fun i _ _ => by unfold mt_W; rw [if_pos z])
  · rw [if_neg z, if_neg z]
    show _ = mt_W P V Lo Hi st ok al tru f k n p s u 0 ++ fm (mt_W P V Lo Hi st ok al tru f k n p s u) 24 (0 + 1)
    rw [← fm_sh]
    congr 1
    · unfold mt_W; rw [if_neg z, if_pos rfl]
    · exact fm_cong (fun i i1 i2 => by
        have i0 : ¬ i = 0 := by omega
        unfold mt_W; rw [if_neg z, if_neg i0])
def cy : Nat → Nat
  | 0 => 0
  | f + 1 => 25 * (1 + cy f) + 1
def yf_ (am ypa ysp ypl ycp : Nat → Int32) (d k n p j : Nat) : Prop := ypa d = nI k ∧ ysp d = nI n ∧ (¬ am k = 0 → ypl d = nI p) ∧ ycp d = nI j
def yg_ (d : Nat) (a1 a2 a3 a4 a5 a6 b1 b2 b3 b4 b5 b6 : Nat → Int32) : Prop := ∀ i, i < d → b1 i = a1 i ∧ b2 i = a2 i ∧ b3 i = a3 i ∧ b4 i = a4 i ∧ b5 i = a5 i ∧ b6 i = a6 i
variable {nT : Int32} {eT : Int32} {xlv : Int32} {xpc : Int32} {xqc : Int32} {xcc : Int32} {xec : Int32} {mc : Int32} {lw : Int32} {rc : Int32} {xla : Nat → Int32} {xpr : Nat → Int64} {xed : Nat → Int32} {sN : Nat → Int32} {sE : Nat → Int32} {sL : Nat → Int32} {sP : Nat → Int64} {sD : Nat → Int32} {pva : Nat → Int32} {pwa : Nat → Int32} {pam : Nat → Int32} {pdi : Nat → Int32} {plo : Nat → Int32} {phi : Nat → Int32} {ptk : Nat → Int32} {pco : Nat → Int32} {pex : Nat → Int32} {tr : Nat → Int32} {ds : Nat → Int32} {ch : Nat → Int32} {ar : Nat → Int32} {rN : Nat → Int32} {rM : Nat → Int32} {s1 : Nat → Int32} {s2 : Nat → Int32} {s3 : Nat → Int32} {s4 : Nat → Int32} {s5 : Nat → Int32}
variable {ylv : Int32} {ypc : Int32} {yqc : Int32} {ycc : Int32} {yec : Int32} {yde : Int32} {yus : Int32} {ywe : Int32} {yfo : Int32} {yli : Int32} {yso : Int32} {ysu : Int64} {yla : Nat → Int32} {ypr : Nat → Int64} {yfr : Nat → Int32} {yto : Nat → Int32} {yty : Nat → Int32} {ywt : Nat → Int32} {yst : Nat → Int32} {ypa : Nat → Int32} {ysp : Nat → Int32} {ypl : Nat → Int32} {ycp : Nat → Int32} {ybo : Nat → Int32} {ytk : Nat → Int32} {yno : Nat → Int32} {ych : Nat → Int32} {yfa : Nat → Int32}
theorem ym_in {post : SY → Prop} {P nn v T0 : Nat} {c cs os : Nat → Nat} {nu : Nat → Prop} (hP : P ≤ 6) (hp : ∀ k, k < P → qu_P pva pwa pam pdi plo phi k) (hR : gr_R nT eT xla xpr xed yla ypr yfr yto yty ywt) (hn : nn ≤ 12) (hco : ∀ k, k < nn → pco k = nI (c k)) (hW : nn = 0 ∨ cd_W c (nm_P pva P) nn cs os nu) (hv : v < 4)
    (hx : 1000 < T0 → ∀ yde yus ywe yli yso ysu (yst ypa ysp ypl ycp ybo ytk yno ych : Nat → Int32), post (ylv, (nI P), yqc, (nI nn), yec, yde, yus, ywe, (nI 1001), yli, yso, ysu, yla, ypr, yfr, yto, yty, ywt, pva, pwa, pam, pdi, plo, phi, ptk, pco, pex, yst, ypa, ysp, ypl, ycp, ybo, ytk, yno, ych, yfa))
    {f d : Nat} (hd : d + (f + 1) = 14)
    (hch : 0 < f → ∀ k' n' p' s' u', k' < P → (¬ pam k' = 0 → n' ≤ Vf phi k' ∧ p' < 8) → (pam k' = 0 → n' = 0) → P + qu_H pam phi P ≤ k' + qu_H pam phi k' + n' + f → s_ok s' → bs_ nT pva s' k' → us_ eT u' →
      ∀ N0 N fo l yso ysu (yst ypa ysp ypl ycp ybo ytk ych : Nat → Int32), N0 + cy f ≤ N → yf_ pam ypa ysp ypl ycp (d + 1) k' n' p' 0 → ybo (d + 1) = -1 → ytk (d + 1) = -1 → fo ≤ 1000 → l ≤ 1000000 → fo + (mt_Y P (Vf pva) (Vf plo) (Vf phi) (stp pam) (ok_ nT yla pwa) (al_ eT yfr yto yty pam pdi) (trp ypr c cs nn) f k' n' p' s' u').length ≤ T0 →
      (∀ N' (yst a1 a2 a3 a4 a5 a6 : Nat → Int32), N0 ≤ N' → yg_ (d + 1) ypa ysp ypl ycp ybo ytk a1 a2 a3 a4 a5 a6 → fo + (mt_Y P (Vf pva) (Vf plo) (Vf phi) (stp pam) (ok_ nT yla pwa) (al_ eT yfr yto yty pam pdi) (trp ypr c cs nn) f k' n' p' s' u').length ≤ 1000 →
        wY_search_92 post (nI v) N' ylv (nI P) yqc (nI nn) yec (nI (d + 1)) u' (nI (ws_ ywt u')) (nI (fo + (mt_Y P (Vf pva) (Vf plo) (Vf phi) (stp pam) (ok_ nT yla pwa) (al_ eT yfr yto yty pam pdi) (trp ypr c cs nn) f k' n' p' s' u').length)) (nI (lm_ (ws_ ywt) l ((mt_Y P (Vf pva) (Vf plo) (Vf phi) (stp pam) (ok_ nT yla pwa) (al_ eT yfr yto yty pam pdi) (trp ypr c cs nn) f k' n' p' s' u').map Prod.snd))) (yo_f ypr v yso (mt_Y P (Vf pva) (Vf plo) (Vf phi) (stp pam) (ok_ nT yla pwa) (al_ eT yfr yto yty pam pdi) (trp ypr c cs nn) f k' n' p' s' u')) (yu_f ypr v ysu (mt_Y P (Vf pva) (Vf plo) (Vf phi) (stp pam) (ok_ nT yla pwa) (al_ eT yfr yto yty pam pdi) (trp ypr c cs nn) f k' n' p' s' u')) yla ypr yfr yto yty ywt pva pwa pam pdi plo phi ptk pco pex yst a1 a2 a3 a4 a5 a6 s' (yc_f ych (mt_Y P (Vf pva) (Vf plo) (Vf phi) (stp pam) (ok_ nT yla pwa) (al_ eT yfr yto yty pam pdi) (trp ypr c cs nn) f k' n' p' s' u')) yfa) →
      wY_search_92 post (nI v) N ylv (nI P) yqc (nI nn) yec (nI (d + 1 + 1)) u' (nI (ws_ ywt u')) (nI fo) (nI l) yso ysu yla ypr yfr yto yty ywt pva pwa pam pdi plo phi ptk pco pex yst ypa ysp ypl ycp ybo ytk s' ych yfa)
    {k n p : Nat} {s : Nat → Int32} {u : Int32} (hk : k < P) (hh : ¬ pam k = 0 → n ≤ Vf phi k ∧ p < 8) (hz : pam k = 0 → n = 0) (nd : P + qu_H pam phi P ≤ k + qu_H pam phi k + n + (f + 1)) (hs : s_ok s) (hb : bs_ nT pva s k) (hu : us_ eT u) :
    ∀ r j N0 N fo l yso ysu yus ywe (yst ypa ysp ypl ycp ybo ytk yno ych : Nat → Int32), j + r = (if stp pam k = true then 8 else 25) → N0 + r * (1 + cy f) + 1 ≤ N → yf_ pam ypa ysp ypl ycp d k n p j → db_ s yno (ybo d) → dt_ ywt eT u yus ywe (ytk d) → fo ≤ 1000 → l ≤ 1000000 → fo + (fm (mt_W P (Vf pva) (Vf plo) (Vf phi) (stp pam) (ok_ nT yla pwa) (al_ eT yfr yto yty pam pdi) (trp ypr c cs nn) f k n p s u) r j).length ≤ T0 →
    (∀ N' (yst a1 a2 a3 a4 a5 a6 : Nat → Int32), N0 ≤ N' → yg_ d ypa ysp ypl ycp ybo ytk a1 a2 a3 a4 a5 a6 → fo + (fm (mt_W P (Vf pva) (Vf plo) (Vf phi) (stp pam) (ok_ nT yla pwa) (al_ eT yfr yto yty pam pdi) (trp ypr c cs nn) f k n p s u) r j).length ≤ 1000 →
      wY_search_92 post (nI v) N' ylv (nI P) yqc (nI nn) yec (nI d) u (nI (ws_ ywt u)) (nI (fo + (fm (mt_W P (Vf pva) (Vf plo) (Vf phi) (stp pam) (ok_ nT yla pwa) (al_ eT yfr yto yty pam pdi) (trp ypr c cs nn) f k n p s u) r j).length)) (nI (lm_ (ws_ ywt) l ((fm (mt_W P (Vf pva) (Vf plo) (Vf phi) (stp pam) (ok_ nT yla pwa) (al_ eT yfr yto yty pam pdi) (trp ypr c cs nn) f k n p s u) r j).map Prod.snd))) (yo_f ypr v yso (fm (mt_W P (Vf pva) (Vf plo) (Vf phi) (stp pam) (ok_ nT yla pwa) (al_ eT yfr yto yty pam pdi) (trp ypr c cs nn) f k n p s u) r j)) (yu_f ypr v ysu (fm (mt_W P (Vf pva) (Vf plo) (Vf phi) (stp pam) (ok_ nT yla pwa) (al_ eT yfr yto yty pam pdi) (trp ypr c cs nn) f k n p s u) r j)) yla ypr yfr yto yty ywt pva pwa pam pdi plo phi ptk pco pex yst a1 a2 a3 a4 a5 a6 s (yc_f ych (fm (mt_W P (Vf pva) (Vf plo) (Vf phi) (stp pam) (ok_ nT yla pwa) (al_ eT yfr yto yty pam pdi) (trp ypr c cs nn) f k n p s u) r j)) yfa) →
    wY_search_92 post (nI v) N ylv (nI P) yqc (nI nn) yec (nI (d + 1)) yus ywe (nI fo) (nI l) yso ysu yla ypr yfr yto yty ywt pva pwa pam pdi plo phi ptk pco pex yst ypa ysp ypl ycp ybo ytk yno ych yfa := by
  have w : vp_in (nI d) 14 := vp_in_nI (by omega) (by omega)
  have cd : (nI d).toNatClampNeg = d := nI_clamp (by omega)
  have wk : vp_in (nI k) 6 := vp_in_nI (by omega) (by omega)
  have ck : (nI k).toNatClampNeg = k := nI_clamp (by omega)
  obtain ⟨vv1, vv2, _, vv3⟩ := q_f (hp k hk)
  have wle := wz_le hR hu 12 (by omega)
  have wlt : ws_ ywt u < 2 ^ 31 := by unfold ws_; omega
  have shp := sh_of hp
  have hsm := hs_m shp (P - (k + 1)) (k + 1) (by omega)
  rw [show k + 1 + (P - (k + 1)) = P from by omega] at hsm
  intro r
  induction r with
  | zero =>
    intro j N0 N fo l yso ysu yus ywe yst ypa ysp ypl ycp ybo ytk yno ych hj hN hf hdb hdt hfo hl hT hnx
    obtain ⟨f1, f2, f3, f4⟩ := hf
    obtain ⟨M, rfl⟩ : ∃ M, N = M + 1 := ⟨N - 1, by omega⟩
    refine br_f (nI_nle (by omega) (by omega)) (br_f (nI_nlt (b := fo) (a := 1000) hfo (by omega)) (nm_r (nI_pred d) (ym_tb hR (by omega) hdb hdt ⟨w, w, nm_r (show _ = upd ycp d (nI (j + 1)) from by rw [cd, f4, nI_1]) (nm_r (show _ = nI j from by rw [cd, f4]) ⟨w, ?_⟩)⟩)))
    rw [cd, f1, ck]
    have go : wY_search_92 post (nI v) M ylv (nI P) yqc (nI nn) yec (nI d) u (nI (ws_ ywt u)) (nI fo) (nI l) yso ysu yla ypr yfr yto yty ywt pva pwa pam pdi plo phi ptk pco pex yst ypa ysp ypl (upd ycp d (nI (j + 1))) (upd ybo d (-1)) (upd ytk d (-1)) s ych yfa :=
      hnx M yst ypa ysp ypl _ _ _ (by omega) (fun i hi => ⟨rfl, rfl, rfl, pk_un (by omega), pk_un (by omega), pk_un (by omega)⟩) hfo
    refine ⟨wk, br_c (fun z => ?_) (fun z => ?_)⟩
    · have e : stp pam k = true := decide_eq_true z
      rw [e, if_pos rfl] at hj
      exact br_f tg_10 (br_t (by rw [show j = 8 from by omega]; rfl) (nm_r (nI_pred d) go))
    · have e : stp pam k = false := decide_eq_false z
      rw [e, if_neg (by decide)] at hj
      exact br_t rfl (br_t (by rw [show j = 25 from by omega]; rfl) (nm_r (nI_pred d) go))
  | succ r ih =>
    intro j N0 N fo l yso ysu yus ywe yst ypa ysp ypl ycp ybo ytk yno ych hj hN hf hdb hdt hfo hl hT hnx
    obtain ⟨f1, f2, f3, f4⟩ := hf
    obtain ⟨M, rfl⟩ : ∃ M, N = M + 1 := ⟨N - 1, by omega⟩
    have hr : (r + 1) * (1 + cy f) = r * (1 + cy f) + (1 + cy f) := Nat.succ_mul _ _
    have eF : fm (mt_W P (Vf pva) (Vf plo) (Vf phi) (stp pam) (ok_ nT yla pwa) (al_ eT yfr yto yty pam pdi) (trp ypr c cs nn) f k n p s u) (r + 1) j = ((mt_W P (Vf pva) (Vf plo) (Vf phi) (stp pam) (ok_ nT yla pwa) (al_ eT yfr yto yty pam pdi) (trp ypr c cs nn) f k n p s u) j) ++ (fm (mt_W P (Vf pva) (Vf plo) (Vf phi) (stp pam) (ok_ nT yla pwa) (al_ eT yfr yto yty pam pdi) (trp ypr c cs nn) f k n p s u) r (j + 1)) := rfl
    rw [eF] at hnx hT
    rw [List.length_append] at hT
    have res : ∀ M' fo' l' so' su' yus ywe (yst a1 a2 a3 a4 a5 a6 yno ych' : Nat → Int32), N0 + r * (1 + cy f) + 1 ≤ M' → yf_ pam a1 a2 a3 a4 d k n p (j + 1) → db_ s yno (a5 d) → dt_ ywt eT u yus ywe (a6 d) → yg_ d ypa ysp ypl ycp ybo ytk a1 a2 a3 a4 a5 a6 → fo' = fo + ((mt_W P (Vf pva) (Vf plo) (Vf phi) (stp pam) (ok_ nT yla pwa) (al_ eT yfr yto yty pam pdi) (trp ypr c cs nn) f k n p s u) j).length → l' = lm_ (ws_ ywt) l (((mt_W P (Vf pva) (Vf plo) (Vf phi) (stp pam) (ok_ nT yla pwa) (al_ eT yfr yto yty pam pdi) (trp ypr c cs nn) f k n p s u) j).map Prod.snd) → so' = yo_f ypr v yso ((mt_W P (Vf pva) (Vf plo) (Vf phi) (stp pam) (ok_ nT yla pwa) (al_ eT yfr yto yty pam pdi) (trp ypr c cs nn) f k n p s u) j) → su' = yu_f ypr v ysu ((mt_W P (Vf pva) (Vf plo) (Vf phi) (stp pam) (ok_ nT yla pwa) (al_ eT yfr yto yty pam pdi) (trp ypr c cs nn) f k n p s u) j) → ych' = yc_f ych ((mt_W P (Vf pva) (Vf plo) (Vf phi) (stp pam) (ok_ nT yla pwa) (al_ eT yfr yto yty pam pdi) (trp ypr c cs nn) f k n p s u) j) → fo' ≤ 1001 →
        wY_search_92 post (nI v) M' ylv (nI P) yqc (nI nn) yec (nI (d + 1)) yus ywe (nI fo') (nI l') so' su' yla ypr yfr yto yty ywt pva pwa pam pdi plo phi ptk pco pex yst a1 a2 a3 a4 a5 a6 yno ych' yfa := by
      intro M' fo' l' so' su' yus ywe yst a1 a2 a3 a4 a5 a6 yno ych' h1 h2 h3 h4 h5 h6 h7 h8 h9 h10 h11
      by_cases z : fo' ≤ 1000
      · have ll := lm_le (ws_ ywt) (((mt_W P (Vf pva) (Vf plo) (Vf phi) (stp pam) (ok_ nT yla pwa) (al_ eT yfr yto yty pam pdi) (trp ypr c cs nn) f k n p s u) j).map Prod.snd) l
        refine ih (j + 1) N0 M' fo' l' so' su' yus ywe yst a1 a2 a3 a4 a5 a6 yno ych' (by omega) h1 h2 h3 h4 z (by omega) (by omega) (fun N' yst b1 b2 b3 b4 b5 b6 g1 g2 g3 => ?_)
        have := hnx N' yst b1 b2 b3 b4 b5 b6 g1 (fun i hi => ⟨(g2 i hi).1.trans (h5 i hi).1, (g2 i hi).2.1.trans (h5 i hi).2.1, (g2 i hi).2.2.1.trans (h5 i hi).2.2.1, (g2 i hi).2.2.2.1.trans (h5 i hi).2.2.2.1, (g2 i hi).2.2.2.2.1.trans (h5 i hi).2.2.2.2.1, (g2 i hi).2.2.2.2.2.trans (h5 i hi).2.2.2.2.2⟩) (by rw [List.length_append]; omega)
        rw [List.length_append, List.map_append, lm_app, yo_app, yu_app, yc_app, ← h7, ← h8, ← h9, ← h10, ← Nat.add_assoc, ← h6] at this
        exact this
      · have e : fo' = 1001 := by omega
        obtain ⟨M2, rfl⟩ : ∃ M2, M' = M2 + 1 := ⟨M' - 1, by omega⟩
        rw [e]
        exact br_f (nI_nle (by omega) (by omega)) (br_t (by decide) (hx (by omega) _ _ _ _ _ _ _ _ _ _ _ _ _ _ _))
    have gg : ∀ {b5 b6 : Nat → Int32}, (∀ i, i < d → b5 i = ybo i) → (∀ i, i < d → b6 i = ytk i) → yg_ d ypa ysp ypl ycp ybo ytk ypa ysp ypl (upd ycp d (nI (j + 1))) b5 b6 := fun q5 q6 i hi => ⟨rfl, rfl, rfl, pk_un (by omega), q5 i hi, q6 i hi⟩
    have fj : yf_ pam ypa ysp ypl (upd ycp d (nI (j + 1))) d k n p (j + 1) := ⟨f1, f2, f3, pk_us⟩
    have hM : N0 + r * (1 + cy f) + 1 + cy f ≤ M := by omega
    have skip : ((mt_W P (Vf pva) (Vf plo) (Vf phi) (stp pam) (ok_ nT yla pwa) (al_ eT yfr yto yty pam pdi) (trp ypr c cs nn) f k n p s u) j) = [] → wY_search_92 post (nI v) M ylv (nI P) yqc (nI nn) yec (nI (d + 1)) u (nI (ws_ ywt u)) (nI fo) (nI l) yso ysu yla ypr yfr yto yty ywt pva pwa pam pdi plo phi ptk pco pex yst ypa ysp ypl (upd ycp d (nI (j + 1))) (upd ybo d (-1)) (upd ytk d (-1)) s ych yfa := fun q =>
      res M fo l yso ysu u (nI (ws_ ywt u)) yst ypa ysp ypl _ _ _ s ych (by omega) fj (Or.inl ⟨pk_us, rfl⟩) (Or.inl ⟨pk_us, rfl, rfl⟩) (gg (fun i hi => pk_un (by omega)) (fun i hi => pk_un (by omega))) (by rw [q]; rfl) (by rw [q]; rfl) (by rw [q]; rfl) (by rw [q]; rfl) (by rw [q]; rfl) (by omega)
    have goon : ∀ m, m < 8 → ok_ nT yla pwa k m = true → (s (Vf pva k) < 0 ∨ s (Vf pva k) = nI m) → ((mt_W P (Vf pva) (Vf plo) (Vf phi) (stp pam) (ok_ nT yla pwa) (al_ eT yfr yto yty pam pdi) (trp ypr c cs nn) f k n p s u) j) = (if k + 1 < P then mt_Y P (Vf pva) (Vf plo) (Vf phi) (stp pam) (ok_ nT yla pwa) (al_ eT yfr yto yty pam pdi) (trp ypr c cs nn) f (k + 1) 0 m (upd s (Vf pva k) (nI m)) u else if trp ypr c cs nn (upd s (Vf pva k) (nI m)) = true then [(upd s (Vf pva k) (nI m), u)] else []) →
        ∀ ybo', ybo' = (if s (Vf pva k) = -1 then upd (upd ybo d (-1)) d (nI (Vf pva k)) else upd ybo d (-1)) → wY_search_269 post (wY_search_92 post (nI v) M) (nI v) (nI m) (nI d) ylv (nI P) yqc (nI nn) yec (nI (d + 1)) u (nI (ws_ ywt u)) (nI fo) (nI l) yso ysu yla ypr yfr yto yty ywt pva pwa pam pdi plo phi ptk pco pex yst ypa ysp ypl (upd ycp d (nI (j + 1))) ybo' (upd ytk d (-1)) (upd s (Vf pva k) (nI m)) ych yfa := by
      intro m hm hok hsv eB ybo' hyb
      have bm : bt nT m = true := by
        unfold ok_ at hok
        simp at hok
        exact hok.2.1
      have hs' := s_up hs (v := Vf pva k) hm
      have hb' := bs_s hb hm bm
      have hdb' : db_ s (upd s (Vf pva k) (nI m)) (ybo' d) := by
        rcases hs _ vv2 with q | ⟨m', hm', q⟩
        · rw [hyb, if_pos q, pk_us]
          exact Or.inr ⟨Vf pva k, nI m, vv2, rfl, rfl, q⟩
        · have nq : ¬ s (Vf pva k) = -1 := fun x => by
            rw [q] at x
            exact nI_m1 (by omega) x
          rw [hyb, if_neg nq, pk_us]
          refine Or.inl ⟨rfl, up_id ?_⟩
          rcases hsv with x | x
          · rw [q] at x; exact absurd x (nI_pos (by omega))
          · exact x
      have lowb : ∀ i, i < d → ybo' i = ybo i := fun i hi => by
        rw [hyb]
        split
        · rw [pk_un (by omega), pk_un (by omega)]
        · rw [pk_un (by omega)]
      have lowt : ∀ i, i < d → upd ytk d (-1) i = ytk i := fun i hi => pk_un (by omega)
      unfold wY_search_269
      refine ym_go (nT := nT) hP hp hn hco hW (by omega) hk f1 hv hs' hb' wlt (by omega) (fun z => ?_) (fun z => ?_) (fun z e yst => ?_) (fun z e yst => ?_)
      · cases st : stp pam k with
        | true =>
          have := shp.2.1 k hk st
          have n0 := hz (of_decide_eq_true st)
          omega
        | false =>
          have a1 := (hh (of_decide_eq_false st)).1
          have := (shp.2.2 k hk st).1
          omega
      · rw [if_pos z] at eB
        have nd' : P + qu_H pam phi P ≤ k + 1 + qu_H pam phi (k + 1) + 0 + f := by
          cases st : stp pam k with
          | true =>
            have := shp.2.1 k hk st
            have n0 := hz (of_decide_eq_true st)
            omega
          | false =>
            have a1 := (hh (of_decide_eq_false st)).1
            have := (shp.2.2 k hk st).1
            omega
        refine hch (by omega) (k + 1) 0 m (upd s (Vf pva k) (nI m)) u z (fun _ => ⟨Nat.zero_le _, hm⟩) (fun _ => rfl) nd' hs' hb' hu (N0 + r * (1 + cy f) + 1) M fo l yso ysu yst _ _ _ _ _ _ ych hM ⟨pk_us, pk_us, fun _ => pk_us, pk_us⟩ pk_us pk_us hfo hl (by rw [← eB]; omega) (fun N' yst a1 a2 a3 a4 a5 a6 g1 g2 g3 => ?_)
        obtain ⟨x1, x2, x3, x4, x5, x6⟩ := g2 d (by omega)
        rw [pk_un (by omega)] at x1 x2 x3 x4 x5 x6
        refine res N' _ _ _ _ u (nI (ws_ ywt u)) yst a1 a2 a3 a4 a5 a6 _ _ g1 ⟨x1.trans f1, x2.trans f2, fun q => x3.trans (f3 q), x4.trans pk_us⟩ (by rw [x5]; exact hdb') (by rw [x6]; exact Or.inl ⟨pk_us, rfl, rfl⟩) (fun i hi => ?_) (by rw [eB]) (by rw [eB]) (by rw [eB]) (by rw [eB]) (by rw [eB]) (by omega)
        obtain ⟨y1, y2, y3, y4, y5, y6⟩ := g2 i (by omega)
        rw [pk_un (by omega)] at y1 y2 y3 y4 y5 y6
        exact ⟨y1, y2, y3, y4.trans (pk_un (by omega)), y5.trans (lowb i hi), y6.trans (lowt i hi)⟩
      · have e' : trp ypr c cs nn (upd s (Vf pva k) (nI m)) = true := e
        rw [if_neg z, if_pos e'] at eB
        exact res M _ _ _ _ u (nI (ws_ ywt u)) yst ypa ysp ypl _ _ _ _ _ (by omega) fj hdb' (Or.inl ⟨pk_us, rfl, rfl⟩) (gg lowb lowt) (by rw [eB]; rfl) (by rw [eB]; rfl) (by rw [eB]; rfl) (by rw [eB]; rfl) (by rw [eB]; rfl) (by omega)
      · have e' : ¬ trp ypr c cs nn (upd s (Vf pva k) (nI m)) = true := by
          show ¬ cv_ ypr _ c cs nn = true
          rw [e]; decide
        rw [if_neg z, if_neg e'] at eB
        exact res M _ _ _ _ u (nI (ws_ ywt u)) yst ypa ysp ypl _ _ _ _ _ (by omega) fj hdb' (Or.inl ⟨pk_us, rfl, rfl⟩) (gg lowb lowt) (by rw [eB]; rfl) (by rw [eB]; rfl) (by rw [eB]; rfl) (by rw [eB]; rfl) (by rw [eB]; rfl) (by omega)
    refine br_f (nI_nle (by omega) (by omega)) (br_f (nI_nlt (b := fo) (a := 1000) hfo (by omega)) (nm_r (nI_pred d) (ym_tb hR (by omega) hdb hdt ⟨w, w, nm_r (show _ = upd ycp d (nI (j + 1)) from by rw [cd, f4, nI_1]) (nm_r (show _ = nI j from by rw [cd, f4]) ⟨w, ?_⟩)⟩)))
    rw [cd, f1, ck]
    refine ⟨wk, br_c (fun z => ?_) (fun z => ?_)⟩
    · have e : stp pam k = true := decide_eq_true z
      rw [e, if_pos rfl] at hj
      have nj : ¬ nI j = 8 := fun q => by
        have := (nI_eq (b := 8) (by omega) (by omega)).mp q
        omega
      refine br_f tg_10 (br_f nj (br_f tg_10 (br_f tg_10 (br_f tg_10 (br_f tg_10 (ym_se hR hp hP hk (by omega) (by omega) f1 hs (fun q => br_t rfl (skip ?_)) (fun q1 q2 => br_f tg_10 (br_f tg_10 (goon j (by omega) q1 (Or.inl (by rw [q2]; decide)) ?_ _ ?_))) (fun q1 q2 => br_f tg_10 (br_f tg_10 (goon j (by omega) q1 (Or.inr q2) ?_ _ ?_)))))))))
      · unfold mt_W; rw [if_pos e, if_neg q]
      · unfold mt_W; rw [if_pos e, if_pos ⟨q1, Or.inl (by rw [q2]; decide)⟩]
      · rw [if_pos q2]
      · unfold mt_W; rw [if_pos e, if_pos ⟨q1, Or.inr q2⟩]
      · rw [if_neg (fun x => by rw [q2] at x; exact nI_m1 (by omega) x)]
    · have e : stp pam k = false := decide_eq_false z
      have e' : ¬ stp pam k = true := by rw [e]; decide
      rw [e, if_neg (by decide)] at hj
      obtain ⟨h1, h2⟩ := hh z
      obtain ⟨_, _, v4, v7, v8, v5, v6⟩ := vv3 z
      have f3' := f3 z
      have nj : ¬ nI j = 25 := fun q => by
        have := (nI_eq (b := 25) (by omega) (by omega)).mp q
        omega
      refine br_t rfl (br_f nj (br_t rfl ?_))
      by_cases j0 : j = 0
      · have eB0 : ((mt_W P (Vf pva) (Vf plo) (Vf phi) (stp pam) (ok_ nT yla pwa) (al_ eT yfr yto yty pam pdi) (trp ypr c cs nn) f k n p s u) j) = (if Vf plo k ≤ n ∧ ok_ nT yla pwa k p = true ∧ (s (Vf pva k) < 0 ∨ s (Vf pva k) = nI p) then (if k + 1 < P then mt_Y P (Vf pva) (Vf plo) (Vf phi) (stp pam) (ok_ nT yla pwa) (al_ eT yfr yto yty pam pdi) (trp ypr c cs nn) f (k + 1) 0 p (upd s (Vf pva k) (nI p)) u else if trp ypr c cs nn (upd s (Vf pva k) (nI p)) = true then [(upd s (Vf pva k) (nI p), u)] else []) else []) := by
          unfold mt_W; rw [if_neg e', if_pos j0]
        refine br_t (by rw [j0]; rfl) (br_t rfl ⟨w, w, ?_⟩)
        rw [cd, f1, f2, ck, v4]
        refine ⟨wk, ?_⟩
        by_cases lo : Vf plo k ≤ n
        · refine br_f (nI_nlt lo (by omega)) (br_f tg_10 (br_t rfl ⟨w, ?_⟩))
          rw [cd, f3']
          refine ym_se hR hp hP hk (by omega) h2 f1 hs (fun q => br_t rfl (skip ?_)) (fun q1 q2 => br_f tg_10 (br_t rfl ⟨w, ?_⟩)) (fun q1 q2 => br_f tg_10 (br_t rfl ⟨w, ?_⟩))
          · rw [eB0, if_neg (fun x => q x.2)]
          · rw [cd, f3']
            refine goon p h2 q1 (Or.inl (by rw [q2]; decide)) ?_ _ ?_
            · rw [eB0, if_pos ⟨lo, q1, Or.inl (by rw [q2]; decide)⟩]
            · rw [if_pos q2]
          · rw [cd, f3']
            refine goon p h2 q1 (Or.inr q2) ?_ _ ?_
            · rw [eB0, if_pos ⟨lo, q1, Or.inr q2⟩]
            · rw [if_neg (fun x => by rw [q2] at x; exact nI_m1 (by omega) x)]
        · refine br_t (nI_lt (by omega) (by omega)) (br_t rfl (skip ?_))
          rw [eB0, if_neg (fun x => lo x.1)]
      · have eB0 : ((mt_W P (Vf pva) (Vf plo) (Vf phi) (stp pam) (ok_ nT yla pwa) (al_ eT yfr yto yty pam pdi) (trp ypr c cs nn) f k n p s u) j) = (if bt u ((j - 1) / 2) = true then [] else if n = Vf phi k then [] else om (al_ eT yfr yto yty pam pdi k (j - 1) p) (fun q => mt_Y P (Vf pva) (Vf plo) (Vf phi) (stp pam) (ok_ nT yla pwa) (al_ eT yfr yto yty pam pdi) (trp ypr c cs nn) f k (n + 1) q s (ub u ((j - 1) / 2)))) := by
          unfold mt_W; rw [if_neg e', if_neg j0]
        have ej : nI j - 1 = nI (j - 1) := pk_sub (b := 1) (by omega)
        refine br_f (fun q => j0 ((nI_eq (b := 0) (by omega) (by omega)).mp q)) ?_
        rw [ej]
        refine ym_al hR hp hP hk z (by omega) (by omega) (by omega) f1 f2 f3' ?_
        by_cases bu : bt u ((j - 1) / 2) = true
        · rw [if_pos bu] at eB0 ⊢
          exact br_t (by decide) (skip eB0)
        rw [if_neg bu] at eB0 ⊢
        by_cases hH : n = Vf phi k
        · rw [if_pos hH] at eB0 ⊢
          exact br_t (by decide) (skip eB0)
        rw [if_neg hH] at eB0 ⊢
        cases ha : al_ eT yfr yto yty pam pdi k (j - 1) p with
        | none =>
          rw [ha] at eB0
          exact br_t (by decide) (skip eB0)
        | some q =>
          rw [ha] at eB0
          have eB : ((mt_W P (Vf pva) (Vf plo) (Vf phi) (stp pam) (ok_ nT yla pwa) (al_ eT yfr yto yty pam pdi) (trp ypr c cs nn) f k n p s u) j) = mt_Y P (Vf pva) (Vf plo) (Vf phi) (stp pam) (ok_ nT yla pwa) (al_ eT yfr yto yty pam pdi) (trp ypr c cs nn) f k (n + 1) q s (ub u ((j - 1) / 2)) := eB0
          have bu' : bt u ((j - 1) / 2) = false := by
            cases x : bt u ((j - 1) / 2) with
            | false => rfl
            | true => exact absurd x bu
          obtain ⟨q8, qb⟩ : q < 8 ∧ bt eT ((j - 1) / 2) = true := by
            rcases al_fe (eT := eT) (yfr := yfr) (yto := yto) (yty := yty) (pam := pam) (p := p) (e := (j - 1) / 2) (vv3 z).2.1 with ⟨a1, a2⟩ | ⟨a1, a2⟩
            · rcases Nat.mod_two_eq_zero_or_one (j - 1) with x | x
              · rw [show 2 * ((j - 1) / 2) = j - 1 from by omega, ha] at a1
                have := fe_lt hR a1.symm
                exact ⟨this.1, this.2.1⟩
              · rw [show 2 * ((j - 1) / 2) + 1 = j - 1 from by omega, ha] at a2
                exact absurd a2 (by simp)
            · rcases Nat.mod_two_eq_zero_or_one (j - 1) with x | x
              · rw [show 2 * ((j - 1) / 2) = j - 1 from by omega, ha] at a1
                exact absurd a1 (by simp)
              · rw [show 2 * ((j - 1) / 2) + 1 = j - 1 from by omega, ha] at a2
                have := fe_lt hR a2.symm
                exact ⟨this.1, this.2.1⟩
          have he12 : (j - 1) / 2 < 12 := by omega
          have hu' := us_u hu he12 qb
          obtain ⟨e1, _⟩ := tg_d2 (j := j - 1) (by omega)
          have hHs := (shp.2.2 k hk e).1
          obtain ⟨w', hw', ew⟩ : ∃ w', w' ≤ 100 ∧ ywt ((j - 1) / 2) = nI w' := by
            rcases hR.2.2.2 ((j - 1) / 2) he12 with ⟨_, _, _, _, w', _, _, _, hw', _, _, _, _, _, _, ew⟩ | ⟨a, _⟩
            · exact ⟨w', hw', ew⟩
            · rw [qb] at a; exact absurd a (by decide)
          refine br_f (nI_pos (by omega)) ⟨by decide, w, nm_r (show _ = upd (upd ytk d (-1)) d (nI ((j - 1) / 2)) from by rw [cd, e1]) ⟨w, ?_⟩⟩
          rw [cd, pk_us]
          refine nm_r (show _ = ub u ((j - 1) / 2) from rfl) ⟨w, vp_in_nI (by omega) (by omega), nm_r (show _ = nI (ws_ ywt (ub u ((j - 1) / 2))) from ?_) ⟨w, w, ?_⟩⟩
          · rw [nI_clamp (by omega), ws_ub ywt he12 bu', ew, nI_clamp (by omega), nI_add]
          · rw [f1, f2, nI_1]
            refine ym_en (by omega) (hch (by omega) k (n + 1) q s (ub u ((j - 1) / 2)) hk (fun _ => ⟨by omega, q8⟩) (fun x => absurd x z) (by omega) hs hb hu' (N0 + r * (1 + cy f) + 1) M fo l yso ysu yst _ _ _ _ _ _ ych hM ⟨pk_us, pk_us, fun _ => pk_us, pk_us⟩ pk_us pk_us hfo hl (by rw [← eB]; omega) (fun N' yst a1 a2 a3 a4 a5 a6 g1 g2 g3 => ?_))
            obtain ⟨x1, x2, x3, x4, x5, x6⟩ := g2 d (by omega)
            rw [pk_un (by omega)] at x1 x2 x3 x4 x5 x6
            refine res N' _ _ _ _ (ub u ((j - 1) / 2)) (nI (ws_ ywt (ub u ((j - 1) / 2)))) yst a1 a2 a3 a4 a5 a6 _ _ g1 ⟨x1.trans f1, x2.trans f2, fun q => x3.trans (f3 q), x4.trans pk_us⟩ (by rw [x5]; exact Or.inl ⟨pk_us, rfl⟩) (by rw [x6]; exact Or.inr ⟨(j - 1) / 2, he12, pk_us, qb, bu', rfl, rfl⟩) (fun i hi => ?_) (by rw [eB]) (by rw [eB]) (by rw [eB]) (by rw [eB]) (by rw [eB]) (by omega)
            obtain ⟨y1, y2, y3, y4, y5, y6⟩ := g2 i (by omega)
            rw [pk_un (by omega)] at y1 y2 y3 y4 y5 y6
            exact ⟨y1, y2, y3, y4.trans (pk_un (by omega)), y5.trans (pk_un (by omega)), y6.trans ((pk_un (by omega)).trans (pk_un (by omega)))⟩
end
section
/-! search -/
theorem s_m1 {yno : Nat → Int32} (h : ∀ v, v < 4 → yno v = -1) : s_ok yno := fun v hv => Or.inl (h v hv)
variable {nT : Int32} {eT : Int32} {xlv : Int32} {xpc : Int32} {xqc : Int32} {xcc : Int32} {xec : Int32} {mc : Int32} {lw : Int32} {rc : Int32} {xla : Nat → Int32} {xpr : Nat → Int64} {xed : Nat → Int32} {sN : Nat → Int32} {sE : Nat → Int32} {sL : Nat → Int32} {sP : Nat → Int64} {sD : Nat → Int32} {pva : Nat → Int32} {pwa : Nat → Int32} {pam : Nat → Int32} {pdi : Nat → Int32} {plo : Nat → Int32} {phi : Nat → Int32} {ptk : Nat → Int32} {pco : Nat → Int32} {pex : Nat → Int32} {tr : Nat → Int32} {ds : Nat → Int32} {ch : Nat → Int32} {ar : Nat → Int32} {rN : Nat → Int32} {rM : Nat → Int32} {s1 : Nat → Int32} {s2 : Nat → Int32} {s3 : Nat → Int32} {s4 : Nat → Int32} {s5 : Nat → Int32}
variable {ylv : Int32} {ypc : Int32} {yqc : Int32} {ycc : Int32} {yec : Int32} {yde : Int32} {yus : Int32} {ywe : Int32} {yfo : Int32} {yli : Int32} {yso : Int32} {ysu : Int64} {yla : Nat → Int32} {ypr : Nat → Int64} {yfr : Nat → Int32} {yto : Nat → Int32} {yty : Nat → Int32} {ywt : Nat → Int32} {yst : Nat → Int32} {ypa : Nat → Int32} {ysp : Nat → Int32} {ypl : Nat → Int32} {ycp : Nat → Int32} {ybo : Nat → Int32} {ytk : Nat → Int32} {yno : Nat → Int32} {ych : Nat → Int32} {yfa : Nat → Int32}
theorem ym_fr {post : SY → Prop} {P nn v T0 : Nat} {c cs os : Nat → Nat} {nu : Nat → Prop} (hP : P ≤ 6) (hp : ∀ k, k < P → qu_P pva pwa pam pdi plo phi k) (hR : gr_R nT eT xla xpr xed yla ypr yfr yto yty ywt) (hn : nn ≤ 12) (hco : ∀ k, k < nn → pco k = nI (c k)) (hW : nn = 0 ∨ cd_W c (nm_P pva P) nn cs os nu) (hv : v < 4)
    (hx : 1000 < T0 → ∀ yde yus ywe yli yso ysu (yst ypa ysp ypl ycp ybo ytk yno ych : Nat → Int32), post (ylv, (nI P), yqc, (nI nn), yec, yde, yus, ywe, (nI 1001), yli, yso, ysu, yla, ypr, yfr, yto, yty, ywt, pva, pwa, pam, pdi, plo, phi, ptk, pco, pex, yst, ypa, ysp, ypl, ycp, ybo, ytk, yno, ych, yfa)) :
    ∀ f d, d + (f + 1) = 14 → ∀ k n p s u, k < P → (¬ pam k = 0 → n ≤ Vf phi k ∧ p < 8) → (pam k = 0 → n = 0) → P + qu_H pam phi P ≤ k + qu_H pam phi k + n + (f + 1) → s_ok s → bs_ nT pva s k → us_ eT u →
      ∀ N0 N fo l yso ysu (yst ypa ysp ypl ycp ybo ytk ych : Nat → Int32), N0 + cy (f + 1) ≤ N → yf_ pam ypa ysp ypl ycp d k n p 0 → ybo d = -1 → ytk d = -1 → fo ≤ 1000 → l ≤ 1000000 → fo + (mt_Y P (Vf pva) (Vf plo) (Vf phi) (stp pam) (ok_ nT yla pwa) (al_ eT yfr yto yty pam pdi) (trp ypr c cs nn) (f + 1) k n p s u).length ≤ T0 →
      (∀ N' (yst a1 a2 a3 a4 a5 a6 : Nat → Int32), N0 ≤ N' → yg_ d ypa ysp ypl ycp ybo ytk a1 a2 a3 a4 a5 a6 → fo + (mt_Y P (Vf pva) (Vf plo) (Vf phi) (stp pam) (ok_ nT yla pwa) (al_ eT yfr yto yty pam pdi) (trp ypr c cs nn) (f + 1) k n p s u).length ≤ 1000 →
        wY_search_92 post (nI v) N' ylv (nI P) yqc (nI nn) yec (nI d) u (nI (ws_ ywt u)) (nI (fo + (mt_Y P (Vf pva) (Vf plo) (Vf phi) (stp pam) (ok_ nT yla pwa) (al_ eT yfr yto yty pam pdi) (trp ypr c cs nn) (f + 1) k n p s u).length)) (nI (lm_ (ws_ ywt) l ((mt_Y P (Vf pva) (Vf plo) (Vf phi) (stp pam) (ok_ nT yla pwa) (al_ eT yfr yto yty pam pdi) (trp ypr c cs nn) (f + 1) k n p s u).map Prod.snd))) (yo_f ypr v yso (mt_Y P (Vf pva) (Vf plo) (Vf phi) (stp pam) (ok_ nT yla pwa) (al_ eT yfr yto yty pam pdi) (trp ypr c cs nn) (f + 1) k n p s u)) (yu_f ypr v ysu (mt_Y P (Vf pva) (Vf plo) (Vf phi) (stp pam) (ok_ nT yla pwa) (al_ eT yfr yto yty pam pdi) (trp ypr c cs nn) (f + 1) k n p s u)) yla ypr yfr yto yty ywt pva pwa pam pdi plo phi ptk pco pex yst a1 a2 a3 a4 a5 a6 s (yc_f ych (mt_Y P (Vf pva) (Vf plo) (Vf phi) (stp pam) (ok_ nT yla pwa) (al_ eT yfr yto yty pam pdi) (trp ypr c cs nn) (f + 1) k n p s u)) yfa) →
      wY_search_92 post (nI v) N ylv (nI P) yqc (nI nn) yec (nI (d + 1)) u (nI (ws_ ywt u)) (nI fo) (nI l) yso ysu yla ypr yfr yto yty ywt pva pwa pam pdi plo phi ptk pco pex yst ypa ysp ypl ycp ybo ytk s ych yfa := by
  intro f
  induction f with
  | zero =>
    intro d hd k n p s u hk hh hz nd hs hb hu N0 N fo l yso ysu yst ypa ysp ypl ycp ybo ytk ych hN hf h5 h6 hfo hl hT hnx
    rw [mt_YW] at hT hnx
    refine ym_in hP hp hR hn hco hW hv hx hd (fun q => absurd q (by omega)) hk hh hz nd hs hb hu _ 0 N0 N fo l yso ysu u (nI (ws_ ywt u)) yst ypa ysp ypl ycp ybo ytk s ych (Nat.zero_add _) ?_ hf (Or.inl ⟨h5, rfl⟩) (Or.inl ⟨h6, rfl, rfl⟩) hfo hl hT hnx
    have e : cy (0 + 1) = 25 * (1 + cy 0) + 1 := rfl
    split
    · omega
    · omega
  | succ f ihf =>
    intro d hd k n p s u hk hh hz nd hs hb hu N0 N fo l yso ysu yst ypa ysp ypl ycp ybo ytk ych hN hf h5 h6 hfo hl hT hnx
    rw [mt_YW] at hT hnx
    refine ym_in hP hp hR hn hco hW hv hx hd (fun _ => ihf (d + 1) (by omega)) hk hh hz nd hs hb hu _ 0 N0 N fo l yso ysu u (nI (ws_ ywt u)) yst ypa ysp ypl ycp ybo ytk s ych (Nat.zero_add _) ?_ hf (Or.inl ⟨h5, rfl⟩) (Or.inl ⟨h6, rfl, rfl⟩) hfo hl hT hnx
    have e : cy (f + 1 + 1) = 25 * (1 + cy (f + 1)) + 1 := rfl
    have e8 : 8 * (1 + cy (f + 1)) ≤ 25 * (1 + cy (f + 1)) := Nat.mul_le_mul_right _ (by omega)
    split
    · omega
    · omega
/-- all that Y finds -/
def ly_ (P : Nat) (V Lo Hi : Nat → Nat) (st : Nat → Bool) (ok : Nat → Nat → Bool) (al : Nat → Nat → Nat → Option Nat) (tru : (Nat → Int32) → Bool) (s : Nat → Int32) : List ((Nat → Int32) × Int32) := if 0 < P then mt_Y P V Lo Hi st ok al tru 14 0 0 0 s 0 else []
theorem ys_ {post : SY → Prop} {P nn v : Nat} {c cs os : Nat → Nat} {nu : Nat → Prop} (hP : P ≤ 6) (hp : ∀ k, k < P → qu_P pva pwa pam pdi plo phi k) (hH : qu_H pam phi P ≤ 5) (hR : gr_R nT eT xla xpr xed yla ypr yfr yto yty ywt) (hn : nn ≤ 12) (hco : ∀ k, k < nn → pco k = nI (c k)) (hW : nn = 0 ∨ cd_W c (nm_P pva P) nn cs os nu) (hv : v < 4)
    (hx : ∀ s, (∀ v, v < 4 → s v = -1) → 1000 < (ly_ P (Vf pva) (Vf plo) (Vf phi) (stp pam) (ok_ nT yla pwa) (al_ eT yfr yto yty pam pdi) (trp ypr c cs nn) s).length → ∀ yde yus ywe yli yso ysu (yst ypa ysp ypl ycp ybo ytk yno ych : Nat → Int32), post (ylv, (nI P), yqc, (nI nn), yec, yde, yus, ywe, (nI 1001), yli, yso, ysu, yla, ypr, yfr, yto, yty, ywt, pva, pwa, pam, pdi, plo, phi, ptk, pco, pex, yst, ypa, ysp, ypl, ycp, ybo, ytk, yno, ych, yfa))
    (h : ∀ s, (∀ v, v < 4 → s v = -1) → (ly_ P (Vf pva) (Vf plo) (Vf phi) (stp pam) (ok_ nT yla pwa) (al_ eT yfr yto yty pam pdi) (trp ypr c cs nn) s).length ≤ 1000 → ∀ ch0, (∀ i, i < 4096 → ch0 i = 0) → ∀ yde yus ywe (yst ypa ysp ypl ycp ybo ytk yno : Nat → Int32), post (ylv, (nI P), yqc, (nI nn), yec, yde, yus, ywe, (nI (ly_ P (Vf pva) (Vf plo) (Vf phi) (stp pam) (ok_ nT yla pwa) (al_ eT yfr yto yty pam pdi) (trp ypr c cs nn) s).length), (nI (lm_ (ws_ ywt) 1000000 ((ly_ P (Vf pva) (Vf plo) (Vf phi) (stp pam) (ok_ nT yla pwa) (al_ eT yfr yto yty pam pdi) (trp ypr c cs nn) s).map Prod.snd))), (yo_f ypr v 0 (ly_ P (Vf pva) (Vf plo) (Vf phi) (stp pam) (ok_ nT yla pwa) (al_ eT yfr yto yty pam pdi) (trp ypr c cs nn) s)), (yu_f ypr v 0 (ly_ P (Vf pva) (Vf plo) (Vf phi) (stp pam) (ok_ nT yla pwa) (al_ eT yfr yto yty pam pdi) (trp ypr c cs nn) s)), yla, ypr, yfr, yto, yty, ywt, pva, pwa, pam, pdi, plo, phi, ptk, pco, pex, yst, ypa, ysp, ypl, ycp, ybo, ytk, yno, (yc_f ch0 (ly_ P (Vf pva) (Vf plo) (Vf phi) (stp pam) (ok_ nT yla pwa) (al_ eT yfr yto yty pam pdi) (trp ypr c cs nn) s)), yfa)) :
    wpY_search post (ylv, (nI P), yqc, (nI nn), yec, yde, yus, ywe, yfo, yli, yso, ysu, yla, ypr, yfr, yto, yty, ywt, pva, pwa, pam, pdi, plo, phi, ptk, pco, pex, yst, ypa, ysp, ypl, ycp, ybo, ytk, yno, ych, yfa) (nI v) := by
  have K3 : ∀ (yno ych : Nat → Int32), (∀ v, v < 4 → yno v = -1) → (∀ i, i < 4096 → ych i = 0) → ((nI P ≤ 0 → (∃ n92 : Nat, wY_search_92 post (nI v) n92 ylv (nI P) yqc (nI nn) yec 0 0 0 0 1000000 0 0 yla ypr yfr yto yty ywt pva pwa pam pdi plo phi ptk pco pex yst ypa ysp ypl ycp ybo ytk yno ych yfa)) ∧ (¬ nI P ≤ 0 → (wpY_enter (fun u => match u with | (ylv, ypc, yqc, ycc, yec, yde, yus, ywe, yfo, yli, yso, ysu, yla, ypr, yfr, yto, yty, ywt, pva, pwa, pam, pdi, plo, phi, ptk, pco, pex, yst, ypa, ysp, ypl, ycp, ybo, ytk, yno, ych, yfa) => (∃ n92 : Nat, wY_search_92 post (nI v) n92 ylv ypc yqc ycc yec yde yus ywe yfo yli yso ysu yla ypr yfr yto yty ywt pva pwa pam pdi plo phi ptk pco pex yst ypa ysp ypl ycp ybo ytk yno ych yfa)) (ylv, (nI P), yqc, (nI nn), yec, 0, 0, 0, 0, 1000000, 0, 0, yla, ypr, yfr, yto, yty, ywt, pva, pwa, pam, pdi, plo, phi, ptk, pco, pex, yst, ypa, ysp, ypl, ycp, ybo, ytk, yno, ych, yfa) 0 0 (-1)))) := by
    intro yno ych h1 h2
    rcases Nat.eq_zero_or_pos P with z | z
    · have hl := h yno h1 (by unfold ly_; rw [if_neg (by omega)]; exact Nat.zero_le _) ych h2
      unfold ly_ at hl
      rw [if_neg (by omega)] at hl
      exact br_t (by rw [z]; decide) ⟨1, br_t (by decide) (hl 0 0 0 yst ypa ysp ypl ycp ybo ytk yno)⟩
    · have hl := h yno h1
      have hx' := hx yno h1
      unfold ly_ at hl hx'
      rw [if_pos z] at hl hx'
      have h00 : pam 0 = 0 := by
        obtain ⟨_, _, _, v⟩ := q_f (hp 0 z)
        by_cases q : pam 0 = 0
        · exact q
        · exact absurd (v q).1 (Nat.lt_irrefl 0)
      refine br_f (nI_nle z (by omega)) (ym_en (d := 0) (by omega) ⟨1 + cy (13 + 1), ?_⟩)
      exact ym_fr hP hp hR hn hco hW hv hx' 13 0 rfl 0 0 0 yno 0 z (fun q => absurd h00 q) (fun _ => rfl) (by show P + qu_H pam phi P ≤ 0 + 0 + 0 + (13 + 1); omega) (s_m1 h1) (fun j hj => absurd hj (Nat.not_lt_zero j)) (us_0 eT) 1 _ 0 1000000 0 0 yst _ _ _ _ _ _ ych (Nat.le_refl _) ⟨pk_us, pk_us, fun q => absurd h00 q, pk_us⟩ pk_us pk_us (by omega) (by omega) (Nat.le_of_eq (Nat.zero_add _)) (fun N' yst a1 a2 a3 a4 a5 a6 g1 g2 g3 => by
        obtain ⟨M, rfl⟩ : ∃ M, N' = M + 1 := ⟨N' - 1, by omega⟩
        rw [Nat.zero_add] at g3 ⊢
        exact br_t (by decide) (hl g3 ych h2 _ _ _ yst a1 a2 a3 a4 a5 a6 yno))
  have K2 : ∀ (yno : Nat → Int32), (∀ v, v < 4 → yno v = -1) → ∀ d i (ych : Nat → Int32), i + d = 4096 → (∀ j, j < i → ych j = 0) → wY_search_22 post (nI v) ylv (nI P) yqc (nI nn) yec yde yus ywe yfo yli yso ysu (d + 1) (nI i) yla ypr yfr yto yty ywt pva pwa pam pdi plo phi ptk pco pex yst ypa ysp ypl ycp ybo ytk yno ych yfa := by
    intro yno h1 d
    induction d with
    | zero =>
      intro i ych hi h2
      exact br_t (nI_le (a := 4096) (by omega) (by omega)) (K3 yno ych h1 (fun j hj => h2 j (by omega)))
    | succ d ih =>
      intro i ych hi h2
      refine br_f (nI_ge (b := 4096) (by omega) (by decide)) ⟨vp_in_nI (by omega) (by omega), nm_r (show _ = upd ych i 0 from by rw [nI_clamp (by omega)]; rfl) (nm_r (nI_1 i) (ih (i + 1) _ (by omega) (fun j hj => ?_)))⟩
      by_cases z : j = i
      · rw [z, pk_us]
      · rw [pk_un z]; exact h2 j (by omega)
  have K1 : ∀ d i (yno : Nat → Int32), i + d = 4 → (∀ j, j < i → yno j = -1) → wY_search_2 post (nI v) ylv (nI P) yqc (nI nn) yec yde yus ywe yfo yli yso ysu (d + 1) (nI i) yla ypr yfr yto yty ywt pva pwa pam pdi plo phi ptk pco pex yst ypa ysp ypl ycp ybo ytk yno ych yfa := by
    intro d
    induction d with
    | zero =>
      intro i yno hi h1
      exact br_t (nI_le (a := 4) (by omega) (by omega)) ⟨4097, K2 yno (fun j hj => h1 j (by omega)) 4096 0 ych (by omega) (fun j hj => absurd hj (Nat.not_lt_zero j))⟩
    | succ d ih =>
      intro i yno hi h1
      refine br_f (nI_ge (b := 4) (by omega) (by decide)) ⟨vp_in_nI (by omega) (by omega), nm_r (tg_u (by omega)) (nm_r (nI_1 i) (ih (i + 1) _ (by omega) (fun j hj => ?_)))⟩
      by_cases z : j = i
      · rw [z, pk_us]
      · rw [pk_un z]; exact h1 j (by omega)
  exact ⟨5, K1 4 0 yno (by omega) (fun j hj => absurd hj (Nat.not_lt_zero j))⟩
end
section
/-! what the answers take from the list of matches -/
theorem sel_c (c : Nat) (x : (Nat → Int32) × Int32) (L : List ((Nat → Int32) × Int32)) : sel c (x :: L) = if cde x.1 = c then x.2 :: sel c L else sel c L := by
  unfold sel
  by_cases z : cde x.1 = c
  · rw [if_pos z, List.filter_cons_of_pos (by simp [z])]; rfl
  · rw [if_neg z, List.filter_cons_of_neg (by simp [z])]
theorem sm_e {F G : Nat → List Int32} : ∀ {N : Nat}, (∀ c, c < N → (F c).length = (G c).length) → sm_ F N = sm_ G N
  | 0, _ => rfl
  | N + 1, h => by
    show sm_ F N + (F N).length = sm_ G N + (G N).length
    rw [sm_e (fun c hc => h c (by omega)), h N (by omega)]
theorem sm_one (F : Nat → List Int32) (c0 : Nat) (y : Int32) : ∀ N, sm_ (fun c => if c0 = c then y :: F c else F c) N = sm_ F N + (if c0 < N then 1 else 0)
  | 0 => by rw [if_neg (Nat.not_lt_zero _)]; rfl
  | N + 1 => by
    show sm_ (fun c => if c0 = c then y :: F c else F c) N + (if c0 = N then y :: F N else F N).length = sm_ F N + (F N).length + _
    rw [sm_one F c0 y N]
    by_cases z : c0 = N
    · rw [if_pos z, if_neg (by omega), if_pos (by omega), List.length_cons]; omega
    · rw [if_neg z]
      by_cases w : c0 < N
      · rw [if_pos w, if_pos (by omega)]; omega
      · rw [if_neg w, if_neg (by omega)]; omega
theorem sm_sel : ∀ L : List ((Nat → Int32) × Int32), (∀ x, x ∈ L → cde x.1 < 4096) → sm_ (fun c => sel c L) 4096 = L.length
  | [], _ => by
    have : ∀ N, sm_ (fun c => sel c []) N = 0 := by
      intro N
      induction N with
      | zero => rfl
      | succ N ih => show sm_ (fun c => sel c []) N + 0 = 0; rw [ih]
    exact this 4096
  | x :: L, h => by
    have e : (fun c => sel c (x :: L)) = fun c => if cde x.1 = c then x.2 :: sel c L else sel c L := funext fun c => sel_c c x L
    have hx := h x List.mem_cons_self
    rw [e, sm_one (fun c => sel c L) (cde x.1) x.2 4096, sm_sel L (fun y hy => h y (List.mem_cons_of_mem _ hy)), if_pos hx]
    rfl
theorem yc_sel (c : Nat) : ∀ (L : List ((Nat → Int32) × Int32)) ch, yc_f ch L c = if sel c L = [] then ch c else 1
  | [], ch => (if_pos rfl).symm
  | x :: L, ch => by
    show yc_f (upd ch (cde x.1) 1) L c = _
    rw [yc_sel c L, sel_c]
    by_cases z : cde x.1 = c
    · rw [if_pos z, if_neg (List.cons_ne_nil _ _), z, pk_us]
      split <;> rfl
    · rw [if_neg z, pk_un (fun q => z q.symm)]
theorem mem_sel (u : Int32) : ∀ L : List ((Nat → Int32) × Int32), (∀ x, x ∈ L → cde x.1 < 4096) → (u ∈ L.map Prod.snd ↔ ∃ c, c < 4096 ∧ u ∈ sel c L)
  | [], _ => ⟨fun h => absurd h List.not_mem_nil, fun ⟨_, _, h⟩ => absurd h List.not_mem_nil⟩
  | x :: L, h => by
    have ih := mem_sel u L (fun y hy => h y (List.mem_cons_of_mem _ hy))
    have hx := h x List.mem_cons_self
    rw [List.map_cons, List.mem_cons, ih]
    constructor
    · rintro (q | ⟨c, hc, q⟩)
      · exact ⟨cde x.1, hx, by rw [sel_c, if_pos rfl, q]; exact List.mem_cons_self⟩
      · refine ⟨c, hc, ?_⟩
        rw [sel_c]
        split
        · exact List.mem_cons_of_mem _ q
        · exact q
    · rintro ⟨c, hc, q⟩
      rw [sel_c] at q
      split at q
      · rcases List.mem_cons.mp q with w | w
        · exact Or.inl w
        · exact Or.inr ⟨c, hc, w⟩
      · exact Or.inr ⟨c, hc, q⟩
/-- the least of l and the weights -/
theorem lm_min (w : Int32 → Nat) : ∀ (L : List Int32) l, lm_ w l L ≤ l ∧ (∀ u, u ∈ L → lm_ w l L ≤ w u) ∧ (lm_ w l L = l ∨ ∃ u, u ∈ L ∧ lm_ w l L = w u)
  | [], l => ⟨Nat.le_refl l, fun u h => absurd h List.not_mem_nil, Or.inl rfl⟩
  | x :: L, l => by
    obtain ⟨a, b, c⟩ := lm_min w L (mn_ (w x) l)
    have m1 : mn_ (w x) l ≤ l := mn_le _ _
    have m2 : mn_ (w x) l ≤ w x := by unfold mn_; split <;> omega
    refine ⟨Nat.le_trans a m1, fun u hu => ?_, ?_⟩
    · rcases List.mem_cons.mp hu with q | q
      · rw [q]; exact Nat.le_trans a m2
      · exact b u q
    · rcases c with q | ⟨u, hu, q⟩
      · have e : lm_ w l (x :: L) = mn_ (w x) l := q
        rw [e]
        unfold mn_
        split
        · exact Or.inr ⟨x, List.mem_cons_self, rfl⟩
        · exact Or.inl rfl
      · exact Or.inr ⟨u, List.mem_cons_of_mem _ hu, q⟩
theorem ml_min (w : Int32 → Nat) (X : Nat → List Int32) : ∀ N, ml_ w X N ≤ 1000000 ∧ (∀ c u, c < N → u ∈ X c → ml_ w X N ≤ w u) ∧ (ml_ w X N = 1000000 ∨ ∃ c u, c < N ∧ u ∈ X c ∧ ml_ w X N = w u)
  | 0 => ⟨Nat.le_refl _, fun c u h => absurd h (Nat.not_lt_zero c), Or.inl rfl⟩
  | N + 1 => by
    obtain ⟨a, b, c⟩ := ml_min w X N
    obtain ⟨a', b', c'⟩ := lm_min w (X N) (ml_ w X N)
    refine ⟨Nat.le_trans a' a, fun i u hi hu => ?_, ?_⟩
    · by_cases z : i = N
      · rw [z] at hu; exact b' u hu
      · exact Nat.le_trans a' (b i u (by omega) hu)
    · show lm_ w (ml_ w X N) (X N) = _ ∨ ∃ c u, _ ∧ _ ∧ lm_ w (ml_ w X N) (X N) = _
      rcases c' with q | ⟨u, hu, q⟩
      · rw [q]
        rcases c with y | ⟨i, u, hi, hu, y⟩
        · exact Or.inl y
        · exact Or.inr ⟨i, u, by omega, hu, y⟩
      · exact Or.inr ⟨N, u, by omega, hu, q⟩
theorem ml_lm (w : Int32 → Nat) (X : Nat → List Int32) (L : List Int32) (h : ∀ u, u ∈ L ↔ ∃ c, c < 4096 ∧ u ∈ X c) : ml_ w X 4096 = lm_ w 1000000 L := by
  obtain ⟨a, b, c⟩ := ml_min w X 4096
  obtain ⟨a', b', c'⟩ := lm_min w L 1000000
  apply Nat.le_antisymm
  · rcases c' with q | ⟨u, hu, q⟩
    · rw [q]; exact a
    · obtain ⟨i, hi, hu'⟩ := (h u).mp hu
      rw [q]; exact b i u hi hu'
  · rcases c with q | ⟨i, u, hi, hu, q⟩
    · rw [q]; exact a'
    · rw [q]; exact b' u ((h u).mpr ⟨i, hi, hu⟩)
/-! the sum over the matches, code by code -/
def nz_ (pr : Nat → Int64) (v c : Nat) : Bool := decide (¬ pr (dg c v) = 9000000000000000000)
def gs_ (pr : Nat → Int64) (v : Nat) (X : Nat → List Int32) : Nat → Int64
  | 0 => 0
  | c + 1 => gs_ pr v X c + (if nz_ pr v c = true then pr (dg c v) * lN (X c).length else 0)
def gb_ (pr : Nat → Int64) (v : Nat) (X : Nat → List Int32) : Nat → Bool
  | 0 => false
  | c + 1 => gb_ pr v X c || (nz_ pr v c && !decide (X c = []))
theorem gs_e {pr : Nat → Int64} {v : Nat} {F G : Nat → List Int32} : ∀ {N : Nat}, (∀ c, c < N → (F c).length = (G c).length) → gs_ pr v F N = gs_ pr v G N
  | 0, _ => rfl
  | N + 1, h => by
    show gs_ pr v F N + _ = gs_ pr v G N + _
    rw [gs_e (fun c hc => h c (by omega)), h N (by omega)]
theorem gb_e {pr : Nat → Int64} {v : Nat} {F G : Nat → List Int32} : ∀ {N : Nat}, (∀ c, c < N → (F c = [] ↔ G c = [])) → gb_ pr v F N = gb_ pr v G N
  | 0, _ => rfl
  | N + 1, h => by
    show (gb_ pr v F N || _) = (gb_ pr v G N || _)
    rw [gb_e (fun c hc => h c (by omega)), show decide (F N = []) = decide (G N = []) from by simp only [decide_eq_decide]; exact h N (by omega)]
theorem lN_s1 (x : Int64) (n : Nat) : x * lN (n + 1) = x * lN n + x := by
  rw [← lN_1, Int64.mul_add, Int64.mul_one]
theorem gs_one (pr : Nat → Int64) (v : Nat) (F : Nat → List Int32) (c0 : Nat) (y : Int32) : ∀ N, gs_ pr v (fun c => if c0 = c then y :: F c else F c) N = gs_ pr v F N + (if c0 < N ∧ nz_ pr v c0 = true then pr (dg c0 v) else 0)
  | 0 => by rw [if_neg (fun q => Nat.not_lt_zero _ q.1)]; exact (Int64.add_zero _).symm
  | N + 1 => by
    show gs_ pr v (fun c => if c0 = c then y :: F c else F c) N + (if nz_ pr v N = true then pr (dg N v) * lN (if c0 = N then y :: F N else F N).length else 0) = gs_ pr v F N + (if nz_ pr v N = true then pr (dg N v) * lN (F N).length else 0) + _
    rw [gs_one pr v F c0 y N]
    by_cases z : c0 = N
    · have e0 : ¬ (c0 < N ∧ nz_ pr v c0 = true) := fun q => by omega
      rw [if_pos z, if_neg e0, Int64.add_zero, List.length_cons, lN_s1, z]
      by_cases w : nz_ pr v N = true
      · rw [if_pos w, if_pos w, if_pos ⟨by omega, w⟩, Int64.add_assoc]
      · rw [if_neg w, if_neg w, if_neg (fun q => w q.2), Int64.add_zero, Int64.add_zero]
    · rw [if_neg z]
      by_cases w : c0 < N ∧ nz_ pr v c0 = true
      · have w' : c0 < N + 1 ∧ nz_ pr v c0 = true := ⟨by omega, w.2⟩
        rw [if_pos w, if_pos w', Int64.add_assoc, Int64.add_assoc, Int64.add_comm (pr (dg c0 v))]
      · have w' : ¬ (c0 < N + 1 ∧ nz_ pr v c0 = true) := fun q => w ⟨by omega, q.2⟩
        rw [if_neg w, if_neg w', Int64.add_zero, Int64.add_zero]
theorem yu_acc (pr : Nat → Int64) (v : Nat) : ∀ (L : List ((Nat → Int32) × Int32)) su, yu_f pr v su L = su + yu_f pr v 0 L
  | [], su => (Int64.add_zero su).symm
  | x :: L, su => by
    show yu_f pr v (if hp_ pr x.1 v = true then su + pr (x.1 v).toNatClampNeg else su) L = su + yu_f pr v (if hp_ pr x.1 v = true then 0 + pr (x.1 v).toNatClampNeg else 0) L
    by_cases z : hp_ pr x.1 v = true
    · rw [if_pos z, if_pos z, yu_acc pr v L (su + _), yu_acc pr v L (0 + _), Int64.zero_add, Int64.add_assoc]
    · rw [if_neg z, if_neg z, yu_acc pr v L su]
/-- in every match of L the variable v has a node -/
def bd_ (v : Nat) (L : List ((Nat → Int32) × Int32)) : Prop := ∀ x, x ∈ L → s_ok x.1 ∧ ¬ x.1 v = -1
theorem bd_dg {s : Nat → Int32} {v : Nat} (hv : v < 4) (hs : s_ok s) (hb : ¬ s v = -1) : s v = nI (dg (cde s) v) := by
  rw [(cde_dg hs).2 v hv]
  rcases (zc_lt (hs v hv)).2 with ⟨a, _⟩ | a
  · exact absurd a hb
  · exact a
theorem hp_nz {pr : Nat → Int64} {s : Nat → Int32} {v : Nat} (hv : v < 4) (hs : s_ok s) (hb : ¬ s v = -1) : hp_ pr s v = nz_ pr v (cde s) ∧ (s v).toNatClampNeg = dg (cde s) v := by
  have e := bd_dg hv hs hb
  have l := dg_lt (cde s) v
  have ec : (s v).toNatClampNeg = dg (cde s) v := by
    rw [e, nI_clamp (by omega)]
  refine ⟨?_, ec⟩
  unfold hp_ nz_
  rw [ec, decide_eq_true (show ¬ s v < 0 from by rw [e]; exact nI_pos (by omega)), Bool.true_and]
theorem yu_sel {pr : Nat → Int64} {v : Nat} (hv : v < 4) : ∀ L : List ((Nat → Int32) × Int32), bd_ v L → yu_f pr v 0 L = gs_ pr v (fun c => sel c L) 4096
  | [], _ => by
    have : ∀ N, gs_ pr v (fun c => sel c []) N = 0 := by
      intro N
      induction N with
      | zero => rfl
      | succ N ih =>
        show gs_ pr v (fun c => sel c []) N + _ = 0
        rw [ih, show lN (sel N []).length = 0 from rfl, Int64.mul_zero, Int64.zero_add]
        split <;> rfl
    exact (this 4096).symm
  | x :: L, h => by
    have e : (fun c => sel c (x :: L)) = fun c => if cde x.1 = c then x.2 :: sel c L else sel c L := funext fun c => sel_c c x L
    obtain ⟨hs, hb⟩ := h x List.mem_cons_self
    obtain ⟨q1, q2⟩ := hp_nz (pr := pr) hv hs hb
    have hc := (cde_dg hs).1
    show yu_f pr v (if hp_ pr x.1 v = true then 0 + pr (x.1 v).toNatClampNeg else 0) L = _
    rw [e, gs_one pr v (fun c => sel c L) (cde x.1) x.2 4096, yu_acc, yu_sel hv L (fun y hy => h y (List.mem_cons_of_mem _ hy)), q1, q2, Int64.add_comm]
    by_cases z : nz_ pr v (cde x.1) = true
    · rw [if_pos z, if_pos ⟨hc, z⟩, Int64.zero_add]
    · rw [if_neg z, if_neg (fun q => z q.2)]
theorem yo_1 (pr : Nat → Int64) (v : Nat) : ∀ L : List ((Nat → Int32) × Int32), yo_f pr v 1 L = 1
  | [] => rfl
  | x :: L => by
    show yo_f pr v (if hp_ pr x.1 v = true then 1 else 1) L = 1
    rw [show (if hp_ pr x.1 v = true then (1 : Int32) else 1) = 1 from by split <;> rfl]
    exact yo_1 pr v L
theorem yo_any (pr : Nat → Int64) (v : Nat) : ∀ L : List ((Nat → Int32) × Int32), yo_f pr v 0 L = tg_z (L.any (fun x => hp_ pr x.1 v))
  | [] => rfl
  | x :: L => by
    show yo_f pr v (if hp_ pr x.1 v = true then 1 else 0) L = tg_z (hp_ pr x.1 v || L.any (fun x => hp_ pr x.1 v))
    cases e : hp_ pr x.1 v with
    | true => rw [if_pos rfl, yo_1]; rfl
    | false => rw [if_neg (by decide), yo_any pr v L]; rfl
theorem gb_iff (pr : Nat → Int64) (v : Nat) (X : Nat → List Int32) : ∀ N, gb_ pr v X N = true ↔ ∃ c, c < N ∧ nz_ pr v c = true ∧ ¬ X c = []
  | 0 => ⟨fun h => absurd (show false = true from h) (by decide), fun ⟨c, hc, _⟩ => absurd hc (Nat.not_lt_zero c)⟩
  | N + 1 => by
    show (gb_ pr v X N || (nz_ pr v N && !decide (X N = []))) = true ↔ _
    rw [Bool.or_eq_true, gb_iff pr v X N, Bool.and_eq_true, Bool.not_eq_true', decide_eq_false_iff_not]
    constructor
    · rintro (⟨c, h1, h2⟩ | h)
      · exact ⟨c, by omega, h2⟩
      · exact ⟨N, by omega, h⟩
    · rintro ⟨c, h1, h2⟩
      by_cases z : c = N
      · rw [z] at h2; exact Or.inr h2
      · exact Or.inl ⟨c, by omega, h2⟩
theorem yo_sel {pr : Nat → Int64} {v : Nat} (hv : v < 4) (L : List ((Nat → Int32) × Int32)) (h : bd_ v L) : yo_f pr v 0 L = tg_z (gb_ pr v (fun c => sel c L) 4096) := by
  rw [yo_any]
  congr 1
  rw [Bool.eq_iff_iff, gb_iff, List.any_eq_true]
  constructor
  · rintro ⟨x, hx, hq⟩
    obtain ⟨hs, hb⟩ := h x hx
    obtain ⟨q1, _⟩ := hp_nz (pr := pr) hv hs hb
    refine ⟨cde x.1, (cde_dg hs).1, by rw [← q1]; exact hq, fun z => ?_⟩
    have : x ∈ L.filter (fun y => decide (cde y.1 = cde x.1)) := List.mem_filter.mpr ⟨hx, decide_eq_true rfl⟩
    unfold sel at z
    rw [List.map_eq_nil_iff] at z
    rw [z] at this
    exact absurd this List.not_mem_nil
  · rintro ⟨c, _, hq, hne⟩
    cases e : L.filter (fun y => decide (cde y.1 = c)) with
    | nil => exact absurd (by unfold sel; rw [e]; rfl) hne
    | cons x L' =>
      have hx : x ∈ L.filter (fun y => decide (cde y.1 = c)) := by rw [e]; exact List.mem_cons_self
      obtain ⟨h1, h2⟩ := List.mem_filter.mp hx
      have h2 : cde x.1 = c := of_decide_eq_true h2
      obtain ⟨hs, hb⟩ := h x h1
      obtain ⟨q1, _⟩ := hp_nz (pr := pr) hv hs hb
      exact ⟨x, h1, by rw [q1, h2]; exact hq⟩
end
section
/-! X's lists and Y's list hold the same matches -/
theorem cm_cong {pr : Nat → Int64} {s s' : Nat → Int32} {c cs os : Nat → Nat} {nm nu : Nat → Prop} {n : Nat} (hW : cd_W c nm n cs os nu) (h : ∀ v, v < 4 → nm v → s v = s' v) {k : Nat} (hk : k < n) (ho : os k = 0) (h1 : 10 ≤ c k) (h2 : c k ≤ 13) : cm_ pr s c k = cm_ pr s' c k := by
  obtain ⟨_, _, k1, o1, s1, _, r⟩ := cd_op hW hk ho h1 h2
  have vo : ∀ t, op_ nm t → vo_ pr s t = vo_ pr s' t := fun t ht => by
    unfold vo_
    rcases ht with ⟨a, b⟩ | ⟨a, b⟩
    · rw [if_pos a, if_pos a, h t a b]
    · rw [if_neg (by omega), if_neg (by omega)]
  unfold cm_
  by_cases z : c k = 13
  · obtain ⟨_, k2, _, s2⟩ := r (by omega)
    obtain ⟨a1, b1⟩ := s1 z
    obtain ⟨a2, b2⟩ := s2 z
    rw [if_pos z, if_pos z, h _ a1 b1, h _ a2 b2]
  · rw [if_neg z, if_neg z, vo _ o1]
    by_cases y : c k = 12
    · rw [if_pos y, if_pos y]
    · obtain ⟨_, k2, o2, _⟩ := r y
      rw [if_neg y, if_neg y, vo _ o2]
theorem tk_cong {pr : Nat → Int64} {s s' : Nat → Int32} {c cs os : Nat → Nat} {nm nu : Nat → Prop} {n : Nat} (hW : cd_W c nm n cs os nu) (h : ∀ v, v < 4 → nm v → s v = s' v) : ∀ d i, i + d = n → ∀ l, tk_ pr s c cs n i l = tk_ pr s' c cs n i l
  | 0, i, hi, l => by
    unfold tk_
    rw [show n - i = 0 from by omega]
    rfl
  | d + 1, i, hi, l => by
    have ih := tk_cong (pr := pr) hW h d (i + 1) (by omega)
    obtain ⟨_, co1, co2⟩ := cd_10 hW (k := i) (by omega)
    rcases Nat.eq_zero_or_pos (os i) with o | o
    · obtain ⟨t1, t2, _⟩ := co2 o
      rw [tk_e (s := s) (k := i) (by omega), tk_e (s := s') (k := i) (by omega), ih l, ih (cs i), ih (cs i - 1)]
      by_cases z : c i ≤ 13
      · rw [cm_cong hW h (by omega) o t1 z]
      · rw [if_neg z, if_neg z]
    · rw [tk_op (by omega) (co1 o).1, tk_op (by omega) (co1 o).1]
      exact ih l
theorem cv_cong {pr : Nat → Int64} {s s' : Nat → Int32} {c cs os : Nat → Nat} {nm nu : Nat → Prop} {n : Nat} (hW : n = 0 ∨ cd_W c nm n cs os nu) (h : ∀ v, v < 4 → nm v → s v = s' v) : cv_ pr s c cs n = cv_ pr s' c cs n := by
  unfold cv_
  rcases hW with z | hW
  · rw [decide_eq_true (Or.inl z), decide_eq_true (Or.inl z)]
  · rw [tk_cong hW h n 0 (by omega) 0]
/-- every match of Y's list has a node for each named variable -/
theorem mt_el {P : Nat} {V Lo Hi : Nat → Nat} {st : Nat → Bool} {ok : Nat → Nat → Bool} {al : Nat → Nat → Nat → Option Nat} {tru : (Nat → Int32) → Bool} (hal : ∀ k c p q, al k c p = some q → q < 8) {x : (Nat → Int32) × Int32} :
    ∀ f k n p s u, k < P → (st k = true ∨ p < 8) → s_ok s → (∀ j, j < k → ¬ s (V j) = -1) → x ∈ mt_Y P V Lo Hi st ok al tru f k n p s u → s_ok x.1 ∧ ∀ j, j < P → ¬ x.1 (V j) = -1
  | 0, k, n, p, s, u, _, _, _, _, hx => absurd hx List.not_mem_nil
  | f + 1, k, n, p, s, u, hk, hp, hs, hb, hx => by
    have ih := mt_el (Lo := Lo) (Hi := Hi) (ok := ok) (tru := tru) (st := st) (V := V) (P := P) hal (x := x) f
    have hb' : ∀ m : Nat, m < 8 → ∀ j, j < k + 1 → ¬ upd s (V k) (nI m) (V j) = -1 := fun m hm j hj => by
      by_cases z : V j = V k
      · rw [z, pk_us]; exact nI_m1 (by omega)
      · rw [pk_un z]
        by_cases y : j = k
        · subst y; exact absurd rfl z
        · exact hb j (by omega)
    have go : ∀ m : Nat, m < 8 → x ∈ (if k + 1 < P then mt_Y P V Lo Hi st ok al tru f (k + 1) 0 m (upd s (V k) (nI m)) u else if tru (upd s (V k) (nI m)) = true then [(upd s (V k) (nI m), u)] else []) → s_ok x.1 ∧ ∀ j, j < P → ¬ x.1 (V j) = -1 := fun m hm hx => by
      split at hx
      · next z => exact ih (k + 1) 0 m _ u z (Or.inr hm) (s_up hs hm) (hb' m hm) hx
      · split at hx
        · rw [List.mem_singleton.mp hx]
          exact ⟨s_up hs hm, fun j hj => hb' m hm j (by omega)⟩
        · exact absurd hx List.not_mem_nil
    unfold mt_Y at hx
    by_cases z : st k = true
    · rw [if_pos z] at hx
      obtain ⟨i, _, hi, hx⟩ := fm_mem hx
      split at hx
      · exact go i (by omega) hx
      · exact absurd hx List.not_mem_nil
    · rw [if_neg z] at hx
      have hp' := hp.resolve_left z
      rcases List.mem_append.mp hx with hx | hx
      · split at hx
        · exact go p hp' hx
        · exact absurd hx List.not_mem_nil
      · obtain ⟨i, _, hi, hx⟩ := fm_mem hx
        split at hx
        · exact absurd hx List.not_mem_nil
        · split at hx
          · exact absurd hx List.not_mem_nil
          · cases e : al k i p with
            | none => rw [e] at hx; exact absurd hx List.not_mem_nil
            | some q =>
              rw [e] at hx
              exact ih k (n + 1) q s _ hk (Or.inr (hal k i p q e)) hs hb hx
noncomputable def xf_ (P nn : Nat) (nT eT : Int32) (xla pva pwa pam pdi plo phi yfr yto yty : Nat → Int32) (ypr : Nat → Int64) (c cs : Nat → Nat) (cc : Nat) : List Int32 :=
  @ite (List Int32) (0 < P ∧ pa_ nT xla pva pwa P cc ∧ cv_ ypr (fun v => nI (dg cc v)) c cs nn = true) (Classical.propDecidable _) (fl_ P (Vf pva) (Vf plo) (Vf phi) (fe_ eT yfr yto yty pam pdi) (nx_ pam P) (dg cc)) []
variable {nT : Int32} {eT : Int32} {xlv : Int32} {xpc : Int32} {xqc : Int32} {xcc : Int32} {xec : Int32} {mc : Int32} {lw : Int32} {rc : Int32} {xla : Nat → Int32} {xpr : Nat → Int64} {xed : Nat → Int32} {sN : Nat → Int32} {sE : Nat → Int32} {sL : Nat → Int32} {sP : Nat → Int64} {sD : Nat → Int32} {pva : Nat → Int32} {pwa : Nat → Int32} {pam : Nat → Int32} {pdi : Nat → Int32} {plo : Nat → Int32} {phi : Nat → Int32} {ptk : Nat → Int32} {pco : Nat → Int32} {pex : Nat → Int32} {tr : Nat → Int32} {ds : Nat → Int32} {ch : Nat → Int32} {ar : Nat → Int32} {rN : Nat → Int32} {rM : Nat → Int32} {s1 : Nat → Int32} {s2 : Nat → Int32} {s3 : Nat → Int32} {s4 : Nat → Int32} {s5 : Nat → Int32}
variable {ylv : Int32} {ypc : Int32} {yqc : Int32} {ycc : Int32} {yec : Int32} {yde : Int32} {yus : Int32} {ywe : Int32} {yfo : Int32} {yli : Int32} {yso : Int32} {ysu : Int64} {yla : Nat → Int32} {ypr : Nat → Int64} {yfr : Nat → Int32} {yto : Nat → Int32} {yty : Nat → Int32} {ywt : Nat → Int32} {yst : Nat → Int32} {ypa : Nat → Int32} {ysp : Nat → Int32} {ypl : Nat → Int32} {ycp : Nat → Int32} {ybo : Nat → Int32} {ytk : Nat → Int32} {yno : Nat → Int32} {ych : Nat → Int32} {yfa : Nat → Int32}
theorem al_lt (hR : gr_R nT eT xla xpr xed yla ypr yfr yto yty ywt) {k c p q : Nat} (h : al_ eT yfr yto yty pam pdi k c p = some q) : q < 8 := by
  unfold al_ at h
  split at h
  · next z =>
    have he : c / 2 < 12 := by
      rcases Nat.lt_or_ge (c / 2) 12 with x | x
      · exact x
      · rw [hR.2.1 _ x] at z; exact absurd z.1 (by decide)
    rcases hR.2.2.2 _ he with ⟨_, f, t, y, w, hf, ht, _, _, _, _, _, e1, e2, _, _⟩ | ⟨a, _⟩
    · rw [e1, e2, nI_clamp (by omega), nI_clamp (by omega)] at h
      split at h
      · split at h
        · cases h; exact hf
        · exact absurd h (by simp)
      · split at h
        · cases h; exact ht
        · exact absurd h (by simp)
    · rw [a] at z; exact absurd z.1 (by decide)
  · exact absurd h (by simp)
theorem xf_xl {P nn : Nat} {c cs : Nat → Nat} (hP : 0 < P) : xl_ P nn nT eT xla pva pwa pam pdi plo phi yfr yto yty ypr c cs (xf_ P nn nT eT xla pva pwa pam pdi plo phi yfr yto yty ypr c cs) := by
  intro cc _
  unfold xf_
  refine ⟨fun h => ⟨fun e => if_pos ⟨hP, h, e⟩, fun e => if_neg (fun q => ?_)⟩, fun h => if_neg (fun q => h q.2.1)⟩
  rw [e] at q
  exact absurd q.2.2 (by decide)
theorem xf_0 {P nn : Nat} {c cs : Nat → Nat} (hP : P = 0) (i : Nat) : xf_ P nn nT eT xla pva pwa pam pdi plo phi yfr yto yty ypr c cs i = [] := by
  unfold xf_
  exact if_neg (fun q => by omega)
theorem ok_la (hR : gr_R nT eT xla xpr xed yla ypr yfr yto yty ywt) {k m : Nat} (hm : m < 8) : ok_ nT yla pwa k m = true ↔ (bt nT m = true ∧ (xla m &&& pwa k) = pwa k) := by
  unfold ok_
  rw [Bool.and_eq_true, Bool.and_eq_true, decide_eq_true_eq, decide_eq_true_eq]
  constructor
  · rintro ⟨_, b, l⟩
    rcases hR.2.2.1 m hm with ⟨_, ⟨l', _, e1, e2⟩, _⟩ | ⟨q, _⟩
    · rw [e2] at l; rw [e1]; exact ⟨b, l⟩
    · rw [b] at q; exact absurd q (by decide)
  · rintro ⟨b, l⟩
    rcases hR.2.2.1 m hm with ⟨_, ⟨l', _, e1, e2⟩, _⟩ | ⟨q, _⟩
    · rw [e1] at l; rw [e2]; exact ⟨hm, b, l⟩
    · rw [b] at q; exact absurd q (by decide)
theorem sel_xf {P nn : Nat} {c cs os : Nat → Nat} {nu : Nat → Prop} {s : Nat → Int32} (hP : P ≤ 6) (hp : ∀ k, k < P → qu_P pva pwa pam pdi plo phi k) (hH : qu_H pam phi P ≤ 5) (hR : gr_R nT eT xla xpr xed yla ypr yfr yto yty ywt) (hW : nn = 0 ∨ cd_W c (nm_P pva P) nn cs os nu) (hs : ∀ v, v < 4 → s v = -1) {cc : Nat} (hc : cc < 4096) :
    (sel cc (ly_ P (Vf pva) (Vf plo) (Vf phi) (stp pam) (ok_ nT yla pwa) (al_ eT yfr yto yty pam pdi) (trp ypr c cs nn) s)).Perm (xf_ P nn nT eT xla pva pwa pam pdi plo phi yfr yto yty ypr c cs cc) := by
  rcases Nat.eq_zero_or_pos P with z | z
  · rw [xf_0 z cc]
    unfold ly_
    rw [if_neg (by omega)]
    exact List.Perm.refl _
  unfold ly_
  rw [if_pos z]
  have h00 : pam 0 = 0 := by
    obtain ⟨_, _, _, v⟩ := q_f (hp 0 z)
    by_cases q : pam 0 = 0
    · exact q
    · exact absurd (v q).1 (Nat.lt_irrefl 0)
  have hV : ∀ k, k < P → Vf pva k < 4 := fun k hk => (q_f (hp k hk)).2.1
  have htru : ∀ s', s_ok s' → (∀ j, j < P → s' (Vf pva j) = nI (dg cc (Vf pva j))) → trp ypr c cs nn s' = cv_ ypr (fun v => nI (dg cc v)) c cs nn := fun s' _ h' => by
    refine cv_cong hW (fun v hv hn => ?_)
    obtain ⟨j, hj, e⟩ := hn
    obtain ⟨b1, b2, _, _⟩ := q_f (hp j hj)
    have ev : Vf pva j = v := (nI_eq (by omega) (by omega)).mp (b1.symm.trans e)
    rw [← ev]
    exact h' j hj
  have Y := mt_YT (Lo := Vf plo) (Hi := Vf phi) (st := stp pam) (ok := ok_ nT yla pwa) (al := al_ eT yfr yto yty pam pdi) hc htru hV (fun k c p q h => al_lt hR h) 14 0 0 0 s 0 z (Or.inl (decide_eq_true h00)) (s_m1 hs) (fun j hj => absurd hj (Nat.not_lt_zero j))
  have shp := sh_of hp
  by_cases pc : pa_ nT xla pva pwa P cc
  · have hcp : cp P (Vf pva) s 0 cc := fun v hv => by
      refine Or.inr ⟨hs v hv, ?_⟩
      rcases pc v hv with ⟨⟨j, hj, e⟩, _⟩ | ⟨_, q⟩
      · obtain ⟨b1, b2, _, _⟩ := q_f (hp j hj)
        exact Or.inr ⟨j, Nat.zero_le j, hj, (nI_eq (by omega) (by omega)).mp (b1.symm.trans e)⟩
      · exact Or.inl q
    have hok : ∀ k, k < P → ok_ nT yla pwa k (dg cc (Vf pva k)) = true := fun k hk => by
      rw [ok_la hR (dg_lt _ _)]
      rcases pc (Vf pva k) (hV k hk) with ⟨_, b, l⟩ | ⟨q, _⟩
      · exact ⟨b, l k hk rfl⟩
      · exact absurd ⟨k, hk, (q_f (hp k hk)).1⟩ q
    rw [Y.1 hcp]
    cases e : cv_ ypr (fun v => nI (dg cc v)) c cs nn with
    | false =>
      rw [if_neg (by decide)]
      rw [((xf_xl z cc hc).1 pc).2 e]
    | true =>
      rw [if_pos rfl, ((xf_xl z cc hc).1 pc).1 e]
      exact mt_fl (fe := fe_ eT yfr yto yty pam pdi) shp hok (fun k e p hk hst => al_fe ((q_f (hp k hk)).2.2.2 (of_decide_eq_false hst)).2.1) z hP (decide_eq_true h00) hH rfl 0
  · rw [(xf_xl z cc hc).2 pc]
    by_cases hcp : cp P (Vf pva) s 0 cc
    · have : ∃ j, j < P ∧ ok_ nT yla pwa j (dg cc (Vf pva j)) = false := by
        refine Classical.byContradiction (fun no => pc (fun v hv => ?_))
        have all : ∀ j, j < P → ok_ nT yla pwa j (dg cc (Vf pva j)) = true := fun j hj => by
          cases e : ok_ nT yla pwa j (dg cc (Vf pva j)) with
          | true => rfl
          | false => exact absurd ⟨j, hj, e⟩ no
        by_cases hn : nm_P pva P v
        · obtain ⟨j, hj, e⟩ := hn
          obtain ⟨b1, b2, _, _⟩ := q_f (hp j hj)
          have ev : Vf pva j = v := (nI_eq (by omega) (by omega)).mp (b1.symm.trans e)
          have o := (ok_la hR (dg_lt _ _)).mp (all j hj)
          rw [ev] at o
          refine Or.inl ⟨⟨j, hj, e⟩, o.1, fun k hk ek => ?_⟩
          have o2 := (ok_la hR (dg_lt _ _)).mp (all k hk)
          rw [ek] at o2
          exact o2.2
        · refine Or.inr ⟨hn, ?_⟩
          rcases hcp v hv with q | ⟨_, q | ⟨j, _, hj, ej⟩⟩
          · have := hs v hv
            rw [q] at this
            exact absurd this (nI_m1 (by have := dg_lt cc v; omega))
          · exact q
          · exact absurd ⟨j, hj, by rw [← ej]; exact (q_f (hp j hj)).1⟩ hn
      obtain ⟨j, hj, e⟩ := this
      rw [Y.1 hcp, mt_no hj e 14 0 0 0 0 (Nat.zero_le j)]
      split <;> exact List.Perm.refl _
    · rw [Y.2 hcp]
theorem ly_el {P nn v : Nat} {c cs : Nat → Nat} {s : Nat → Int32} (hp : ∀ k, k < P → qu_P pva pwa pam pdi plo phi k) (hR : gr_R nT eT xla xpr xed yla ypr yfr yto yty ywt) (hs : ∀ v, v < 4 → s v = -1) : (∀ x, x ∈ ly_ P (Vf pva) (Vf plo) (Vf phi) (stp pam) (ok_ nT yla pwa) (al_ eT yfr yto yty pam pdi) (trp ypr c cs nn) s → cde x.1 < 4096) ∧ (v < 4 → nm_P pva P v → bd_ v (ly_ P (Vf pva) (Vf plo) (Vf phi) (stp pam) (ok_ nT yla pwa) (al_ eT yfr yto yty pam pdi) (trp ypr c cs nn) s)) := by
  rcases Nat.eq_zero_or_pos P with z | z
  · unfold ly_
    rw [if_neg (by omega)]
    exact ⟨fun x hx => absurd hx List.not_mem_nil, fun _ _ x hx => absurd hx List.not_mem_nil⟩
  unfold ly_
  rw [if_pos z]
  have h00 : pam 0 = 0 := by
    obtain ⟨_, _, _, v⟩ := q_f (hp 0 z)
    by_cases q : pam 0 = 0
    · exact q
    · exact absurd (v q).1 (Nat.lt_irrefl 0)
  have E := fun x (hx : x ∈ mt_Y P (Vf pva) (Vf plo) (Vf phi) (stp pam) (ok_ nT yla pwa) (al_ eT yfr yto yty pam pdi) (trp ypr c cs nn) 14 0 0 0 s 0) => mt_el (fun k c p q h => al_lt hR h) 14 0 0 0 s 0 z (Or.inl (decide_eq_true h00)) (s_m1 hs) (fun j hj => absurd hj (Nat.not_lt_zero j)) hx
  refine ⟨fun x hx => (cde_dg (E x hx).1).1, fun hv hn x hx => ⟨(E x hx).1, ?_⟩⟩
  obtain ⟨j, hj, e⟩ := hn
  obtain ⟨b1, b2, _, _⟩ := q_f (hp j hj)
  have ev : Vf pva j = v := (nI_eq (by omega) (by omega)).mp (b1.symm.trans e)
  rw [← ev]
  exact (E x hx).2 j hj
end
section
/-! the answers taken from the matches -/
theorem rr_ex {X : Nat → List Int32} {k : Nat} : ∀ N, k < rr_ X N → ∃ c, c < N ∧ ¬ X c = [] ∧ rr_ X c = k
  | 0, h => absurd h (Nat.not_lt_zero k)
  | N + 1, h => by
    rcases Nat.lt_or_ge k (rr_ X N) with z | z
    · obtain ⟨c, a, b⟩ := rr_ex N z
      exact ⟨c, by omega, b⟩
    · by_cases q : X N = []
      · have : rr_ X (N + 1) = rr_ X N := by show rr_ X N + _ = _; rw [if_pos q]; rfl
        omega
      · have := rr_1 q
        exact ⟨N, by omega, q, by omega⟩
theorem rr_n {X : Nat → List Int32} {c : Nat} (h : X c = []) : rr_ X (c + 1) = rr_ X c := by show rr_ X c + _ = _; rw [if_pos h]; rfl
theorem rr_N (X : Nat → List Int32) : ∀ c, rr_ X c ≤ c
  | 0 => Nat.le_refl 0
  | c + 1 => by
    have := rr_N X c
    show rr_ X c + (if X c = [] then 0 else 1) ≤ c + 1
    split <;> omega
theorem cw_of {P nn : Nat} {pva : Nat → Int32} {c : Nat → Nat} (hP : P ≤ 6) (h : nn = 0 ∨ ∃ cs os nu, cd_W c (fun v => ∃ k P', k < P' ∧ P' ≤ 6 ∧ nI P = nI P' ∧ pva k = nI v) nn cs os nu) : ∃ cs os nu, nn = 0 ∨ cd_W c (nm_P pva P) nn cs os nu := by
  rcases h with z | ⟨cs, os, nu, h⟩
  · exact ⟨fun _ => 0, fun _ => 0, fun _ => False, Or.inl z⟩
  · refine ⟨cs, os, nu, Or.inr (cd_mono h ?_)⟩
    rintro v ⟨k, P', h1, h2, h3, h4⟩
    have e : P = P' := (nI_eq (by omega) (by omega)).mp h3
    exact ⟨k, by omega, h4⟩
theorem tg_rowx {c v : Nat} (hv : v < 4) : ((nI (pkc c) >>> ((3 * nI v) &&& 31)) &&& 7) = nI (dg c v) := by
  have h0 := dg_lt c 0
  have h1 := dg_lt c 1
  have h2 := dg_lt c 2
  have h3 := dg_lt c 3
  unfold pkc
  have : v = 0 ∨ v = 1 ∨ v = 2 ∨ v = 3 := by omega
  rcases this with rfl | rfl | rfl | rfl
  · rw [pk_shrN (by omega) _ 0 (by decide), pk_andN (by omega) (m := 7) 3 (by decide)]; exact congrArg nI (by omega)
  · rw [pk_shrN (by omega) _ 3 (by decide), pk_andN (by omega) (m := 7) 3 (by decide)]; exact congrArg nI (by omega)
  · rw [pk_shrN (by omega) _ 6 (by decide), pk_andN (by omega) (m := 7) 3 (by decide)]; exact congrArg nI (by omega)
  · rw [pk_shrN (by omega) _ 9 (by decide), pk_andN (by omega) (m := 7) 3 (by decide)]; exact congrArg nI (by omega)
theorem tg_rowy {c v : Nat} (hc : c < 4096) (hv : v < 4) : ((nI c >>> ((9 - (3 * nI v)) &&& 31)) &&& 7) = nI (dg c v) := by
  unfold dg
  have : v = 0 ∨ v = 1 ∨ v = 2 ∨ v = 3 := by omega
  rcases this with rfl | rfl | rfl | rfl
  · rw [pk_shrN (by omega) _ 9 (by decide), pk_andN (by omega) (m := 7) 3 (by decide)]
  · rw [pk_shrN (by omega) _ 6 (by decide), pk_andN (by omega) (m := 7) 3 (by decide)]
  · rw [pk_shrN (by omega) _ 3 (by decide), pk_andN (by omega) (m := 7) 3 (by decide)]
  · rw [pk_shrN (by omega) _ 0 (by decide), pk_andN (by omega) (m := 7) 3 (by decide)]
variable {nT : Int32} {eT : Int32} {xlv : Int32} {xpc : Int32} {xqc : Int32} {xcc : Int32} {xec : Int32} {mc : Int32} {lw : Int32} {rc : Int32} {xla : Nat → Int32} {xpr : Nat → Int64} {xed : Nat → Int32} {sN : Nat → Int32} {sE : Nat → Int32} {sL : Nat → Int32} {sP : Nat → Int64} {sD : Nat → Int32} {pva : Nat → Int32} {pwa : Nat → Int32} {pam : Nat → Int32} {pdi : Nat → Int32} {plo : Nat → Int32} {phi : Nat → Int32} {ptk : Nat → Int32} {pco : Nat → Int32} {pex : Nat → Int32} {tr : Nat → Int32} {ds : Nat → Int32} {ch : Nat → Int32} {ar : Nat → Int32} {rN : Nat → Int32} {rM : Nat → Int32} {s1 : Nat → Int32} {s2 : Nat → Int32} {s3 : Nat → Int32} {s4 : Nat → Int32} {s5 : Nat → Int32}
variable {ylv : Int32} {ypc : Int32} {yqc : Int32} {ycc : Int32} {yec : Int32} {yde : Int32} {yus : Int32} {ywe : Int32} {yfo : Int32} {yli : Int32} {yso : Int32} {ysu : Int64} {yla : Nat → Int32} {ypr : Nat → Int64} {yfr : Nat → Int32} {yto : Nat → Int32} {yty : Nat → Int32} {ywt : Nat → Int32} {yst : Nat → Int32} {ypa : Nat → Int32} {ysp : Nat → Int32} {ypl : Nat → Int32} {ycp : Nat → Int32} {ybo : Nat → Int32} {ytk : Nat → Int32} {yno : Nat → Int32} {ych : Nat → Int32} {yfa : Nat → Int32}
theorem lk_ {P nn : Nat} {c cs os : Nat → Nat} {nu : Nat → Prop} {s : Nat → Int32} (hP : P ≤ 6) (hp : ∀ k, k < P → qu_P pva pwa pam pdi plo phi k) (hH : qu_H pam phi P ≤ 5) (hR : gr_R nT eT xla xpr xed yla ypr yfr yto yty ywt) (hW : nn = 0 ∨ cd_W c (nm_P pva P) nn cs os nu) (hs : ∀ v, v < 4 → s v = -1) :
    (ly_ P (Vf pva) (Vf plo) (Vf phi) (stp pam) (ok_ nT yla pwa) (al_ eT yfr yto yty pam pdi) (trp ypr c cs nn) s).length = sm_ (xf_ P nn nT eT xla pva pwa pam pdi plo phi yfr yto yty ypr c cs) 4096 ∧ (∀ i, i < 4096 → (sel i (ly_ P (Vf pva) (Vf plo) (Vf phi) (stp pam) (ok_ nT yla pwa) (al_ eT yfr yto yty pam pdi) (trp ypr c cs nn) s) = [] ↔ (xf_ P nn nT eT xla pva pwa pam pdi plo phi yfr yto yty ypr c cs) i = [])) ∧ (∀ i, i < 4096 → (sel i (ly_ P (Vf pva) (Vf plo) (Vf phi) (stp pam) (ok_ nT yla pwa) (al_ eT yfr yto yty pam pdi) (trp ypr c cs nn) s)).length = ((xf_ P nn nT eT xla pva pwa pam pdi plo phi yfr yto yty ypr c cs) i).length) ∧ lm_ (ws_ ywt) 1000000 ((ly_ P (Vf pva) (Vf plo) (Vf phi) (stp pam) (ok_ nT yla pwa) (al_ eT yfr yto yty pam pdi) (trp ypr c cs nn) s).map Prod.snd) = ml_ (ws_ ywt) (xf_ P nn nT eT xla pva pwa pam pdi plo phi yfr yto yty ypr c cs) 4096 := by
  have pm := fun i (hi : i < 4096) => sel_xf hP hp hH hR hW hs hi
  obtain ⟨el, _⟩ := ly_el (v := 0) (nn := nn) (c := c) (cs := cs) hp hR hs
  refine ⟨?_, fun i hi => ⟨fun q => ?_, fun q => ?_⟩, fun i hi => (pm i hi).length_eq, ?_⟩
  · rw [← sm_sel _ el]
    exact sm_e (fun i hi => (pm i hi).length_eq)
  · have := (pm i hi).length_eq
    rw [q] at this
    exact List.eq_nil_of_length_eq_zero this.symm
  · have := (pm i hi).length_eq
    rw [q] at this
    exact List.eq_nil_of_length_eq_zero this
  · refine (ml_lm _ _ _ (fun u => ?_)).symm
    rw [mem_sel u _ el]
    exact ⟨fun ⟨i, hi, q⟩ => ⟨i, hi, (pm i hi).mem_iff.mp q⟩, fun ⟨i, hi, q⟩ => ⟨i, hi, (pm i hi).mem_iff.mpr q⟩⟩
theorem i_vc_matches {k : Nat} {u : SX} {v : SY} (I : i_Rel k u v) (hk : k + 7 ≤ 3584) : wpX_matches (fun r u' => wpY_matches (fun r' v' => r' = r ∧ i_Rel (k + 7) u' v') v) u := by
  obtain ⟨nT, eT, xlv, xpc, xqc, xcc, xec, mc, lw, rc, xla, xpr, xed, sN, sE, sL, sP, sD, pva, pwa, pam, pdi, plo, phi, ptk, pco, pex, tr, ds, ch, ar, rN, rM, s1, s2, s3, s4, s5⟩ := u
  obtain ⟨ylv, ypc, yqc, ycc, yec, yde, yus, ywe, yfo, yli, yso, ysu, yla, ypr, yfr, yto, yty, ywt, qpva, qpwa, qpam, qpdi, qplo, qphi, qptk, qpco, qpex, yst, ypa, ysp, ypl, ycp, ybo, ytk, yno, ych, yfa⟩ := v
  obtain ⟨⟨rfl, rfl, rfl, rfl, rfl, rfl, rfl, rfl, rfl⟩, hG, hQ, hT, hC, hE⟩ := I
  obtain ⟨P, hP, rfl, rfl, hp, hH⟩ := hQ
  have hQ : rl_Q (nI P) (nI P) pva pwa pam pdi plo phi := ⟨P, hP, rfl, rfl, hp, hH⟩
  have hC' := hC
  obtain ⟨nn, c, hn, rfl, rfl, hco, hW0⟩ := hC
  obtain ⟨cs, os, nu, hW⟩ := cw_of (pva := pva) hP hW0
  have hR := hG.1
  unfold wpX_matches wpY_matches
  refine xs_ hP hp hR hn hco hW (fun z => xf_xl z) (fun z i => xf_0 z i) (fun mc lw rc rN rM tr ch ar s1 s2 s3 s4 s5 hs => ?_)
  rcases hs with ⟨a, rfl, rfl, rfl, _⟩ | ⟨a, rfl⟩
  · refine br_t (nI_le (b := 1000) a (by omega)) (ys_ (v := 0) hP hp hH hR hn hco hW (by omega) (fun s h1 h2 => ?_) (fun s h1 h2 ch0 h3 yde yus ywe yst ypa ysp ypl ycp ybo ytk yno => br_t (nI_le (b := 1000) h2 (by omega)) ⟨?_, rl_mk _ hG hQ hT hC' hE⟩))
    · rw [(lk_ hP hp hH hR hW h1).1] at h2; omega
    · rw [(lk_ hP hp hH hR hW h1).1]
  · refine br_f (by decide) (ys_ (v := 0) hP hp hH hR hn hco hW (by omega) (fun s h1 h2 yde yus ywe yli yso ysu yst ypa ysp ypl ycp ybo ytk yno ych => br_f (by decide) ⟨rfl, rl_mk _ hG hQ hT hC' hE⟩) (fun s h1 h2 => ?_))
    rw [(lk_ hP hp hH hR hW h1).1] at h2; omega
theorem yl_ {post : Int32 → SY → Prop} {P nn : Nat} {c cs os : Nat → Nat} {nu : Nat → Prop} (hP : P ≤ 6) (hp : ∀ k, k < P → qu_P pva pwa pam pdi plo phi k) (hH : qu_H pam phi P ≤ 5) (hR : gr_R nT eT xla xpr xed yla ypr yfr yto yty ywt) (hn : nn ≤ 12) (hco : ∀ k, k < nn → pco k = nI (c k)) (hW : nn = 0 ∨ cd_W c (nm_P pva P) nn cs os nu) (a : sm_ (xf_ P nn nT eT xla pva pwa pam pdi plo phi yfr yto yty ypr c cs) 4096 ≤ 1000)
    (h0 : sm_ (xf_ P nn nT eT xla pva pwa pam pdi plo phi yfr yto yty ypr c cs) 4096 = 0 → ∀ yde yus ywe yfo yli yso ysu (yst ypa ysp ypl ycp ybo ytk yno ych : Nat → Int32), post (-1) (ylv, (nI P), yqc, (nI nn), yec, yde, yus, ywe, yfo, yli, yso, ysu, yla, ypr, yfr, yto, yty, ywt, pva, pwa, pam, pdi, plo, phi, ptk, pco, pex, yst, ypa, ysp, ypl, ycp, ybo, ytk, yno, ych, yfa)) (h1 : 0 < sm_ (xf_ P nn nT eT xla pva pwa pam pdi plo phi yfr yto yty ypr c cs) 4096 → ∀ yde yus ywe yfo yli yso ysu (yst ypa ysp ypl ycp ybo ytk yno ych : Nat → Int32), post (nI (ml_ (ws_ ywt) (xf_ P nn nT eT xla pva pwa pam pdi plo phi yfr yto yty ypr c cs) 4096)) (ylv, (nI P), yqc, (nI nn), yec, yde, yus, ywe, yfo, yli, yso, ysu, yla, ypr, yfr, yto, yty, ywt, pva, pwa, pam, pdi, plo, phi, ptk, pco, pex, yst, ypa, ysp, ypl, ycp, ybo, ytk, yno, ych, yfa)) : wpY_least post (ylv, (nI P), yqc, (nI nn), yec, yde, yus, ywe, yfo, yli, yso, ysu, yla, ypr, yfr, yto, yty, ywt, pva, pwa, pam, pdi, plo, phi, ptk, pco, pex, yst, ypa, ysp, ypl, ycp, ybo, ytk, yno, ych, yfa) := by
  unfold wpY_least
  refine ys_ (v := 0) hP hp hH hR hn hco hW (by omega) (fun s h1 h2 => ?_) (fun s h1' h2 ch0 h3 yde yus ywe yst ypa ysp ypl ycp ybo ytk yno => ?_)
  · rw [(lk_ hP hp hH hR hW h1).1] at h2; omega
  · obtain ⟨l1, _, _, l4⟩ := lk_ hP hp hH hR hW h1'
    rw [l1, l4]
    refine br_f (nI_nlt (b := sm_ (xf_ P nn nT eT xla pva pwa pam pdi plo phi yfr yto yty ypr c cs) 4096) (a := 1000) a (by omega)) ?_
    rcases Nat.eq_zero_or_pos (sm_ (xf_ P nn nT eT xla pva pwa pam pdi plo phi yfr yto yty ypr c cs) 4096) with z | z
    · exact br_t (by rw [z]; rfl) (h0 z _ _ _ _ _ _ _ _ _ _ _ _ _ _ _ _)
    · exact br_f (nI_ne0 z (by omega)) (h1 z _ _ _ _ _ _ _ _ _ _ _ _ _ _ _ _)
theorem i_vc_least {k : Nat} {u : SX} {v : SY} (I : i_Rel k u v) (hk : k + 7 ≤ 3584) : wpX_least (fun r u' => wpY_least (fun r' v' => r' = r ∧ i_Rel (k + 7) u' v') v) u := by
  obtain ⟨nT, eT, xlv, xpc, xqc, xcc, xec, mc, lw, rc, xla, xpr, xed, sN, sE, sL, sP, sD, pva, pwa, pam, pdi, plo, phi, ptk, pco, pex, tr, ds, ch, ar, rN, rM, s1, s2, s3, s4, s5⟩ := u
  obtain ⟨ylv, ypc, yqc, ycc, yec, yde, yus, ywe, yfo, yli, yso, ysu, yla, ypr, yfr, yto, yty, ywt, qpva, qpwa, qpam, qpdi, qplo, qphi, qptk, qpco, qpex, yst, ypa, ysp, ypl, ycp, ybo, ytk, yno, ych, yfa⟩ := v
  obtain ⟨⟨rfl, rfl, rfl, rfl, rfl, rfl, rfl, rfl, rfl⟩, hG, hQ, hT, hC, hE⟩ := I
  obtain ⟨P, hP, rfl, rfl, hp, hH⟩ := hQ
  have hQ : rl_Q (nI P) (nI P) pva pwa pam pdi plo phi := ⟨P, hP, rfl, rfl, hp, hH⟩
  have hC' := hC
  obtain ⟨nn, c, hn, rfl, rfl, hco, hW0⟩ := hC
  obtain ⟨cs, os, nu, hW⟩ := cw_of (pva := pva) hP hW0
  have hR := hG.1
  unfold wpX_least
  refine xs_ hP hp hR hn hco hW (fun z => xf_xl z) (fun z i => xf_0 z i) (fun mc lw rc rN rM tr ch ar s1 s2 s3 s4 s5 hs => ?_)
  rcases hs with ⟨a, rfl, rfl, rfl, _⟩ | ⟨a, rfl⟩
  · rcases Nat.eq_zero_or_pos (sm_ (xf_ P nn nT eT xla pva pwa pam pdi plo phi yfr yto yty ypr c cs) 4096) with z | z
    · refine br_t (by rw [z]; rfl) (yl_ hP hp hH hR hn hco hW a ?_ (fun q => absurd q (by omega)))
      exact fun _ _ _ _ _ _ _ _ _ _ _ _ _ _ _ _ _ => ⟨rfl, rl_mk _ hG hQ hT hC' hE⟩
    · refine br_f (nI_ne0 z (by omega)) (br_t (nI_le (b := 1000) a (by omega)) (yl_ hP hp hH hR hn hco hW a (fun q => absurd q (by omega)) ?_))
      exact fun _ _ _ _ _ _ _ _ _ _ _ _ _ _ _ _ _ => ⟨rfl, rl_mk _ hG hQ hT hC' hE⟩
  · unfold wpY_least
    refine br_f (by decide) (br_f (by decide) (ys_ (v := 0) hP hp hH hR hn hco hW (by omega) (fun s h1 h2 yde yus ywe yli yso ysu yst ypa ysp ypl ycp ybo ytk yno ych => br_t (by decide) ⟨rfl, rl_mk _ hG hQ hT hC' hE⟩) (fun s h1 h2 => ?_)))
    rw [(lk_ hP hp hH hR hW h1).1] at h2; omega
theorem yr_l {post : Int32 → SY → Prop} (h : ∀ x, (yfo ≤ 1000 → post x (ylv, ypc, yqc, ycc, yec, yde, yus, ywe, yfo, yli, yso, ysu, yla, ypr, yfr, yto, yty, ywt, pva, pwa, pam, pdi, plo, phi, ptk, pco, pex, yst, ypa, ysp, ypl, ycp, ybo, ytk, yno, ych, yfa)) ∧ (¬ yfo ≤ 1000 → post (-3) (ylv, ypc, yqc, ycc, yec, yde, yus, ywe, yfo, yli, yso, ysu, yla, ypr, yfr, yto, yty, ywt, pva, pwa, pam, pdi, plo, phi, ptk, pco, pex, yst, ypa, ysp, ypl, ycp, ybo, ytk, yno, ych, yfa))) : ∀ d i x, i + d = 4096 → wY_rows_9 post ylv ypc yqc ycc yec yde yus ywe yfo yli yso ysu yla ypr yfr yto yty ywt pva pwa pam pdi plo phi ptk pco pex yst ypa ysp ypl ycp ybo ytk yno ych yfa (d + 1) x (nI i) := by
  intro d
  induction d with
  | zero =>
    intro i x hi
    exact br_t (nI_le (a := 4096) (by omega) (by omega)) (h x)
  | succ d ih =>
    intro i x hi
    exact br_f (nI_ge (b := 4096) (by omega) (by decide)) ⟨vp_in_nI (by omega) (by omega), br_c (fun _ => nm_r (nI_1 i) (ih (i + 1) x (by omega))) (fun _ => nm_e (nm_r (nI_1 i) (ih (i + 1) _ (by omega))))⟩
theorem yr_c {post : Int32 → SY → Prop} {X : Nat → List Int32} (hc : ∀ i, i < 4096 → ych i = if X i = [] then 0 else 1) (h : (yfo ≤ 1000 → post (nI (rr_ X 4096)) (ylv, ypc, yqc, ycc, yec, yde, yus, ywe, yfo, yli, yso, ysu, yla, ypr, yfr, yto, yty, ywt, pva, pwa, pam, pdi, plo, phi, ptk, pco, pex, yst, ypa, ysp, ypl, ycp, ybo, ytk, yno, ych, yfa)) ∧ (¬ yfo ≤ 1000 → post (-3) (ylv, ypc, yqc, ycc, yec, yde, yus, ywe, yfo, yli, yso, ysu, yla, ypr, yfr, yto, yty, ywt, pva, pwa, pam, pdi, plo, phi, ptk, pco, pex, yst, ypa, ysp, ypl, ycp, ybo, ytk, yno, ych, yfa))) : ∀ d i, i + d = 4096 → wY_rows_9 post ylv ypc yqc ycc yec yde yus ywe yfo yli yso ysu yla ypr yfr yto yty ywt pva pwa pam pdi plo phi ptk pco pex yst ypa ysp ypl ycp ybo ytk yno ych yfa (d + 1) (nI (rr_ X i)) (nI i) := by
  intro d
  induction d with
  | zero =>
    intro i hi
    have e : i = 4096 := by omega
    subst e
    exact br_t (nI_le (a := 4096) (by omega) (by omega)) h
  | succ d ih =>
    intro i hi
    have nx := ih (i + 1) (by omega)
    refine br_f (nI_ge (b := 4096) (by omega) (by decide)) ⟨vp_in_nI (by omega) (by omega), ?_⟩
    rw [nI_clamp (by omega), hc i (by omega)]
    by_cases z : X i = []
    · rw [rr_n z] at nx
      rw [if_pos z]
      exact br_t rfl (nm_r (nI_1 i) nx)
    · rw [rr_1 z] at nx
      rw [if_neg z]
      exact br_f tg_10 (nm_r (nI_1 _) (nm_r (nI_1 i) nx))
theorem i_vc_rows {k : Nat} {u : SX} {v : SY} (I : i_Rel k u v) (hk : k + 7 ≤ 3584) : wpX_rows (fun r u' => wpY_rows (fun r' v' => r' = r ∧ i_Rel (k + 7) u' v') v) u := by
  obtain ⟨nT, eT, xlv, xpc, xqc, xcc, xec, mc, lw, rc, xla, xpr, xed, sN, sE, sL, sP, sD, pva, pwa, pam, pdi, plo, phi, ptk, pco, pex, tr, ds, ch, ar, rN, rM, s1, s2, s3, s4, s5⟩ := u
  obtain ⟨ylv, ypc, yqc, ycc, yec, yde, yus, ywe, yfo, yli, yso, ysu, yla, ypr, yfr, yto, yty, ywt, qpva, qpwa, qpam, qpdi, qplo, qphi, qptk, qpco, qpex, yst, ypa, ysp, ypl, ycp, ybo, ytk, yno, ych, yfa⟩ := v
  obtain ⟨⟨rfl, rfl, rfl, rfl, rfl, rfl, rfl, rfl, rfl⟩, hG, hQ, hT, hC, hE⟩ := I
  obtain ⟨P, hP, rfl, rfl, hp, hH⟩ := hQ
  have hQ : rl_Q (nI P) (nI P) pva pwa pam pdi plo phi := ⟨P, hP, rfl, rfl, hp, hH⟩
  have hC' := hC
  obtain ⟨nn, c, hn, rfl, rfl, hco, hW0⟩ := hC
  obtain ⟨cs, os, nu, hW⟩ := cw_of (pva := pva) hP hW0
  have hR := hG.1
  unfold wpX_rows wpY_rows
  refine xs_ hP hp hR hn hco hW (fun z => xf_xl z) (fun z i => xf_0 z i) (fun mc lw rc rN rM tr ch ar s1 s2 s3 s4 s5 hs => ?_)
  rcases hs with ⟨a, rfl, rfl, rfl, _⟩ | ⟨a, rfl⟩
  · refine br_t (nI_le (b := 1000) a (by omega)) (ys_ (v := 0) hP hp hH hR hn hco hW (by omega) (fun s h1 h2 => ?_) (fun s h1 h2 ch0 h3 yde yus ywe yst ypa ysp ypl ycp ybo ytk yno => ⟨4097, ?_⟩))
    · rw [(lk_ hP hp hH hR hW h1).1] at h2; omega
    · obtain ⟨l1, l2, _, _⟩ := lk_ hP hp hH hR hW h1
      refine yr_c (X := (xf_ P nn nT eT xla pva pwa pam pdi plo phi yfr yto yty ypr c cs)) (fun i hi => ?_) (br_t (nI_le (b := 1000) h2 (by omega)) ⟨rfl, rl_mk _ hG hQ hT hC' hE⟩) 4096 0 (by omega)
      rw [yc_sel, h3 i hi]
      by_cases z : (xf_ P nn nT eT xla pva pwa pam pdi plo phi yfr yto yty ypr c cs) i = []
      · rw [if_pos z, if_pos ((l2 i hi).mpr z)]
      · rw [if_neg z, if_neg (fun q => z ((l2 i hi).mp q))]
  · refine br_f (by decide) (ys_ (v := 0) hP hp hH hR hn hco hW (by omega) (fun s h1 h2 yde yus ywe yli yso ysu yst ypa ysp ypl ycp ybo ytk yno ych => ⟨4097, yr_l (fun x => br_f (by decide) ⟨rfl, rl_mk _ hG hQ hT hC' hE⟩) 4096 0 0 (by omega)⟩) (fun s h1 h2 => ?_))
    rw [(lk_ hP hp hH hR hW h1).1] at h2; omega
end
section
/-! row -/
variable {nT : Int32} {eT : Int32} {xlv : Int32} {xpc : Int32} {xqc : Int32} {xcc : Int32} {xec : Int32} {mc : Int32} {lw : Int32} {rc : Int32} {xla : Nat → Int32} {xpr : Nat → Int64} {xed : Nat → Int32} {sN : Nat → Int32} {sE : Nat → Int32} {sL : Nat → Int32} {sP : Nat → Int64} {sD : Nat → Int32} {pva : Nat → Int32} {pwa : Nat → Int32} {pam : Nat → Int32} {pdi : Nat → Int32} {plo : Nat → Int32} {phi : Nat → Int32} {ptk : Nat → Int32} {pco : Nat → Int32} {pex : Nat → Int32} {tr : Nat → Int32} {ds : Nat → Int32} {ch : Nat → Int32} {ar : Nat → Int32} {rN : Nat → Int32} {rM : Nat → Int32} {s1 : Nat → Int32} {s2 : Nat → Int32} {s3 : Nat → Int32} {s4 : Nat → Int32} {s5 : Nat → Int32}
variable {ylv : Int32} {ypc : Int32} {yqc : Int32} {ycc : Int32} {yec : Int32} {yde : Int32} {yus : Int32} {ywe : Int32} {yfo : Int32} {yli : Int32} {yso : Int32} {ysu : Int64} {yla : Nat → Int32} {ypr : Nat → Int64} {yfr : Nat → Int32} {yto : Nat → Int32} {yty : Nat → Int32} {ywt : Nat → Int32} {yst : Nat → Int32} {ypa : Nat → Int32} {ysp : Nat → Int32} {ypl : Nat → Int32} {ycp : Nat → Int32} {ybo : Nat → Int32} {ytk : Nat → Int32} {yno : Nat → Int32} {ych : Nat → Int32} {yfa : Nat → Int32}
theorem yr_r {post : Int32 → SY → Prop} {X : Nat → List Int32} {kk v : Nat} (hkk : kk < 2 ^ 31) (hv : v < 4) (hc : ∀ i, i < 4096 → ych i = if X i = [] then 0 else 1) (h1 : ∀ i, i < 4096 → ¬ X i = [] → rr_ X i = kk → post (nI (dg i v)) (ylv, ypc, yqc, ycc, yec, yde, yus, ywe, yfo, yli, yso, ysu, yla, ypr, yfr, yto, yty, ywt, pva, pwa, pam, pdi, plo, phi, ptk, pco, pex, yst, ypa, ysp, ypl, ycp, ybo, ytk, yno, ych, yfa)) (h0 : rr_ X 4096 ≤ kk → post (-1) (ylv, ypc, yqc, ycc, yec, yde, yus, ywe, yfo, yli, yso, ysu, yla, ypr, yfr, yto, yty, ywt, pva, pwa, pam, pdi, plo, phi, ptk, pco, pex, yst, ypa, ysp, ypl, ycp, ybo, ytk, yno, ych, yfa)) : ∀ d i, i + d = 4096 → rr_ X i ≤ kk → wY_row_45 post (nI kk) (nI v) ylv ypc yqc ycc yec yde yus ywe yfo yli yso ysu yla ypr yfr yto yty ywt pva pwa pam pdi plo phi ptk pco pex yst ypa ysp ypl ycp ybo ytk yno ych yfa (d + 1) (nI (rr_ X i)) (nI i) := by
  intro d
  induction d with
  | zero =>
    intro i hi hr
    have e : i = 4096 := by omega
    subst e
    exact br_t (nI_le (a := 4096) (by omega) (by omega)) (h0 hr)
  | succ d ih =>
    intro i hi hr
    have nx := ih (i + 1) (by omega)
    have rn := rr_N X i
    refine br_f (nI_ge (b := 4096) (by omega) (by decide)) ⟨vp_in_nI (by omega) (by omega), ?_⟩
    rw [nI_clamp (by omega), hc i (by omega)]
    by_cases z : X i = []
    · rw [rr_n z] at nx
      rw [if_pos z]
      exact br_t rfl (nm_r (nI_1 i) (nx hr))
    · rw [rr_1 z] at nx
      rw [if_neg z]
      refine br_f tg_10 (br_c (fun e => ?_) (fun e => nm_r (nI_1 _) (nm_r (nI_1 i) (nx ?_))))
      · rw [tg_rowy (by omega) hv]
        exact h1 i (by omega) z ((nI_eq (by omega) hkk).mp e)
      · rcases Nat.lt_or_ge (rr_ X i) kk with q | q
        · exact q
        · exact absurd (by rw [show rr_ X i = kk from by omega]) e
theorem ro_ {post : Int32 → SY → Prop} {P nn kk v : Nat} {c cs os : Nat → Nat} {nu : Nat → Prop} (hP : P ≤ 6) (hp : ∀ k, k < P → qu_P pva pwa pam pdi plo phi k) (hH : qu_H pam phi P ≤ 5) (hR : gr_R nT eT xla xpr xed yla ypr yfr yto yty ywt) (hn : nn ≤ 12) (hco : ∀ k, k < nn → pco k = nI (c k)) (hW : nn = 0 ∨ cd_W c (nm_P pva P) nn cs os nu) (hkk : kk < 2 ^ 31) (hv : v < 4) (hnm : ∃ k, k < P ∧ pva k = nI v)
    (hx : 1000 < sm_ (xf_ P nn nT eT xla pva pwa pam pdi plo phi yfr yto yty ypr c cs) 4096 → ∀ yde yus ywe yfo yli yso ysu (yst ypa ysp ypl ycp ybo ytk yno ych : Nat → Int32), post (-1) (ylv, (nI P), yqc, (nI nn), yec, yde, yus, ywe, yfo, yli, yso, ysu, yla, ypr, yfr, yto, yty, ywt, pva, pwa, pam, pdi, plo, phi, ptk, pco, pex, yst, ypa, ysp, ypl, ycp, ybo, ytk, yno, ych, yfa))
    (h0 : sm_ (xf_ P nn nT eT xla pva pwa pam pdi plo phi yfr yto yty ypr c cs) 4096 ≤ 1000 → rr_ (xf_ P nn nT eT xla pva pwa pam pdi plo phi yfr yto yty ypr c cs) 4096 ≤ kk → ∀ yde yus ywe yfo yli yso ysu (yst ypa ysp ypl ycp ybo ytk yno ych : Nat → Int32), post (-1) (ylv, (nI P), yqc, (nI nn), yec, yde, yus, ywe, yfo, yli, yso, ysu, yla, ypr, yfr, yto, yty, ywt, pva, pwa, pam, pdi, plo, phi, ptk, pco, pex, yst, ypa, ysp, ypl, ycp, ybo, ytk, yno, ych, yfa))
    (h1 : sm_ (xf_ P nn nT eT xla pva pwa pam pdi plo phi yfr yto yty ypr c cs) 4096 ≤ 1000 → ∀ i, i < 4096 → ¬ (xf_ P nn nT eT xla pva pwa pam pdi plo phi yfr yto yty ypr c cs) i = [] → rr_ (xf_ P nn nT eT xla pva pwa pam pdi plo phi yfr yto yty ypr c cs) i = kk → ∀ yde yus ywe yfo yli yso ysu (yst ypa ysp ypl ycp ybo ytk yno ych : Nat → Int32), post (nI (dg i v)) (ylv, (nI P), yqc, (nI nn), yec, yde, yus, ywe, yfo, yli, yso, ysu, yla, ypr, yfr, yto, yty, ywt, pva, pwa, pam, pdi, plo, phi, ptk, pco, pex, yst, ypa, ysp, ypl, ycp, ybo, ytk, yno, ych, yfa)) : wpY_row post (ylv, (nI P), yqc, (nI nn), yec, yde, yus, ywe, yfo, yli, yso, ysu, yla, ypr, yfr, yto, yty, ywt, pva, pwa, pam, pdi, plo, phi, ptk, pco, pex, yst, ypa, ysp, ypl, ycp, ybo, ytk, yno, ych, yfa) (nI kk) (nI v) := by
  have W1 : ∀ {post : Int32 → Prop}, post 1 → wpY_within post (nI v) 0 3 := fun hq => br_f (nI_pos (by omega)) (br_f (nI_nlt (b := v) (a := 3) (by omega) (by omega)) hq)
  refine br_f (nI_pos hkk) (W1 (br_f tg_10 (tg_ynm hP (fun _ => br_f tg_10 ?_) (fun q => absurd hnm q))))
  refine ys_ (v := 0) hP hp hH hR hn hco hW (by omega) (fun s q1 q2 yde yus ywe yli yso ysu yst ypa ysp ypl ycp ybo ytk yno ych => br_f (by decide) (hx ?_ _ _ _ _ _ _ _ _ _ _ _ _ _ _ _ _)) (fun s q1 q2 ch0 q3 yde yus ywe yst ypa ysp ypl ycp ybo ytk yno => ?_)
  · rw [(lk_ hP hp hH hR hW q1).1] at q2; exact q2
  · obtain ⟨l1, l2, _, _⟩ := lk_ hP hp hH hR hW q1
    have a : sm_ (xf_ P nn nT eT xla pva pwa pam pdi plo phi yfr yto yty ypr c cs) 4096 ≤ 1000 := by rw [← l1]; exact q2
    refine br_t (nI_le (b := 1000) q2 (by omega)) ⟨4097, yr_r (X := (xf_ P nn nT eT xla pva pwa pam pdi plo phi yfr yto yty ypr c cs)) hkk hv (fun i hi => ?_) (fun i hi hne hr => h1 a i hi hne hr _ _ _ _ _ _ _ _ _ _ _ _ _ _ _ _) (fun hr => h0 a hr _ _ _ _ _ _ _ _ _ _ _ _ _ _ _ _) 4096 0 (by omega) (Nat.zero_le _)⟩
    rw [yc_sel, q3 i hi]
    by_cases z : (xf_ P nn nT eT xla pva pwa pam pdi plo phi yfr yto yty ypr c cs) i = []
    · rw [if_pos z, if_pos ((l2 i hi).mpr z)]
    · rw [if_neg z, if_neg (fun q => z ((l2 i hi).mp q))]
theorem i_vc_row {k : Nat} {u : SX} {v : SY} (I : i_Rel k u v) (hk : k + 7 ≤ 3584) (v1 : Int32) (v2 : Int32) : wpX_row (fun r u' => wpY_row (fun r' v' => r' = r ∧ i_Rel (k + 7) u' v') v v1 v2) u v1 v2 := by
  obtain ⟨nT, eT, xlv, xpc, xqc, xcc, xec, mc, lw, rc, xla, xpr, xed, sN, sE, sL, sP, sD, pva, pwa, pam, pdi, plo, phi, ptk, pco, pex, tr, ds, ch, ar, rN, rM, s1, s2, s3, s4, s5⟩ := u
  obtain ⟨ylv, ypc, yqc, ycc, yec, yde, yus, ywe, yfo, yli, yso, ysu, yla, ypr, yfr, yto, yty, ywt, qpva, qpwa, qpam, qpdi, qplo, qphi, qptk, qpco, qpex, yst, ypa, ysp, ypl, ycp, ybo, ytk, yno, ych, yfa⟩ := v
  obtain ⟨⟨rfl, rfl, rfl, rfl, rfl, rfl, rfl, rfl, rfl⟩, hG, hQ, hT, hC, hE⟩ := I
  obtain ⟨P, hP, rfl, rfl, hp, hH⟩ := hQ
  have hQ : rl_Q (nI P) (nI P) pva pwa pam pdi plo phi := ⟨P, hP, rfl, rfl, hp, hH⟩
  have hC' := hC
  obtain ⟨nn, c, hn, rfl, rfl, hco, hW0⟩ := hC
  obtain ⟨cs, os, nu, hW⟩ := cw_of (pva := pva) hP hW0
  have hR := hG.1
  by_cases c0 : v1 < 0
  · exact br_t c0 (br_t c0 ⟨rfl, rl_mk _ hG hQ hT hC' hE⟩)
  obtain ⟨kk, hkk, rfl⟩ := nI_of c0
  refine br_f c0 (tg_xnm hP (fun hnm => br_f tg_10 ?_) (fun hnm => br_t rfl ?_))
  · obtain ⟨v, hv, rfl⟩ : ∃ v, v < 4 ∧ v2 = nI v := by
      obtain ⟨j, hj, e⟩ := hnm
      obtain ⟨b1, b2, _, _⟩ := q_f (hp j hj)
      exact ⟨Vf pva j, b2, e.symm.trans b1⟩
    refine xs_ hP hp hR hn hco hW (fun z => xf_xl z) (fun z i => xf_0 z i) (fun mc lw rc rN rM tr ch ar s1 s2 s3 s4 s5 hs => ?_)
    rcases hs with ⟨a, rfl, rfl, rfl, hrw⟩ | ⟨a, rfl⟩
    · have rl := rr_l (xf_ P nn nT eT xla pva pwa pam pdi plo phi yfr yto yty ypr c cs) 4096
      refine br_f (nI_nlt (b := sm_ (xf_ P nn nT eT xla pva pwa pam pdi plo phi yfr yto yty ypr c cs) 4096) (a := 1000) a (by omega)) ?_
      by_cases z : kk < rr_ (xf_ P nn nT eT xla pva pwa pam pdi plo phi yfr yto yty ypr c cs) 4096
      · obtain ⟨i, hi, hne, hr⟩ := rr_ex 4096 z
        obtain ⟨e1, _⟩ := hrw i hi hne
        refine br_t (nI_lt z (by omega)) ⟨vp_in_nI (by omega) (by omega), ?_⟩
        rw [nI_clamp hkk, ← hr, e1, tg_rowx hv, hr]
        refine ro_ hP hp hH hR hn hco hW hkk hv hnm (fun q => absurd q (by omega)) (fun _ q => absurd q (by omega)) (fun _ i' hi' hne' hr' yde yus ywe yfo yli yso ysu yst ypa ysp ypl ycp ybo ytk yno ych => ⟨?_, rl_mk _ hG hQ hT hC' hE⟩)
        have : i' = i := by
          rcases Nat.lt_trichotomy i' i with q | q | q
          · have := rr_lt q hne'; omega
          · exact q
          · have := rr_lt q hne; omega
        rw [this]
      · refine br_f (nI_nlt (by omega) (by omega)) (ro_ hP hp hH hR hn hco hW hkk hv hnm (fun q => absurd q (by omega)) (fun _ _ yde yus ywe yfo yli yso ysu yst ypa ysp ypl ycp ybo ytk yno ych => ⟨rfl, rl_mk _ hG hQ hT hC' hE⟩) (fun _ i' hi' hne' hr' => ?_))
        have := rr_lt hi' hne'
        omega
    · refine br_t (by decide) (ro_ hP hp hH hR hn hco hW hkk hv hnm (fun _ yde yus ywe yfo yli yso ysu yst ypa ysp ypl ycp ybo ytk yno ych => ⟨rfl, rl_mk _ hG hQ hT hC' hE⟩) (fun q => absurd q (by omega)) (fun q => absurd q (by omega)))
  · unfold wpY_row
    refine br_f c0 (tg_wi 0 3 (by omega) (by omega) (fun _ => br_t rfl ⟨rfl, rl_mk _ hG hQ hT hC' hE⟩) (fun _ _ _ _ => br_f tg_10 (tg_ynm hP (fun q => absurd q hnm) (fun _ => br_t rfl ⟨rfl, rl_mk _ hG hQ hT hC' hE⟩))))
/-! total -/
theorem xt_l {post : Int64 → SX → Prop} {X : Nat → List Int32} {v : Nat} (hv : v < 4) (hR : gr_R nT eT xla xpr xed yla ypr yfr yto yty ywt) (ha : sm_ X 4096 ≤ 1000) (hrw : ∀ i, i < 4096 → ¬ X i = [] → rN (rr_ X i) = nI (pkc i) ∧ rM (rr_ X i) = nI (X i).length) (hth : ∀ i, i < 4096 → ¬ X i = [] → bt nT (dg i v) = true)
    (h0 : gb_ ypr v X 4096 = false → post 9000000000000000000 (nT, eT, xlv, xpc, xqc, xcc, xec, mc, lw, (nI (rr_ X 4096)), xla, xpr, xed, sN, sE, sL, sP, sD, pva, pwa, pam, pdi, plo, phi, ptk, pco, pex, tr, ds, ch, ar, rN, rM, s1, s2, s3, s4, s5)) (h1 : gb_ ypr v X 4096 = true → post (gs_ ypr v X 4096) (nT, eT, xlv, xpc, xqc, xcc, xec, mc, lw, (nI (rr_ X 4096)), xla, xpr, xed, sN, sE, sL, sP, sD, pva, pwa, pam, pdi, plo, phi, ptk, pco, pex, tr, ds, ch, ar, rN, rM, s1, s2, s3, s4, s5)) :
    ∀ d i, i + d = 4096 → wX_total_38 post (nI v) nT eT xlv xpc xqc xcc xec mc lw (nI (rr_ X 4096)) xla xpr xed sN sE sL sP sD pva pwa pam pdi plo phi ptk pco pex tr ds ch ar rN rM s1 s2 s3 s4 s5 (rr_ X 4096 - rr_ X i + 1) (gs_ ypr v X i) (tg_z (gb_ ypr v X i)) (nI (rr_ X i)) := by
  have rl := rr_l X 4096
  intro d
  induction d with
  | zero =>
    intro i hi
    have e : i = 4096 := by omega
    subst e
    rw [Nat.sub_self]
    exact br_t (nI_le (by omega) (by omega)) (tg_zbr h0 h1)
  | succ d ih =>
    intro i hi
    have nx := ih (i + 1) (by omega)
    have eg : gs_ ypr v X (i + 1) = gs_ ypr v X i + (if nz_ ypr v i = true then ypr (dg i v) * lN (X i).length else 0) := rfl
    have eb : gb_ ypr v X (i + 1) = (gb_ ypr v X i || (nz_ ypr v i && !decide (X i = []))) := rfl
    by_cases z : X i = []
    · rw [rr_n z, eg, eb, z, decide_eq_true rfl] at nx
      have e0 : lN ([] : List Int32).length = 0 := rfl
      rw [e0, Int64.mul_zero, show (if nz_ ypr v i = true then (0 : Int64) else 0) = 0 from by split <;> rfl, Int64.add_zero, Bool.not_true, Bool.and_false, Bool.or_false] at nx
      exact nx
    · have lt := rr_lt (X := X) (i := i) (c := 4096) (by omega) z
      obtain ⟨e1, e2⟩ := hrw i (by omega) z
      have dl := dg_lt i v
      have th := hth i (by omega) z
      have ep : xpr (dg i v) = ypr (dg i v) := by
        rcases hR.2.2.1 _ dl with ⟨_, _, q⟩ | ⟨q, _⟩
        · exact q.symm
        · rw [th] at q; exact absurd q (by decide)
      have ll : (X i).length ≤ sm_ X 4096 := by
        have := sm_m X (i + 1) (4096 - (i + 1))
        rw [show i + 1 + (4096 - (i + 1)) = 4096 from by omega] at this
        have e : sm_ X (i + 1) = sm_ X i + (X i).length := rfl
        omega
      rw [rr_1 z, eg, eb, decide_eq_false z, Bool.not_false, Bool.and_true] at nx
      rw [show rr_ X 4096 - rr_ X i + 1 = (rr_ X 4096 - (rr_ X i + 1) + 1) + 1 from by omega]
      refine br_f (nI_ge lt (by omega)) ⟨vp_in_nI (by omega) (by omega), ?_⟩
      rw [nI_clamp (show rr_ X i < 2 ^ 31 by omega), e1, tg_rowx hv]
      refine ⟨vp_in_nI dl (by omega), nm_r (show _ = ypr (dg i v) from by rw [nI_clamp (by omega), ep]) ?_⟩
      by_cases q : ypr (dg i v) = 9000000000000000000
      · have en : nz_ ypr v i = false := decide_eq_false (fun w => w q)
        rw [en, if_neg (by decide), Int64.add_zero, Bool.or_false] at nx
        exact br_t q (nm_r (nI_1 _) nx)
      · have en : nz_ ypr v i = true := decide_eq_true q
        rw [en, if_pos rfl, Bool.or_true] at nx
        refine br_f q ⟨vp_in_nI (by omega) (by omega), ?_⟩
        rw [e2, nI_l (by omega)]
        exact nm_e (nm_r (nI_1 _) nx)
theorem to_ {post : Int64 → SY → Prop} {P nn v : Nat} {c cs os : Nat → Nat} {nu : Nat → Prop} (hP : P ≤ 6) (hp : ∀ k, k < P → qu_P pva pwa pam pdi plo phi k) (hH : qu_H pam phi P ≤ 5) (hR : gr_R nT eT xla xpr xed yla ypr yfr yto yty ywt) (hn : nn ≤ 12) (hco : ∀ k, k < nn → pco k = nI (c k)) (hW : nn = 0 ∨ cd_W c (nm_P pva P) nn cs os nu) (hv : v < 4) (hnm : ∃ k, k < P ∧ pva k = nI v)
    (hx : 1000 < sm_ (xf_ P nn nT eT xla pva pwa pam pdi plo phi yfr yto yty ypr c cs) 4096 → ∀ yde yus ywe yfo yli yso ysu (yst ypa ysp ypl ycp ybo ytk yno ych : Nat → Int32), post 9000000000000000000 (ylv, (nI P), yqc, (nI nn), yec, yde, yus, ywe, yfo, yli, yso, ysu, yla, ypr, yfr, yto, yty, ywt, pva, pwa, pam, pdi, plo, phi, ptk, pco, pex, yst, ypa, ysp, ypl, ycp, ybo, ytk, yno, ych, yfa))
    (h0 : sm_ (xf_ P nn nT eT xla pva pwa pam pdi plo phi yfr yto yty ypr c cs) 4096 ≤ 1000 → gb_ ypr v (xf_ P nn nT eT xla pva pwa pam pdi plo phi yfr yto yty ypr c cs) 4096 = false → ∀ yde yus ywe yfo yli yso ysu (yst ypa ysp ypl ycp ybo ytk yno ych : Nat → Int32), post 9000000000000000000 (ylv, (nI P), yqc, (nI nn), yec, yde, yus, ywe, yfo, yli, yso, ysu, yla, ypr, yfr, yto, yty, ywt, pva, pwa, pam, pdi, plo, phi, ptk, pco, pex, yst, ypa, ysp, ypl, ycp, ybo, ytk, yno, ych, yfa))
    (h1 : sm_ (xf_ P nn nT eT xla pva pwa pam pdi plo phi yfr yto yty ypr c cs) 4096 ≤ 1000 → gb_ ypr v (xf_ P nn nT eT xla pva pwa pam pdi plo phi yfr yto yty ypr c cs) 4096 = true → ∀ yde yus ywe yfo yli yso ysu (yst ypa ysp ypl ycp ybo ytk yno ych : Nat → Int32), post (gs_ ypr v (xf_ P nn nT eT xla pva pwa pam pdi plo phi yfr yto yty ypr c cs) 4096) (ylv, (nI P), yqc, (nI nn), yec, yde, yus, ywe, yfo, yli, yso, ysu, yla, ypr, yfr, yto, yty, ywt, pva, pwa, pam, pdi, plo, phi, ptk, pco, pex, yst, ypa, ysp, ypl, ycp, ybo, ytk, yno, ych, yfa)) : wpY_total post (ylv, (nI P), yqc, (nI nn), yec, yde, yus, ywe, yfo, yli, yso, ysu, yla, ypr, yfr, yto, yty, ywt, pva, pwa, pam, pdi, plo, phi, ptk, pco, pex, yst, ypa, ysp, ypl, ycp, ybo, ytk, yno, ych, yfa) (nI v) := by
  have W1 : ∀ {post : Int32 → Prop}, post 1 → wpY_within post (nI v) 0 3 := fun hq => br_f (nI_pos (by omega)) (br_f (nI_nlt (b := v) (a := 3) (by omega) (by omega)) hq)
  unfold wpY_total
  refine W1 (br_f tg_10 (tg_ynm hP (fun _ => br_f tg_10 ?_) (fun q => absurd hnm q)))
  refine ys_ (v := v) hP hp hH hR hn hco hW hv (fun s q1 q2 yde yus ywe yli yso ysu yst ypa ysp ypl ycp ybo ytk yno ych => br_t (by decide) (hx ?_ _ _ _ _ _ _ _ _ _ _ _ _ _ _ _ _)) (fun s q1 q2 ch0 q3 yde yus ywe yst ypa ysp ypl ycp ybo ytk yno => ?_)
  · rw [(lk_ hP hp hH hR hW q1).1] at q2; exact q2
  · obtain ⟨l1, l2, l3, _⟩ := lk_ hP hp hH hR hW q1
    have a : sm_ (xf_ P nn nT eT xla pva pwa pam pdi plo phi yfr yto yty ypr c cs) 4096 ≤ 1000 := by rw [← l1]; exact q2
    have bd := (ly_el (v := v) (nn := nn) (c := c) (cs := cs) hp hR q1).2 hv hnm
    rw [yo_sel hv _ bd, yu_sel hv _ bd, gb_e l2, gs_e l3]
    exact br_f (nI_nlt (b := (ly_ P (Vf pva) (Vf plo) (Vf phi) (stp pam) (ok_ nT yla pwa) (al_ eT yfr yto yty pam pdi) (trp ypr c cs nn) s).length) (a := 1000) q2 (by omega)) (tg_zbr (fun e => h0 a e _ _ _ _ _ _ _ _ _ _ _ _ _ _ _ _) (fun e => h1 a e _ _ _ _ _ _ _ _ _ _ _ _ _ _ _ _))
theorem i_vc_total {k : Nat} {u : SX} {v : SY} (I : i_Rel k u v) (hk : k + 7 ≤ 3584) (v1 : Int32) : wpX_total (fun r u' => wpY_total (fun r' v' => r' = r ∧ i_Rel (k + 7) u' v') v v1) u v1 := by
  obtain ⟨nT, eT, xlv, xpc, xqc, xcc, xec, mc, lw, rc, xla, xpr, xed, sN, sE, sL, sP, sD, pva, pwa, pam, pdi, plo, phi, ptk, pco, pex, tr, ds, ch, ar, rN, rM, s1, s2, s3, s4, s5⟩ := u
  obtain ⟨ylv, ypc, yqc, ycc, yec, yde, yus, ywe, yfo, yli, yso, ysu, yla, ypr, yfr, yto, yty, ywt, qpva, qpwa, qpam, qpdi, qplo, qphi, qptk, qpco, qpex, yst, ypa, ysp, ypl, ycp, ybo, ytk, yno, ych, yfa⟩ := v
  obtain ⟨⟨rfl, rfl, rfl, rfl, rfl, rfl, rfl, rfl, rfl⟩, hG, hQ, hT, hC, hE⟩ := I
  obtain ⟨P, hP, rfl, rfl, hp, hH⟩ := hQ
  have hQ : rl_Q (nI P) (nI P) pva pwa pam pdi plo phi := ⟨P, hP, rfl, rfl, hp, hH⟩
  have hC' := hC
  obtain ⟨nn, c, hn, rfl, rfl, hco, hW0⟩ := hC
  obtain ⟨cs, os, nu, hW⟩ := cw_of (pva := pva) hP hW0
  have hR := hG.1
  unfold wpX_total
  refine tg_xnm hP (fun hnm => br_f tg_10 ?_) (fun hnm => br_t rfl ?_)
  · obtain ⟨v, hv, rfl⟩ : ∃ v, v < 4 ∧ v1 = nI v := by
      obtain ⟨j, hj, e⟩ := hnm
      obtain ⟨b1, b2, _, _⟩ := q_f (hp j hj)
      exact ⟨Vf pva j, b2, e.symm.trans b1⟩
    refine xs_ hP hp hR hn hco hW (fun z => xf_xl z) (fun z i => xf_0 z i) (fun mc lw rc rN rM tr ch ar s1 s2 s3 s4 s5 hs => ?_)
    rcases hs with ⟨a, rfl, rfl, rfl, hrw⟩ | ⟨a, rfl⟩
    · refine br_t (nI_le (b := 1000) a (by omega)) ⟨_, xt_l (X := (xf_ P nn nT eT xla pva pwa pam pdi plo phi yfr yto yty ypr c cs)) hv hR a hrw (fun i hi hne => ?_) (fun e => ?_) (fun e => ?_) 4096 0 (by omega)⟩
      · have hP0 : 0 < P := by
          obtain ⟨j, hj, _⟩ := hnm
          omega
        have pc : pa_ nT xla pva pwa P i := Classical.byContradiction (fun q => hne ((xf_xl hP0 i hi).2 q))
        rcases pc v hv with ⟨_, b, _⟩ | ⟨q, _⟩
        · exact b
        · exact absurd hnm q
      · refine to_ hP hp hH hR hn hco hW hv hnm (fun q => absurd q (by omega)) (fun _ _ yde yus ywe yfo yli yso ysu yst ypa ysp ypl ycp ybo ytk yno ych => ⟨rfl, rl_mk _ hG hQ hT hC' hE⟩) (fun _ q => ?_)
        rw [e] at q; exact absurd q (by decide)
      · refine to_ hP hp hH hR hn hco hW hv hnm (fun q => absurd q (by omega)) (fun _ q => ?_) (fun _ _ yde yus ywe yfo yli yso ysu yst ypa ysp ypl ycp ybo ytk yno ych => ⟨rfl, rl_mk _ hG hQ hT hC' hE⟩)
        rw [e] at q; exact absurd q (by decide)
    · refine br_f (by decide) (to_ hP hp hH hR hn hco hW hv hnm (fun _ yde yus ywe yfo yli yso ysu yst ypa ysp ypl ycp ybo ytk yno ych => ⟨rfl, rl_mk _ hG hQ hT hC' hE⟩) (fun q => absurd q (by omega)) (fun q => absurd q (by omega)))
  · unfold wpY_total
    refine tg_wi 0 3 (by omega) (by omega) (fun _ => br_t rfl ⟨rfl, rl_mk _ hG hQ hT hC' hE⟩) (fun _ _ _ _ => br_f tg_10 (tg_ynm hP (fun q => absurd q hnm) (fun _ => br_t rfl ⟨rfl, rl_mk _ hG hQ hT hC' hE⟩)))
end
