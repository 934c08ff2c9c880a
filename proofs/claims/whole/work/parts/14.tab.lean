/-! tables of distances: 8 x 8 cells, at most 1000000 each -/
def tb_N (ds : Nat → Int32) (b : Nat) (T : Nat → Nat) (n : Nat) : Prop := ∀ k, k < n → ds (b * 64 + k) = nI (T k) ∧ T k ≤ 1000000
def tb_F (b : Nat) (ds ds' : Nat → Int32) : Prop := ∀ j, j < b * 64 → ds' j = ds j
theorem tb_Fr (b : Nat) (ds : Nat → Int32) : tb_F b ds ds := fun _ _ => rfl
theorem tb_Fu {b b' c : Nat} {ds ds' : Nat → Int32} {x : Int32} (h : tb_F b ds ds') (hb : b ≤ b') : tb_F b ds (upd ds' (b' * 64 + c) x) := fun j hj => by
  rw [pk_un (by omega)]; exact h j hj
theorem tb_Ft {b b' : Nat} {ds ds' ds'' : Nat → Int32} (h : tb_F b ds ds') (h' : tb_F b' ds' ds'') (hb : b ≤ b') : tb_F b ds ds'' := fun j hj => (h' j (by omega)).trans (h j hj)
theorem tb_NF {b b' n : Nat} {ds ds' : Nat → Int32} {T : Nat → Nat} (h : tb_N ds b T n) (hf : tb_F b' ds ds') (hb : b < b') (hn : n ≤ 64) : tb_N ds' b T n := fun k hk => by
  rw [hf _ (by omega)]; exact h k hk
theorem tb_s {ds : Nat → Int32} {b c : Nat} {T : Nat → Nat} {x : Int32} (h : tb_N ds b T c) (hx : x = nI (T c)) (hl : T c ≤ 1000000) : tb_N (upd ds (b * 64 + c) x) b T (c + 1) := fun k hk => by
  by_cases z : k = c
  · subst z; rw [pk_us]; exact ⟨hx, hl⟩
  · rw [pk_un (by omega)]; exact h k (by omega)
theorem tb_o {ds : Nat → Int32} {b b' c n : Nat} {T : Nat → Nat} {x : Int32} (h : tb_N ds b T n) (hb : b ≠ b') (hc : c < 64) (hn : n ≤ 64) : tb_N (upd ds (b' * 64 + c) x) b T n := fun k hk => by
  rw [pk_un (by omega)]; exact h k hk
theorem tb_c0 {ds : Nat → Int32} {b n : Nat} {T T' : Nat → Nat} (h : tb_N ds b T n) (e : ∀ k, k < n → T' k = T k) : tb_N ds b T' n := fun k hk => by
  rw [e k hk]; exact h k hk
theorem tb_u {ds : Nat → Int32} {b c n : Nat} {T : Nat → Nat} {v : Nat} (h : tb_N ds b T n) (hv : v ≤ 1000000) : tb_N (upd ds (b * 64 + c) (nI v)) b (fun k => if k = c then v else T k) n := fun k hk => by
  dsimp only
  by_cases z : k = c
  · subst z; rw [pk_us, if_pos rfl]; exact ⟨rfl, hv⟩
  · rw [pk_un (by omega), if_neg z]; exact h k hk
/-! the operations -/
def tb_ix (yfr yto : Nat → Int32) (t e : Nat) : Nat := if t < 3 then 8 * (yfr e).toNatClampNeg + (yto e).toNatClampNeg else 8 * (yto e).toNatClampNeg + (yfr e).toNatClampNeg
def tb_ed (eT : Int32) (yfr yto yty : Nat → Int32) (t : Nat) : Nat → Nat → Nat
  | 0 => fun _ => 1000000
  | e + 1 => fun k => if (bt eT e = true ∧ yty e = nI (t % 3)) ∧ k = tb_ix yfr yto t e then 1 else tb_ed eT yfr yto yty t e k
def tb_c1 (A B : Nat → Nat) (k : Nat) : Nat → Nat
  | 0 => 1000000
  | m + 1 => if A (k / 8 * 8 + m) + B (8 * m + k % 8) < tb_c1 A B k m then A (k / 8 * 8 + m) + B (8 * m + k % 8) else tb_c1 A B k m
def tb_c (A B : Nat → Nat) (k : Nat) : Nat := tb_c1 A B k 8
def tb_m (A B : Nat → Nat) (k : Nat) : Nat := if A k < B k then A k else B k
def tb_p (A : Nat → Nat) (m c : Nat) : Nat := if A (c / 8 * 8 + m) + A (8 * m + c % 8) < A c then A (c / 8 * 8 + m) + A (8 * m + c % 8) else A c
def tb_q (A : Nat → Nat) : Nat → Nat → Nat
  | 0 => A
  | q + 1 => fun k => if k = q % 64 then tb_p (tb_q A q) (q / 64) (q % 64) else tb_q A q k
def tb_w (A : Nat → Nat) : Nat → Nat := tb_q A (64 * 8)
def tb_z (A : Nat → Nat) (k : Nat) : Nat := if k / 8 = k % 8 then 0 else A k
theorem tb_ed_le (eT : Int32) (yfr yto yty : Nat → Int32) (t : Nat) : ∀ n k, tb_ed eT yfr yto yty t n k ≤ 1000000
  | 0, k => Nat.le_refl _
  | n + 1, k => by
    have := tb_ed_le eT yfr yto yty t n k
    unfold tb_ed
    split <;> omega
theorem tb_c1_le (A B : Nat → Nat) (k : Nat) : ∀ n, tb_c1 A B k n ≤ 1000000
  | 0 => Nat.le_refl _
  | n + 1 => by
    have := tb_c1_le A B k n
    unfold tb_c1
    split <;> omega
theorem tb_c1_lb (A B : Nat → Nat) (k : Nat) : ∀ n m, m < n → tb_c1 A B k n ≤ A (k / 8 * 8 + m) + B (8 * m + k % 8)
  | 0, m, h => absurd h (Nat.not_lt_zero m)
  | n + 1, m, h => by
    unfold tb_c1
    by_cases z : m = n
    · subst z; split <;> omega
    · have := tb_c1_lb A B k n m (by omega)
      split <;> omega
theorem tb_c1_ex (A B : Nat → Nat) (k : Nat) : ∀ n, tb_c1 A B k n = 1000000 ∨ ∃ m, m < n ∧ tb_c1 A B k n = A (k / 8 * 8 + m) + B (8 * m + k % 8)
  | 0 => Or.inl rfl
  | n + 1 => by
    unfold tb_c1
    split
    · exact Or.inr ⟨n, by omega, rfl⟩
    · rcases tb_c1_ex A B k n with h | ⟨m, hm, h⟩
      · exact Or.inl h
      · exact Or.inr ⟨m, by omega, h⟩
theorem tb_p_le {A : Nat → Nat} {m c : Nat} : tb_p A m c ≤ A c := by unfold tb_p; split <;> omega
theorem tb_q_le {A : Nat → Nat} (hA : ∀ k, k < 64 → A k ≤ 1000000) : ∀ q k, k < 64 → tb_q A q k ≤ 1000000
  | 0, k, h => hA k h
  | q + 1, k, h => by
    unfold tb_q
    have := tb_q_le hA q k h
    split
    · next z => subst z; exact Nat.le_trans tb_p_le this
    · exact this
/-- within phase m the cells that it reads do not change -/
theorem tb_ph (A : Nat → Nat) (m : Nat) (hm : m < 8) : ∀ c, c ≤ 64 → ∀ k, k < 64 → tb_q A (64 * m + c) k = if k < c then tb_p (tb_q A (64 * m)) m k else tb_q A (64 * m) k
  | 0, _, k, _ => by rw [if_neg (by omega)]; rfl
  | c + 1, hc, k, hk => by
    have ih := tb_ph A m hm c (by omega)
    have e1 : (64 * m + c) / 64 = m := by omega
    have e2 : (64 * m + c) % 64 = c := by omega
    show (if k = (64 * m + c) % 64 then tb_p (tb_q A (64 * m + c)) ((64 * m + c) / 64) ((64 * m + c) % 64) else tb_q A (64 * m + c) k) = _
    rw [e1, e2]
    by_cases z : k = c
    · subst z
      rw [if_pos rfl, if_pos (by omega)]
      have h1 : tb_q A (64 * m + k) (k / 8 * 8 + m) = tb_q A (64 * m) (k / 8 * 8 + m) := by
        rw [ih _ (by omega)]
        split
        · unfold tb_p
          rw [show (k / 8 * 8 + m) / 8 * 8 + m = k / 8 * 8 + m from by omega, if_neg (by omega)]
        · rfl
      have h2 : tb_q A (64 * m + k) (8 * m + k % 8) = tb_q A (64 * m) (8 * m + k % 8) := by
        rw [ih _ (by omega)]
        split
        · unfold tb_p
          rw [show 8 * m + (8 * m + k % 8) % 8 = 8 * m + k % 8 from by omega, if_neg (by omega)]
        · rfl
      have h3 : tb_q A (64 * m + k) k = tb_q A (64 * m) k := by rw [ih k hk, if_neg (by omega)]
      unfold tb_p
      rw [h1, h2, h3]
    · rw [if_neg z, ih k hk]
      by_cases y : k < c
      · rw [if_pos y, if_pos (by omega)]
      · rw [if_neg y, if_neg (by omega)]
/-- the phases as a matrix -/
def tb_D (A : Nat → Nat) (m i j : Nat) : Nat := tb_q A (64 * m) (8 * i + j)
theorem tb_Ds (A : Nat → Nat) {m i j : Nat} (hm : m < 8) (hi : i < 8) (hj : j < 8) : tb_D A (m + 1) i j = if tb_D A m i m + tb_D A m m j < tb_D A m i j then tb_D A m i m + tb_D A m m j else tb_D A m i j := by
  show tb_q A (64 * m + 64) (8 * i + j) = _
  rw [tb_ph A m hm 64 (by omega) (8 * i + j) (by omega), if_pos (by omega)]
  unfold tb_p
  rw [show (8 * i + j) / 8 * 8 + m = 8 * i + m from by omega, show 8 * m + (8 * i + j) % 8 = 8 * m + j from by omega]
  rfl
def fw_H (D : Nat → Nat → Nat → Nat) : Prop := ∀ m i j, m < 8 → i < 8 → j < 8 → D (m + 1) i j = if D m i m + D m m j < D m i j then D m i m + D m m j else D m i j
theorem fw_mono {D : Nat → Nat → Nat → Nat} (H : fw_H D) : ∀ d m i j, m + d ≤ 8 → i < 8 → j < 8 → D (m + d) i j ≤ D m i j
  | 0, m, i, j, _, _, _ => Nat.le_refl _
  | d + 1, m, i, j, h, hi, hj => by
    have a := fw_mono H d m i j (by omega) hi hj
    have b := H (m + d) i j (by omega) hi hj
    show D (m + d + 1) i j ≤ _
    rw [b]
    split <;> omega
theorem fw_tri {D : Nat → Nat → Nat → Nat} (H : fw_H D) : ∀ m, m ≤ 8 → ∀ p, p < m → ∀ i j, i < 8 → j < 8 → D m i j ≤ D m i p + D m p j
  | 0, _, p, hp, _, _, _, _ => absurd hp (Nat.not_lt_zero p)
  | m + 1, hm, p, hp, i, j, hi, hj => by
    have a1 := H m i j (by omega) hi hj
    have a2 := H m i p (by omega) hi (by omega)
    have a3 := H m p j (by omega) (by omega) hj
    rw [a1, a2, a3]
    by_cases z : p = m
    · subst z
      split <;> split <;> split <;> omega
    · have t1 := fw_tri H m (by omega) p (by omega) i j hi hj
      have t2 := fw_tri H m (by omega) p (by omega) i m hi (by omega)
      have t3 := fw_tri H m (by omega) p (by omega) m j (by omega) hj
      split <;> split <;> split <;> omega
theorem fw_low {D : Nat → Nat → Nat → Nat} (H : fw_H D) : ∀ m, m ≤ 8 → ∀ i j, i < 8 → j < 8 → D 0 i j ≤ D m i j ∨ ∃ p, p < 8 ∧ D 0 i p + D 8 p j ≤ D m i j
  | 0, _, i, j, _, _ => Or.inl (Nat.le_refl _)
  | m + 1, hm, i, j, hi, hj => by
    have a1 := H m i j (by omega) hi hj
    by_cases z : D m i m + D m m j < D m i j
    · rw [if_pos z] at a1
      rw [a1]
      have b : D 8 m j ≤ D m m j := by
        have := fw_mono H (8 - m) m m j (by omega) (by omega) hj
        rwa [show m + (8 - m) = 8 from by omega] at this
      rcases fw_low H m (by omega) i m hi (by omega) with h | ⟨p, hp, h⟩
      · exact Or.inr ⟨m, by omega, by omega⟩
      · have t := fw_tri H 8 (by omega) m (by omega) p j hp hj
        exact Or.inr ⟨p, hp, by omega⟩
    · rw [if_neg z] at a1
      rw [a1]
      exact fw_low H m (by omega) i j hi hj
theorem fw_zd {D E : Nat → Nat → Nat → Nat} (H : fw_H D) (HE : fw_H E) (h0 : ∀ i j, i < 8 → j < 8 → E 0 i j = if i = j then 0 else D 0 i j) : ∀ m, m ≤ 8 → ∀ i j, i < 8 → j < 8 → E m i j = if i = j then 0 else D m i j
  | 0, _, i, j, hi, hj => h0 i j hi hj
  | m + 1, hm, i, j, hi, hj => by
    have ih := fw_zd H HE h0 m (by omega)
    rw [HE m i j (by omega) hi hj, H m i j (by omega) hi hj, ih i m hi (by omega), ih m j (by omega) hj, ih i j hi hj]
    by_cases z : i = j
    · rw [if_pos z, if_pos z, if_neg (by omega)]
    · rw [if_neg z, if_neg z]
      by_cases y : i = m
      · subst y
        rw [if_pos rfl, if_neg z, if_neg (by omega), if_neg (by omega)]
      · rw [if_neg y]
        by_cases x : m = j
        · subst x
          rw [if_pos rfl, if_neg (by omega), if_neg (by omega)]
        · rw [if_neg x]
theorem tb_ij {P : Nat → Prop} (h : ∀ i j, i < 8 → j < 8 → P (8 * i + j)) : ∀ k, k < 64 → P k := fun k hk => by
  have := h (k / 8) (k % 8) (by omega) (by omega)
  rwa [show 8 * (k / 8) + k % 8 = k from by omega] at this
theorem tb_DH (A : Nat → Nat) : fw_H (tb_D A) := fun m i j hm hi hj => tb_Ds A hm hi hj
theorem tb_zij (A : Nat → Nat) {i j : Nat} (hi : i < 8) (hj : j < 8) : tb_z A (8 * i + j) = if i = j then 0 else A (8 * i + j) := by
  unfold tb_z
  rw [show (8 * i + j) / 8 = i from by omega, show (8 * i + j) % 8 = j from by omega]
theorem tb_wD (A : Nat → Nat) (i j : Nat) : tb_w A (8 * i + j) = tb_D A 8 i j := by unfold tb_w tb_D; exact Eq.refl _
theorem tb_D0 (A : Nat → Nat) (i j : Nat) : tb_D A 0 i j = A (8 * i + j) := by unfold tb_D; rw [Nat.mul_zero]; exact Eq.refl _
/-- token 12: the diagonal may be cleared before or after -/
theorem tb_12 (A : Nat → Nat) : ∀ k, k < 64 → tb_w (tb_z A) k = tb_z (tb_w A) k := by
  apply tb_ij
  intro i j hi hj
  rw [tb_zij _ hi hj, tb_wD, tb_wD]
  refine fw_zd (tb_DH A) (tb_DH (tb_z A)) (fun i j hi hj => ?_) 8 (by omega) i j hi hj
  rw [tb_D0, tb_D0]
  exact tb_zij A hi hj
/-- token 13: one walk first, then any number of them -/
theorem tb_13 (A : Nat → Nat) (hA : ∀ k, k < 64 → A k ≤ 1000000) : ∀ k, k < 64 → tb_c A (tb_w (tb_z A)) k = tb_w A k := by
  apply tb_ij
  intro i j hi hj
  have W : ∀ p, p < 8 → tb_w (tb_z A) (8 * p + j) = if p = j then 0 else tb_D A 8 p j := fun p hp => by
    rw [tb_12 A _ (by omega), tb_zij _ hp hj, tb_wD]
  have e1 : (8 * i + j) / 8 * 8 = 8 * i := by omega
  have e2 : (8 * i + j) % 8 = j := by omega
  have hle : tb_D A 8 i j ≤ 1000000 := by unfold tb_D; exact tb_q_le hA _ _ (by omega)
  rw [tb_wD]
  unfold tb_c
  have lb := tb_c1_lb A (tb_w (tb_z A)) (8 * i + j) 8
  have ex := tb_c1_ex A (tb_w (tb_z A)) (8 * i + j) 8
  rw [e1, e2] at lb ex
  have fl := fw_low (tb_DH A) 8 (by omega) i j hi hj
  have D0 := tb_D0 A
  have mo := fw_mono (tb_DH A) 8 0
  have tr := fw_tri (tb_DH A) 8 (by omega)
  generalize tb_D A = D at *
  generalize tb_w (tb_z A) = Z at *
  apply Nat.le_antisymm
  · rcases fl with h | ⟨p, hp, h⟩
    · have := lb j hj
      rw [W j hj, if_pos rfl] at this
      rw [D0] at h
      omega
    · have := lb p hp
      rw [W p hp] at this
      rw [D0] at h
      split at this <;> omega
  · rcases ex with h | ⟨p, hp, h⟩
    · rw [h]; exact hle
    · rw [h, W p hp]
      have m1 := mo i p (by omega) hi hp
      rw [show 0 + 8 = 8 from rfl, D0] at m1
      split
      · next z => subst z; omega
      · have t := tr p hp i j hi hj
        omega
