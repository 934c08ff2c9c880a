/-! T's list is X's, in another order -/
section
variable {P : Nat} {V Lo Hi Hs nx sg : Nat → Nat} {st : Nat → Bool} {ok : Nat → Nat → Bool} {fe al : Nat → Nat → Nat → Option Nat}
def te_ (P : Nat) (V Lo Hi : Nat → Nat) (st : Nat → Bool) (ok : Nat → Nat → Bool) (al : Nat → Nat → Nat → Option Nat) (sg : Nat → Nat) (f k n p : Nat) (u : Int32) : List Int32 :=
  fm (fun c => if bt u (c / 2) = true then [] else if n = Hi k then [] else om (al k c p) (fun q => mt_T P V Lo Hi st ok al sg f k (n + 1) q (ub u (c / 2)))) 24 0
theorem mt_Th {f k n p : Nat} {u : Int32} (h : st k = false) : mt_T P V Lo Hi st ok al sg (f + 1) k n p u = (if Lo k ≤ n ∧ ok k p = true ∧ p = sg (V k) then (if k + 1 < P then mt_T P V Lo Hi st ok al sg f (k + 1) 0 p u else [u]) else []) ++ te_ P V Lo Hi st ok al sg f k n p u :=
  if_neg (by rw [h]; decide)
theorem mt_Ts {f k n p : Nat} {u : Int32} (h : st k = true) : mt_T P V Lo Hi st ok al sg (f + 1) k n p u = (if ok k (sg (V k)) = true then (if k + 1 < P then mt_T P V Lo Hi st ok al sg f (k + 1) 0 (sg (V k)) u else [u]) else []) :=
  if_pos h
/-- the query's shape -/
def sh_ (P : Nat) (Lo Hi Hs nx : Nat → Nat) (st : Nat → Bool) : Prop :=
  (∀ k, k < P → k < nx k ∧ nx k ≤ P ∧ (∀ j, k < j → j < nx k → st j = true) ∧ (nx k < P → st (nx k) = false)) ∧
  (∀ k, k < P → st k = true → Hs (k + 1) = Hs k) ∧ (∀ k, k < P → st k = false → Hs (k + 1) = Hs k + Hi k ∧ 1 ≤ Lo k ∧ Lo k ≤ Hi k)
theorem hs_m (h : sh_ P Lo Hi Hs nx st) : ∀ d k, k + d ≤ P → Hs k ≤ Hs (k + d)
  | 0, k, _ => Nat.le_refl _
  | d + 1, k, hk => by
    have a := hs_m h d k (by omega)
    cases e : st (k + d) with
    | true => have := h.2.1 (k + d) (by omega) e; show Hs k ≤ Hs (k + d + 1); omega
    | false => have := (h.2.2 (k + d) (by omega) e).1; show Hs k ≤ Hs (k + d + 1); omega
theorem hs_e (h : sh_ P Lo Hi Hs nx st) : ∀ d k, k + d ≤ P → (∀ j, k ≤ j → j < k + d → st j = true) → Hs (k + d) = Hs k
  | 0, k, _, _ => rfl
  | d + 1, k, hk, hj => by
    have a := hs_e h d k (by omega) (fun j h1 h2 => hj j h1 (by omega))
    have := h.2.1 (k + d) (by omega) (hj (k + d) (by omega) (by omega))
    show Hs (k + d + 1) = Hs k
    omega
theorem mt_st (h : sh_ P Lo Hi Hs nx st) (hok : ∀ k, k < P → ok k (sg (V k)) = true) {m : Nat} (hm : m ≤ P) (hm2 : m < P → st m = false) : ∀ d k f p u, k + d = m → k < P → (∀ j, k ≤ j → j < m → st j = true) → (d = 0 → p = sg (V (m - 1))) → P + Hs P ≤ k + Hs k + f →
    mt_T P V Lo Hi st ok al sg f k 0 p u = if m < P then te_ P V Lo Hi st ok al sg (f - d - 1) m 0 (sg (V (m - 1))) u else [u] := by
  intro d
  induction d with
  | zero =>
    intro k f p u hk hkP hj hp hf
    have e : k = m := by omega
    subst e
    have s := hm2 hkP
    have l := (h.2.2 k hkP s).2.1
    have mono := hs_m h (P - k) k (by omega)
    rw [show k + (P - k) = P from by omega] at mono
    obtain ⟨f', rfl⟩ : ∃ f', f = f' + 1 := ⟨f - 1, by omega⟩
    rw [mt_Th s, if_neg (by omega), List.nil_append, if_pos hkP, hp rfl]
    rfl
  | succ d ih =>
    intro k f p u hk hkP hj hp hf
    have s := hj k (by omega) (by omega)
    have e := h.2.1 k hkP s
    have mono := hs_m h (P - k) k (by omega)
    rw [show k + (P - k) = P from by omega] at mono
    obtain ⟨f', rfl⟩ : ∃ f', f = f' + 1 := ⟨f - 1, by omega⟩
    rw [mt_Ts s, if_pos (hok k hkP)]
    by_cases z : k + 1 < P
    · rw [if_pos z, ih (k + 1) f' (sg (V k)) u (by omega) z (fun j h1 h2 => hj j (by omega) h2) (fun q => by rw [show m - 1 = k from by omega]) (by omega), show f' + 1 - (d + 1) - 1 = f' - d - 1 from by omega]
    · rw [if_neg z, if_neg (by omega)]
theorem mt_TX (h : sh_ P Lo Hi Hs nx st) (hok : ∀ k, k < P → ok k (sg (V k)) = true) (hal : ∀ k e p, k < P → st k = false → (al k (2 * e) p = fe k e p ∧ al k (2 * e + 1) p = none) ∨ (al k (2 * e) p = none ∧ al k (2 * e + 1) p = fe k e p)) :
    ∀ f k n p u fT, k < P → st k = false → n < Hi k → Hs P ≤ Hs k + n + f → P + Hs P ≤ k + Hs k + n + 1 + fT →
    (te_ P V Lo Hi st ok al sg fT k n p u).Perm (mt_X P V Lo Hi fe nx sg f k n p u) := by
  intro f
  induction f with
  | zero =>
    intro k n p u fT hk s hn h1 h2
    have := (h.2.2 k hk s).1
    have mono := hs_m h (P - (k + 1)) (k + 1) (by omega)
    rw [show k + 1 + (P - (k + 1)) = P from by omega] at mono
    omega
  | succ f ih =>
    intro k n p u fT hk s hn h1 h2
    have e1 := (h.2.2 k hk s).1
    have mono := hs_m h (P - (k + 1)) (k + 1) (by omega)
    rw [show k + 1 + (P - (k + 1)) = P from by omega] at mono
    obtain ⟨fT, rfl⟩ : ∃ f', fT = f' + 1 := ⟨fT - 1, by omega⟩
    unfold te_ mt_X
    refine (List.Perm.of_eq (fm_two _ 12 0)).trans (List.Perm.trans (fm_perm (fun e _ _ => ?_)) (List.Perm.of_eq (fm_two _ 12 0).symm))
    have d1 : 2 * e / 2 = e := by omega
    have d2 : (2 * e + 1) / 2 = e := by omega
    have m1 : 2 * e % 2 = 0 := by omega
    have m2 : ¬ (2 * e + 1) % 2 = 0 := by omega
    rw [d1, d2]
    by_cases b : bt u e = true
    · rw [if_pos b, if_pos b, if_pos b, if_pos b]
    rw [if_neg b, if_neg b, if_neg b, if_neg b, if_neg (show ¬ n = Hi k by omega), if_neg (show ¬ n = Hi k by omega)]
    cases hq : fe k e p with
    | none =>
      have : al k (2 * e) p = none ∧ al k (2 * e + 1) p = none := by
        rcases hal k e p hk s with ⟨a, b⟩ | ⟨a, b⟩
        · exact ⟨a.trans hq, b⟩
        · exact ⟨a, b.trans hq⟩
      rw [this.1, this.2]
      exact List.Perm.refl _
    | some q =>
      have T : (om (al k (2 * e) p) (fun q => mt_T P V Lo Hi st ok al sg (fT + 1) k (n + 1) q (ub u e)) ++ om (al k (2 * e + 1) p) (fun q => mt_T P V Lo Hi st ok al sg (fT + 1) k (n + 1) q (ub u e))) = mt_T P V Lo Hi st ok al sg (fT + 1) k (n + 1) q (ub u e) := by
        rcases hal k e p hk s with ⟨a, b⟩ | ⟨a, b⟩
        · rw [a, b, hq]; exact List.append_nil _
        · rw [a, b, hq]; exact List.nil_append _
      have X1 : om (some q) (fun q => if 2 * e % 2 = 0 then (if n + 1 < Hi k then mt_X P V Lo Hi fe nx sg f k (n + 1) q (ub u e) else []) else if Lo k ≤ n + 1 ∧ q = sg (V k) then (if nx k < P then mt_X P V Lo Hi fe nx sg f (nx k) 0 (sg (V (nx k - 1))) (ub u e) else [ub u e]) else []) = (if n + 1 < Hi k then mt_X P V Lo Hi fe nx sg f k (n + 1) q (ub u e) else []) := if_pos m1
      have X2 : om (some q) (fun q => if (2 * e + 1) % 2 = 0 then (if n + 1 < Hi k then mt_X P V Lo Hi fe nx sg f k (n + 1) q (ub u e) else []) else if Lo k ≤ n + 1 ∧ q = sg (V k) then (if nx k < P then mt_X P V Lo Hi fe nx sg f (nx k) 0 (sg (V (nx k - 1))) (ub u e) else [ub u e]) else []) = (if Lo k ≤ n + 1 ∧ q = sg (V k) then (if nx k < P then mt_X P V Lo Hi fe nx sg f (nx k) 0 (sg (V (nx k - 1))) (ub u e) else [ub u e]) else []) := if_neg m2
      rw [T, mt_Th s, X1, X2]
      refine List.perm_append_comm.trans (List.Perm.append ?_ ?_)
      · by_cases z : n + 1 < Hi k
        · rw [if_pos z]
          exact ih k (n + 1) q (ub u e) fT hk s z (by omega) (by omega)
        · rw [if_neg z]
          unfold te_
          rw [fm_nil (fun i _ _ => by
            split
            · rfl
            · rw [if_pos (by omega)])]
      · by_cases z : Lo k ≤ n + 1 ∧ q = sg (V k)
        · have z' : Lo k ≤ n + 1 ∧ ok k q = true ∧ q = sg (V k) := ⟨z.1, by rw [z.2]; exact hok k hk, z.2⟩
          obtain ⟨n1, n2, n3, n4⟩ := h.1 k hk
          rw [if_pos z, if_pos z']
          by_cases y : k + 1 < P
          · have hse := hs_e h (nx k - (k + 1)) (k + 1) (by omega) (fun j j1 j2 => n3 j (by omega) (by omega))
            rw [show k + 1 + (nx k - (k + 1)) = nx k from by omega] at hse
            rw [if_pos y, mt_st h hok n2 n4 (nx k - (k + 1)) (k + 1) fT q (ub u e) (by omega) y (fun j j1 j2 => n3 j (by omega) j2) (fun w => by rw [z.2, show nx k - 1 = k from by omega]) (by omega)]
            by_cases x : nx k < P
            · rw [if_pos x, if_pos x]
              have hi := (h.2.2 (nx k) x (n4 x)).2
              exact ih (nx k) 0 _ (ub u e) _ x (n4 x) (by omega) (by omega) (by omega)
            · rw [if_neg x, if_neg x]
          · rw [if_neg y, if_neg (show ¬ nx k < P by omega)]
        · rw [if_neg z, if_neg (show ¬ (Lo k ≤ n + 1 ∧ ok k q = true ∧ q = sg (V k)) from fun w => z ⟨w.1, w.2.2⟩)]
/-- X's list for one choice of nodes -/
def fl_ (P : Nat) (V Lo Hi : Nat → Nat) (fe : Nat → Nat → Nat → Option Nat) (nx sg : Nat → Nat) : List Int32 := if nx 0 < P then mt_X P V Lo Hi fe nx sg 5 (nx 0) 0 (sg (V (nx 0 - 1))) 0 else [0]
theorem mt_fl (h : sh_ P Lo Hi Hs nx st) (hok : ∀ k, k < P → ok k (sg (V k)) = true) (hal : ∀ k e p, k < P → st k = false → (al k (2 * e) p = fe k e p ∧ al k (2 * e + 1) p = none) ∨ (al k (2 * e) p = none ∧ al k (2 * e + 1) p = fe k e p))
    (hP : 0 < P) (hP6 : P ≤ 6) (h0 : st 0 = true) (hH : Hs P ≤ 5) (hH0 : Hs 0 = 0) (p : Nat) : (mt_T P V Lo Hi st ok al sg 14 0 0 p 0).Perm (fl_ P V Lo Hi fe nx sg) := by
  obtain ⟨n1, n2, n3, n4⟩ := h.1 0 hP
  have hse := hs_e h (nx 0) 0 (by omega) (fun j j1 j2 => by
    by_cases z : j = 0
    · rw [z]; exact h0
    · exact n3 j (by omega) (by omega))
  rw [Nat.zero_add] at hse
  rw [mt_st h hok n2 n4 (nx 0) 0 14 p 0 (by omega) hP (fun j j1 j2 => by
    by_cases z : j = 0
    · rw [z]; exact h0
    · exact n3 j (by omega) (by omega)) (fun w => by omega) (by omega)]
  unfold fl_
  by_cases x : nx 0 < P
  · rw [if_pos x, if_pos x]
    have hi := (h.2.2 (nx 0) x (n4 x)).2
    exact mt_TX h hok hal 5 (nx 0) 0 _ 0 _ x (n4 x) (by omega) (by omega) (by omega)
  · rw [if_neg x, if_neg x]
theorem mt_no {j : Nat} (hj : j < P) (hn : ok j (sg (V j)) = false) : ∀ f k n p u, k ≤ j → mt_T P V Lo Hi st ok al sg f k n p u = []
  | 0, _, _, _, _, _ => rfl
  | f + 1, k, n, p, u, hk => by
    have ih := mt_no hj hn f
    cases s : st k with
    | true =>
      rw [mt_Ts s]
      by_cases z : k = j
      · rw [z, if_neg (by rw [hn]; decide)]
      · split
        · rw [if_pos (by omega)]
          exact ih (k + 1) 0 _ u (by omega)
        · rfl
    | false =>
      rw [mt_Th s]
      have e : te_ P V Lo Hi st ok al sg f k n p u = [] := by
        unfold te_
        refine fm_nil (fun i _ _ => ?_)
        split
        · rfl
        · split
          · rfl
          · cases al k i p with
            | none => rfl
            | some q => exact ih k (n + 1) q _ hk
      rw [e, List.append_nil]
      by_cases z : k = j
      · rw [if_neg (fun w => by
          have w2 := w.2.1
          rw [w.2.2, z, hn] at w2
          exact absurd w2 (by decide))]
      · split
        · rw [if_pos (by omega)]
          exact ih (k + 1) 0 _ u (by omega)
        · rfl
/-! where a walk of the hop's kind can end -/
def rk_ (fe : Nat → Nat → Nat → Option Nat) (k : Nat) : Nat → Nat → Nat → Prop
  | 0, p, r => r = p
  | m + 1, p, r => ∃ e q, e < 12 ∧ fe k e p = some q ∧ rk_ fe k m q r
theorem mt_ar : ∀ f k n p u x, n < Hi k → x ∈ mt_X P V Lo Hi fe nx sg f k n p u → (∃ m, Lo k ≤ n + m ∧ n + m ≤ Hi k ∧ rk_ fe k m p (sg (V k))) ∧ (nx k < P → ∃ f' u' x', x' ∈ mt_X P V Lo Hi fe nx sg f' (nx k) 0 (sg (V (nx k - 1))) u')
  | 0, k, n, p, u, x, _, hx => absurd hx (by unfold mt_X; exact List.not_mem_nil)
  | f + 1, k, n, p, u, x, hn, hx => by
    have ih := mt_ar f
    unfold mt_X at hx
    obtain ⟨j, _, hj, hx⟩ := fm_mem hx
    split at hx
    · exact absurd hx List.not_mem_nil
    · cases hq : fe k (j / 2) p with
      | none => rw [hq] at hx; exact absurd hx List.not_mem_nil
      | some q =>
        rw [hq] at hx
        have hx : x ∈ (if j % 2 = 0 then (if n + 1 < Hi k then mt_X P V Lo Hi fe nx sg f k (n + 1) q (ub u (j / 2)) else [])
          else if Lo k ≤ n + 1 ∧ q = sg (V k) then (if nx k < P then mt_X P V Lo Hi fe nx sg f (nx k) 0 (sg (V (nx k - 1))) (ub u (j / 2)) else [ub u (j / 2)]) else []) := hx
        split at hx
        · split at hx
          · next z =>
            obtain ⟨⟨m, a, b, c⟩, d⟩ := ih k (n + 1) q _ x z hx
            exact ⟨⟨m + 1, by omega, by omega, j / 2, q, by omega, hq, c⟩, d⟩
          · exact absurd hx List.not_mem_nil
        · split at hx
          · next z =>
            refine ⟨⟨1, z.1, by omega, j / 2, q, by omega, hq, z.2.symm⟩, fun w => ?_⟩
            rw [if_pos w] at hx
            exact ⟨_, _, _, hx⟩
          · exact absurd hx List.not_mem_nil
theorem mt_ars (h : sh_ P Lo Hi Hs nx st) : ∀ d k f u x, k + d = P → k < P → st k = false → x ∈ mt_X P V Lo Hi fe nx sg f k 0 (sg (V (k - 1))) u → ∀ j, k ≤ j → j < P → st j = false → ∃ m, Lo j ≤ m ∧ m ≤ Hi j ∧ rk_ fe j m (sg (V (j - 1))) (sg (V j)) := by
  intro d
  induction d using Nat.strongRecOn with
  | ind d ih =>
    intro k f u x hd hk s hx j j1 j2 j3
    have l := (h.2.2 k hk s).2
    obtain ⟨⟨m, a, b, c⟩, e⟩ := mt_ar f k 0 _ u x (by omega) hx
    rw [Nat.zero_add] at a b
    by_cases z : j = k
    · rw [z]; exact ⟨m, a, b, c⟩
    · obtain ⟨n1, n2, n3, n4⟩ := h.1 k hk
      have : nx k ≤ j := by
        rcases Nat.lt_or_ge j (nx k) with w | w
        · rw [n3 j (by omega) w] at j3; exact absurd j3 (by decide)
        · exact w
      obtain ⟨f', u', x', hx'⟩ := e (by omega)
      exact ih (P - nx k) (by omega) (nx k) f' u' x' (by omega) (by omega) (n4 (by omega)) hx' j this j2 j3
theorem fl_ar (h : sh_ P Lo Hi Hs nx st) (hP : 0 < P) (h0 : st 0 = true) {x : Int32} (hx : x ∈ fl_ P V Lo Hi fe nx sg) : ∀ j, j < P → st j = false → ∃ m, Lo j ≤ m ∧ m ≤ Hi j ∧ rk_ fe j m (sg (V (j - 1))) (sg (V j)) := by
  intro j hj s
  obtain ⟨n1, n2, n3, n4⟩ := h.1 0 hP
  have : nx 0 ≤ j := by
    rcases Nat.lt_or_ge j (nx 0) with w | w
    · by_cases z : j = 0
      · rw [z, h0] at s; exact absurd s (by decide)
      · rw [n3 j (by omega) w] at s; exact absurd s (by decide)
    · exact w
  unfold fl_ at hx
  rw [if_pos (by omega)] at hx
  exact mt_ars h (P - nx 0) (nx 0) 5 0 x (by omega) (by omega) (n4 (by omega)) hx j this hj s
end
