/-! matches as lists: X's order for one choice of nodes, Y's order over all of them, and T between -/
def fm {α : Type} (g : Nat → List α) : Nat → Nat → List α
  | 0, _ => []
  | m + 1, j => g j ++ fm g m (j + 1)
theorem fm_cong {α : Type} {g g' : Nat → List α} : ∀ {m j : Nat}, (∀ i, j ≤ i → i < j + m → g i = g' i) → fm g m j = fm g' m j
  | 0, _, _ => rfl
  | m + 1, j, h => by
    show g j ++ fm g m (j + 1) = g' j ++ fm g' m (j + 1)
    rw [h j (by omega) (by omega), fm_cong (fun i h1 h2 => h i (by omega) (by omega))]
theorem fm_nil {α : Type} {g : Nat → List α} {m j : Nat} (h : ∀ i, j ≤ i → i < j + m → g i = []) : fm g m j = [] := by
  induction m generalizing j with
  | zero => rfl
  | succ m ih =>
    show g j ++ fm g m (j + 1) = []
    rw [h j (by omega) (by omega), ih (fun i h1 h2 => h i (by omega) (by omega))]
    rfl
theorem fm_one {α : Type} {g : Nat → List α} {m j i0 : Nat} (h0 : j ≤ i0) (h1 : i0 < j + m) (h : ∀ i, j ≤ i → i < j + m → i ≠ i0 → g i = []) : fm g m j = g i0 := by
  induction m generalizing j with
  | zero => omega
  | succ m ih =>
    show g j ++ fm g m (j + 1) = g i0
    by_cases z : j = i0
    · subst z
      rw [fm_nil (fun i a b => h i (by omega) (by omega) (by omega)), List.append_nil]
    · rw [h j (by omega) (by omega) z, ih (by omega) (by omega) (fun i a b => h i (by omega) (by omega)), List.nil_append]
theorem fm_perm {α : Type} {g g' : Nat → List α} : ∀ {m j : Nat}, (∀ i, j ≤ i → i < j + m → (g i).Perm (g' i)) → (fm g m j).Perm (fm g' m j)
  | 0, _, _ => List.Perm.refl _
  | m + 1, j, h => List.Perm.append (h j (by omega) (by omega)) (fm_perm (fun i h1 h2 => h i (by omega) (by omega)))
theorem fm_two {α : Type} (g : Nat → List α) : ∀ m j, fm g (2 * m) (2 * j) = fm (fun e => g (2 * e) ++ g (2 * e + 1)) m j
  | 0, _ => rfl
  | m + 1, j => by
    have ih := fm_two g m (j + 1)
    show g (2 * j) ++ (g (2 * j + 1) ++ fm g (2 * m) (2 * j + 1 + 1)) = (g (2 * j) ++ g (2 * j + 1)) ++ fm (fun e => g (2 * e) ++ g (2 * e + 1)) m (j + 1)
    rw [List.append_assoc, ← ih]
    rfl
theorem fm_map {α β : Type} (F : List α → List β) (h0 : F [] = []) (ha : ∀ a b, F (a ++ b) = F a ++ F b) (g : Nat → List α) : ∀ m j, F (fm g m j) = fm (fun i => F (g i)) m j
  | 0, _ => h0
  | m + 1, j => by
    show F (g j ++ fm g m (j + 1)) = F (g j) ++ fm (fun i => F (g i)) m (j + 1)
    rw [ha, fm_map F h0 ha g m (j + 1)]
theorem fm_mem {α : Type} {g : Nat → List α} {x : α} : ∀ {m j : Nat}, x ∈ fm g m j → ∃ i, j ≤ i ∧ i < j + m ∧ x ∈ g i
  | 0, _, h => absurd h (by simp [fm])
  | m + 1, j, h => by
    have h' : x ∈ g j ++ fm g m (j + 1) := h
    rcases List.mem_append.mp h' with q | q
    · exact ⟨j, by omega, by omega, q⟩
    · obtain ⟨i, a, b, c⟩ := fm_mem q
      exact ⟨i, by omega, by omega, c⟩
def om {α : Type} (o : Option Nat) (g : Nat → List α) : List α := match o with
  | none => []
  | some q => g q
def ub (u : Int32) (e : Nat) : Int32 := u ||| ((1 : Int32) <<< (nI e &&& 31))
/-- X's trails for the nodes sg, at the hop k after n edges of it, standing at p, the edges u used; f steps are left -/
def mt_X (P : Nat) (V Lo Hi : Nat → Nat) (fe : Nat → Nat → Nat → Option Nat) (nx sg : Nat → Nat) : Nat → Nat → Nat → Nat → Int32 → List Int32
  | 0, _, _, _, _ => []
  | f + 1, k, n, p, u => fm (fun j => if bt u (j / 2) = true then [] else om (fe k (j / 2) p) (fun q => if j % 2 = 0 then (if n + 1 < Hi k then mt_X P V Lo Hi fe nx sg f k (n + 1) q (ub u (j / 2)) else [])
      else if Lo k ≤ n + 1 ∧ q = sg (V k) then (if nx k < P then mt_X P V Lo Hi fe nx sg f (nx k) 0 (sg (V (nx k - 1))) (ub u (j / 2)) else [ub u (j / 2)]) else [])) 24 0
/-- the same in Y's order: the hop may end before it goes on -/
def mt_T (P : Nat) (V Lo Hi : Nat → Nat) (st : Nat → Bool) (ok : Nat → Nat → Bool) (al : Nat → Nat → Nat → Option Nat) (sg : Nat → Nat) : Nat → Nat → Nat → Nat → Int32 → List Int32
  | 0, _, _, _, _ => []
  | f + 1, k, n, p, u =>
    if st k = true then (if ok k (sg (V k)) = true then (if k + 1 < P then mt_T P V Lo Hi st ok al sg f (k + 1) 0 (sg (V k)) u else [u]) else [])
    else (if Lo k ≤ n ∧ ok k p = true ∧ p = sg (V k) then (if k + 1 < P then mt_T P V Lo Hi st ok al sg f (k + 1) 0 p u else [u]) else []) ++
      fm (fun c => if bt u (c / 2) = true then [] else if n = Hi k then [] else om (al k c p) (fun q => mt_T P V Lo Hi st ok al sg f k (n + 1) q (ub u (c / 2)))) 24 0
/-- Y's search: s holds the nodes chosen so far (-1: none yet) -/
def mt_Y (P : Nat) (V Lo Hi : Nat → Nat) (st : Nat → Bool) (ok : Nat → Nat → Bool) (al : Nat → Nat → Nat → Option Nat) (tru : (Nat → Int32) → Bool) : Nat → Nat → Nat → Nat → (Nat → Int32) → Int32 → List ((Nat → Int32) × Int32)
  | 0, _, _, _, _, _ => []
  | f + 1, k, n, p, s, u =>
    if st k = true then fm (fun c => if ok k c = true ∧ (s (V k) < 0 ∨ s (V k) = nI c) then (if k + 1 < P then mt_Y P V Lo Hi st ok al tru f (k + 1) 0 c (upd s (V k) (nI c)) u else if tru (upd s (V k) (nI c)) = true then [(upd s (V k) (nI c), u)] else []) else []) 8 0
    else (if Lo k ≤ n ∧ ok k p = true ∧ (s (V k) < 0 ∨ s (V k) = nI p) then (if k + 1 < P then mt_Y P V Lo Hi st ok al tru f (k + 1) 0 p (upd s (V k) (nI p)) u else if tru (upd s (V k) (nI p)) = true then [(upd s (V k) (nI p), u)] else []) else []) ++
      fm (fun c => if bt u (c / 2) = true then [] else if n = Hi k then [] else om (al k c p) (fun q => mt_Y P V Lo Hi st ok al tru f k (n + 1) q s (ub u (c / 2)))) 24 0
/-! codes -/
def dg (c v : Nat) : Nat := c / 8 ^ (3 - v) % 8
theorem dg_lt (c v : Nat) : dg c v < 8 := Nat.mod_lt _ (by omega)
def zc (x : Int32) : Nat := if x < 0 then 0 else x.toNatClampNeg
def cde (s : Nat → Int32) : Nat := ((zc (s 0) * 8 + zc (s 1)) * 8 + zc (s 2)) * 8 + zc (s 3)
def s_ok (s : Nat → Int32) : Prop := ∀ v, v < 4 → s v = -1 ∨ ∃ m, m < 8 ∧ s v = nI m
theorem zc_lt {x : Int32} (h : x = -1 ∨ ∃ m, m < 8 ∧ x = nI m) : zc x < 8 ∧ ((x = -1 ∧ zc x = 0) ∨ x = nI (zc x)) := by
  rcases h with rfl | ⟨m, hm, rfl⟩
  · have e : zc (-1) = 0 := if_pos (by decide)
    rw [e]
    exact ⟨by omega, Or.inl ⟨rfl, rfl⟩⟩
  · have e : zc (nI m) = m := (if_neg (nI_pos (by omega))).trans (nI_clamp (by omega))
    rw [e]
    exact ⟨hm, Or.inr rfl⟩
theorem cde_dg {s : Nat → Int32} (h : s_ok s) : cde s < 4096 ∧ ∀ v, v < 4 → dg (cde s) v = zc (s v) := by
  have h0 := (zc_lt (h 0 (by omega))).1
  have h1 := (zc_lt (h 1 (by omega))).1
  have h2 := (zc_lt (h 2 (by omega))).1
  have h3 := (zc_lt (h 3 (by omega))).1
  refine ⟨by unfold cde; omega, fun v hv => ?_⟩
  unfold dg cde
  have : v = 0 ∨ v = 1 ∨ v = 2 ∨ v = 3 := by omega
  rcases this with rfl | rfl | rfl | rfl
  · show _ / 8 ^ 3 % 8 = _
    rw [show (8 : Nat) ^ 3 = 512 from rfl]; omega
  · show _ / 8 ^ 2 % 8 = _
    rw [show (8 : Nat) ^ 2 = 64 from rfl]; omega
  · show _ / 8 ^ 1 % 8 = _
    rw [show (8 : Nat) ^ 1 = 8 from rfl]; omega
  · show _ / 8 ^ 0 % 8 = _
    rw [show (8 : Nat) ^ 0 = 1 from rfl]; omega
theorem dg_ext {c c' : Nat} (hc : c < 4096) (hc' : c' < 4096) (h : ∀ v, v < 4 → dg c v = dg c' v) : c = c' := by
  have h0 := h 0 (by omega)
  have h1 := h 1 (by omega)
  have h2 := h 2 (by omega)
  have h3 := h 3 (by omega)
  unfold dg at h0 h1 h2 h3
  rw [show (8 : Nat) ^ (3 - 0) = 512 from rfl] at h0
  rw [show (8 : Nat) ^ (3 - 1) = 64 from rfl] at h1
  rw [show (8 : Nat) ^ (3 - 2) = 8 from rfl] at h2
  rw [show (8 : Nat) ^ (3 - 3) = 1 from rfl] at h3
  omega
/-- the code c may still come of s, at part k -/
def cp (P : Nat) (V : Nat → Nat) (s : Nat → Int32) (k c : Nat) : Prop := ∀ v, v < 4 → s v = nI (dg c v) ∨ (s v = -1 ∧ (dg c v = 0 ∨ ∃ j, k ≤ j ∧ j < P ∧ V j = v))
theorem cp_step {P k c : Nat} {V : Nat → Nat} {s : Nat → Int32} (hk : k < P) (hV : V k < 4) (hs : s_ok s) : cp P V s k c ↔ (s (V k) < 0 ∨ s (V k) = nI (dg c (V k))) ∧ cp P V (upd s (V k) (nI (dg c (V k)))) (k + 1) c := by
  constructor
  · intro h
    refine ⟨?_, fun v hv => ?_⟩
    · rcases h (V k) hV with q | ⟨q, _⟩
      · exact Or.inr q
      · exact Or.inl (by rw [q]; decide)
    · by_cases z : v = V k
      · subst z; exact Or.inl pk_us
      · rw [pk_un z]
        rcases h v hv with q | ⟨q, q' | ⟨j, j1, j2, j3⟩⟩
        · exact Or.inl q
        · exact Or.inr ⟨q, Or.inl q'⟩
        · refine Or.inr ⟨q, Or.inr ⟨j, ?_, j2, j3⟩⟩
          rcases Nat.lt_or_ge k j with x | x
          · exact x
          · have : j = k := by omega
            subst this
            exact absurd j3.symm z
  · rintro ⟨h1, h2⟩ v hv
    by_cases z : v = V k
    · subst z
      rcases h1 with q | q
      · rcases hs (V k) hV with w | ⟨m, hm, w⟩
        · exact Or.inr ⟨w, Or.inr ⟨k, Nat.le_refl k, hk, rfl⟩⟩
        · rw [w] at q; exact absurd q (nI_pos (by omega))
      · exact Or.inl q
    · have := h2 v hv
      rw [pk_un z] at this
      rcases this with q | ⟨q, q' | ⟨j, j1, j2, j3⟩⟩
      · exact Or.inl q
      · exact Or.inr ⟨q, Or.inl q'⟩
      · exact Or.inr ⟨q, Or.inr ⟨j, by omega, j2, j3⟩⟩
theorem cp_end {P c : Nat} {V : Nat → Nat} {s : Nat → Int32} (hs : s_ok s) (hc : c < 4096) : cp P V s P c ↔ cde s = c := by
  obtain ⟨h1, h2⟩ := cde_dg hs
  constructor
  · intro h
    refine dg_ext h1 hc (fun v hv => ?_)
    rw [h2 v hv]
    rcases h v hv with q | ⟨q, q' | ⟨j, j1, j2, _⟩⟩
    · rw [q]
      exact (if_neg (nI_pos (by have := dg_lt c v; omega))).trans (nI_clamp (by have := dg_lt c v; omega))
    · rw [q, q']; exact if_pos (by decide)
    · omega
  · rintro rfl v hv
    rw [h2 v hv]
    rcases (zc_lt (hs v hv)).2 with ⟨a, b⟩ | a
    · exact Or.inr ⟨a, Or.inl b⟩
    · exact Or.inl a
theorem s_up {s : Nat → Int32} (hs : s_ok s) {v m : Nat} (hm : m < 8) : s_ok (upd s v (nI m)) := fun w hw => by
  by_cases z : w = v
  · subst z; exact Or.inr ⟨m, hm, pk_us⟩
  · rw [pk_un z]; exact hs w hw
