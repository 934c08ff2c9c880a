/-! what the answers take from the list of matches -/
theorem sel_c (c : Nat) (x : (Nat → Int32) × Int32) (L : List ((Nat → Int32) × Int32)) : sel c (x :: L) = if cde x.1 = c then x.2 :: sel c L else sel c L := by
  unfold sel
  by_cases z : cde x.1 = c
  · rw [if_pos z, List.filter_cons_of_pos (by simp [z])]; rfl
  · rw [if_neg z, List.filter_cons_of_neg (by simp [z])]
theorem sm_e {F G : Nat → List Int32} : ∀ {N : Nat}, (∀ c, c < N → (F c).length = (G c).length) → sm_ F N = sm_ G N
  | 0, _ => rfl
  | N + 1, h => by
    show sm_ F N + (F N).length = sm_ G N + (G N).length
    rw [sm_e (fun c hc => h c (by omega)), h N (by omega)]
theorem sm_one (F : Nat → List Int32) (c0 : Nat) (y : Int32) : ∀ N, sm_ (fun c => if c0 = c then y :: F c else F c) N = sm_ F N + (if c0 < N then 1 else 0)
  | 0 => by rw [if_neg (Nat.not_lt_zero _)]; rfl
  | N + 1 => by
    show sm_ (fun c => if c0 = c then y :: F c else F c) N + (if c0 = N then y :: F N else F N).length = sm_ F N + (F N).length + _
    rw [sm_one F c0 y N]
    by_cases z : c0 = N
    · rw [if_pos z, if_neg (by omega), if_pos (by omega), List.length_cons]; omega
    · rw [if_neg z]
      by_cases w : c0 < N
      · rw [if_pos w, if_pos (by omega)]; omega
      · rw [if_neg w, if_neg (by omega)]; omega
theorem sm_sel : ∀ L : List ((Nat → Int32) × Int32), (∀ x, x ∈ L → cde x.1 < 4096) → sm_ (fun c => sel c L) 4096 = L.length
  | [], _ => by
    have : ∀ N, sm_ (fun c => sel c []) N = 0 := by
      intro N
      induction N with
      | zero => rfl
      | succ N ih => show sm_ (fun c => sel c []) N + 0 = 0; rw [ih]
    exact this 4096
  | x :: L, h => by
    have e : (fun c => sel c (x :: L)) = fun c => if cde x.1 = c then x.2 :: sel c L else sel c L := funext fun c => sel_c c x L
    have hx := h x List.mem_cons_self
    rw [e, sm_one (fun c => sel c L) (cde x.1) x.2 4096, sm_sel L (fun y hy => h y (List.mem_cons_of_mem _ hy)), if_pos hx]
    rfl
theorem yc_sel (c : Nat) : ∀ (L : List ((Nat → Int32) × Int32)) ch, yc_f ch L c = if sel c L = [] then ch c else 1
  | [], ch => (if_pos rfl).symm
  | x :: L, ch => by
    show yc_f (upd ch (cde x.1) 1) L c = _
    rw [yc_sel c L, sel_c]
    by_cases z : cde x.1 = c
    · rw [if_pos z, if_neg (List.cons_ne_nil _ _), z, pk_us]
      split <;> rfl
    · rw [if_neg z, pk_un (fun q => z q.symm)]
theorem mem_sel (u : Int32) : ∀ L : List ((Nat → Int32) × Int32), (∀ x, x ∈ L → cde x.1 < 4096) → (u ∈ L.map Prod.snd ↔ ∃ c, c < 4096 ∧ u ∈ sel c L)
  | [], _ => ⟨fun h => absurd h List.not_mem_nil, fun ⟨_, _, h⟩ => absurd h List.not_mem_nil⟩
  | x :: L, h => by
    have ih := mem_sel u L (fun y hy => h y (List.mem_cons_of_mem _ hy))
    have hx := h x List.mem_cons_self
    rw [List.map_cons, List.mem_cons, ih]
    constructor
    · rintro (q | ⟨c, hc, q⟩)
      · exact ⟨cde x.1, hx, by rw [sel_c, if_pos rfl, q]; exact List.mem_cons_self⟩
      · refine ⟨c, hc, ?_⟩
        rw [sel_c]
        split
        · exact List.mem_cons_of_mem _ q
        · exact q
    · rintro ⟨c, hc, q⟩
      rw [sel_c] at q
      split at q
      · rcases List.mem_cons.mp q with w | w
        · exact Or.inl w
        · exact Or.inr ⟨c, hc, w⟩
      · exact Or.inr ⟨c, hc, q⟩
/-- the least of l and the weights -/
theorem lm_min (w : Int32 → Nat) : ∀ (L : List Int32) l, lm_ w l L ≤ l ∧ (∀ u, u ∈ L → lm_ w l L ≤ w u) ∧ (lm_ w l L = l ∨ ∃ u, u ∈ L ∧ lm_ w l L = w u)
  | [], l => ⟨Nat.le_refl l, fun u h => absurd h List.not_mem_nil, Or.inl rfl⟩
  | x :: L, l => by
    obtain ⟨a, b, c⟩ := lm_min w L (mn_ (w x) l)
    have m1 : mn_ (w x) l ≤ l := mn_le _ _
    have m2 : mn_ (w x) l ≤ w x := by unfold mn_; split <;> omega
    refine ⟨Nat.le_trans a m1, fun u hu => ?_, ?_⟩
    · rcases List.mem_cons.mp hu with q | q
      · rw [q]; exact Nat.le_trans a m2
      · exact b u q
    · rcases c with q | ⟨u, hu, q⟩
      · have e : lm_ w l (x :: L) = mn_ (w x) l := q
        rw [e]
        unfold mn_
        split
        · exact Or.inr ⟨x, List.mem_cons_self, rfl⟩
        · exact Or.inl rfl
      · exact Or.inr ⟨u, List.mem_cons_of_mem _ hu, q⟩
theorem ml_min (w : Int32 → Nat) (X : Nat → List Int32) : ∀ N, ml_ w X N ≤ 1000000 ∧ (∀ c u, c < N → u ∈ X c → ml_ w X N ≤ w u) ∧ (ml_ w X N = 1000000 ∨ ∃ c u, c < N ∧ u ∈ X c ∧ ml_ w X N = w u)
  | 0 => ⟨Nat.le_refl _, fun c u h => absurd h (Nat.not_lt_zero c), Or.inl rfl⟩
  | N + 1 => by
    obtain ⟨a, b, c⟩ := ml_min w X N
    obtain ⟨a', b', c'⟩ := lm_min w (X N) (ml_ w X N)
    refine ⟨Nat.le_trans a' a, fun i u hi hu => ?_, ?_⟩
    · by_cases z : i = N
      · rw [z] at hu; exact b' u hu
      · exact Nat.le_trans a' (b i u (by omega) hu)
    · show lm_ w (ml_ w X N) (X N) = _ ∨ ∃ c u, _ ∧ _ ∧ lm_ w (ml_ w X N) (X N) = _
      rcases c' with q | ⟨u, hu, q⟩
      · rw [q]
        rcases c with y | ⟨i, u, hi, hu, y⟩
        · exact Or.inl y
        · exact Or.inr ⟨i, u, by omega, hu, y⟩
      · exact Or.inr ⟨N, u, by omega, hu, q⟩
theorem ml_lm (w : Int32 → Nat) (X : Nat → List Int32) (L : List Int32) (h : ∀ u, u ∈ L ↔ ∃ c, c < 4096 ∧ u ∈ X c) : ml_ w X 4096 = lm_ w 1000000 L := by
  obtain ⟨a, b, c⟩ := ml_min w X 4096
  obtain ⟨a', b', c'⟩ := lm_min w L 1000000
  apply Nat.le_antisymm
  · rcases c' with q | ⟨u, hu, q⟩
    · rw [q]; exact a
    · obtain ⟨i, hi, hu'⟩ := (h u).mp hu
      rw [q]; exact b i u hi hu'
  · rcases c with q | ⟨i, u, hi, hu, q⟩
    · rw [q]; exact a'
    · rw [q]; exact b' u ((h u).mpr ⟨i, hi, hu⟩)
/-! the sum over the matches, code by code -/
def nz_ (pr : Nat → Int64) (v c : Nat) : Bool := decide (¬ pr (dg c v) = 9000000000000000000)
def gs_ (pr : Nat → Int64) (v : Nat) (X : Nat → List Int32) : Nat → Int64
  | 0 => 0
  | c + 1 => gs_ pr v X c + (if nz_ pr v c = true then pr (dg c v) * lN (X c).length else 0)
def gb_ (pr : Nat → Int64) (v : Nat) (X : Nat → List Int32) : Nat → Bool
  | 0 => false
  | c + 1 => gb_ pr v X c || (nz_ pr v c && !decide (X c = []))
theorem gs_e {pr : Nat → Int64} {v : Nat} {F G : Nat → List Int32} : ∀ {N : Nat}, (∀ c, c < N → (F c).length = (G c).length) → gs_ pr v F N = gs_ pr v G N
  | 0, _ => rfl
  | N + 1, h => by
    show gs_ pr v F N + _ = gs_ pr v G N + _
    rw [gs_e (fun c hc => h c (by omega)), h N (by omega)]
theorem gb_e {pr : Nat → Int64} {v : Nat} {F G : Nat → List Int32} : ∀ {N : Nat}, (∀ c, c < N → (F c = [] ↔ G c = [])) → gb_ pr v F N = gb_ pr v G N
  | 0, _ => rfl
  | N + 1, h => by
    show (gb_ pr v F N || _) = (gb_ pr v G N || _)
    rw [gb_e (fun c hc => h c (by omega)), show decide (F N = []) = decide (G N = []) from by simp only [decide_eq_decide]; exact h N (by omega)]
theorem lN_s1 (x : Int64) (n : Nat) : x * lN (n + 1) = x * lN n + x := by
  rw [← lN_1, Int64.mul_add, Int64.mul_one]
theorem gs_one (pr : Nat → Int64) (v : Nat) (F : Nat → List Int32) (c0 : Nat) (y : Int32) : ∀ N, gs_ pr v (fun c => if c0 = c then y :: F c else F c) N = gs_ pr v F N + (if c0 < N ∧ nz_ pr v c0 = true then pr (dg c0 v) else 0)
  | 0 => by rw [if_neg (fun q => Nat.not_lt_zero _ q.1)]; exact (Int64.add_zero _).symm
  | N + 1 => by
    show gs_ pr v (fun c => if c0 = c then y :: F c else F c) N + (if nz_ pr v N = true then pr (dg N v) * lN (if c0 = N then y :: F N else F N).length else 0) = gs_ pr v F N + (if nz_ pr v N = true then pr (dg N v) * lN (F N).length else 0) + _
    rw [gs_one pr v F c0 y N]
    by_cases z : c0 = N
    · have e0 : ¬ (c0 < N ∧ nz_ pr v c0 = true) := fun q => by omega
      rw [if_pos z, if_neg e0, Int64.add_zero, List.length_cons, lN_s1, z]
      by_cases w : nz_ pr v N = true
      · rw [if_pos w, if_pos w, if_pos ⟨by omega, w⟩, Int64.add_assoc]
      · rw [if_neg w, if_neg w, if_neg (fun q => w q.2), Int64.add_zero, Int64.add_zero]
    · rw [if_neg z]
      by_cases w : c0 < N ∧ nz_ pr v c0 = true
      · have w' : c0 < N + 1 ∧ nz_ pr v c0 = true := ⟨by omega, w.2⟩
        rw [if_pos w, if_pos w', Int64.add_assoc, Int64.add_assoc, Int64.add_comm (pr (dg c0 v))]
      · have w' : ¬ (c0 < N + 1 ∧ nz_ pr v c0 = true) := fun q => w ⟨by omega, q.2⟩
        rw [if_neg w, if_neg w', Int64.add_zero, Int64.add_zero]
theorem yu_acc (pr : Nat → Int64) (v : Nat) : ∀ (L : List ((Nat → Int32) × Int32)) su, yu_f pr v su L = su + yu_f pr v 0 L
  | [], su => (Int64.add_zero su).symm
  | x :: L, su => by
    show yu_f pr v (if hp_ pr x.1 v = true then su + pr (x.1 v).toNatClampNeg else su) L = su + yu_f pr v (if hp_ pr x.1 v = true then 0 + pr (x.1 v).toNatClampNeg else 0) L
    by_cases z : hp_ pr x.1 v = true
    · rw [if_pos z, if_pos z, yu_acc pr v L (su + _), yu_acc pr v L (0 + _), Int64.zero_add, Int64.add_assoc]
    · rw [if_neg z, if_neg z, yu_acc pr v L su]
/-- in every match of L the variable v has a node -/
def bd_ (v : Nat) (L : List ((Nat → Int32) × Int32)) : Prop := ∀ x, x ∈ L → s_ok x.1 ∧ ¬ x.1 v = -1
theorem bd_dg {s : Nat → Int32} {v : Nat} (hv : v < 4) (hs : s_ok s) (hb : ¬ s v = -1) : s v = nI (dg (cde s) v) := by
  rw [(cde_dg hs).2 v hv]
  rcases (zc_lt (hs v hv)).2 with ⟨a, _⟩ | a
  · exact absurd a hb
  · exact a
theorem hp_nz {pr : Nat → Int64} {s : Nat → Int32} {v : Nat} (hv : v < 4) (hs : s_ok s) (hb : ¬ s v = -1) : hp_ pr s v = nz_ pr v (cde s) ∧ (s v).toNatClampNeg = dg (cde s) v := by
  have e := bd_dg hv hs hb
  have l := dg_lt (cde s) v
  have ec : (s v).toNatClampNeg = dg (cde s) v := by
    rw [e, nI_clamp (by omega)]
  refine ⟨?_, ec⟩
  unfold hp_ nz_
  rw [ec, decide_eq_true (show ¬ s v < 0 from by rw [e]; exact nI_pos (by omega)), Bool.true_and]
theorem yu_sel {pr : Nat → Int64} {v : Nat} (hv : v < 4) : ∀ L : List ((Nat → Int32) × Int32), bd_ v L → yu_f pr v 0 L = gs_ pr v (fun c => sel c L) 4096
  | [], _ => by
    have : ∀ N, gs_ pr v (fun c => sel c []) N = 0 := by
      intro N
      induction N with
      | zero => rfl
      | succ N ih =>
        show gs_ pr v (fun c => sel c []) N + _ = 0
        rw [ih, show lN (sel N []).length = 0 from rfl, Int64.mul_zero, Int64.zero_add]
        split <;> rfl
    exact (this 4096).symm
  | x :: L, h => by
    have e : (fun c => sel c (x :: L)) = fun c => if cde x.1 = c then x.2 :: sel c L else sel c L := funext fun c => sel_c c x L
    obtain ⟨hs, hb⟩ := h x List.mem_cons_self
    obtain ⟨q1, q2⟩ := hp_nz (pr := pr) hv hs hb
    have hc := (cde_dg hs).1
    show yu_f pr v (if hp_ pr x.1 v = true then 0 + pr (x.1 v).toNatClampNeg else 0) L = _
    rw [e, gs_one pr v (fun c => sel c L) (cde x.1) x.2 4096, yu_acc, yu_sel hv L (fun y hy => h y (List.mem_cons_of_mem _ hy)), q1, q2, Int64.add_comm]
    by_cases z : nz_ pr v (cde x.1) = true
    · rw [if_pos z, if_pos ⟨hc, z⟩, Int64.zero_add]
    · rw [if_neg z, if_neg (fun q => z q.2)]
theorem yo_1 (pr : Nat → Int64) (v : Nat) : ∀ L : List ((Nat → Int32) × Int32), yo_f pr v 1 L = 1
  | [] => rfl
  | x :: L => by
    show yo_f pr v (if hp_ pr x.1 v = true then 1 else 1) L = 1
    rw [show (if hp_ pr x.1 v = true then (1 : Int32) else 1) = 1 from by split <;> rfl]
    exact yo_1 pr v L
theorem yo_any (pr : Nat → Int64) (v : Nat) : ∀ L : List ((Nat → Int32) × Int32), yo_f pr v 0 L = tg_z (L.any (fun x => hp_ pr x.1 v))
  | [] => rfl
  | x :: L => by
    show yo_f pr v (if hp_ pr x.1 v = true then 1 else 0) L = tg_z (hp_ pr x.1 v || L.any (fun x => hp_ pr x.1 v))
    cases e : hp_ pr x.1 v with
    | true => rw [if_pos rfl, yo_1]; rfl
    | false => rw [if_neg (by decide), yo_any pr v L]; rfl
theorem gb_iff (pr : Nat → Int64) (v : Nat) (X : Nat → List Int32) : ∀ N, gb_ pr v X N = true ↔ ∃ c, c < N ∧ nz_ pr v c = true ∧ ¬ X c = []
  | 0 => ⟨fun h => absurd (show false = true from h) (by decide), fun ⟨c, hc, _⟩ => absurd hc (Nat.not_lt_zero c)⟩
  | N + 1 => by
    show (gb_ pr v X N || (nz_ pr v N && !decide (X N = []))) = true ↔ _
    rw [Bool.or_eq_true, gb_iff pr v X N, Bool.and_eq_true, Bool.not_eq_true', decide_eq_false_iff_not]
    constructor
    · rintro (⟨c, h1, h2⟩ | h)
      · exact ⟨c, by omega, h2⟩
      · exact ⟨N, by omega, h⟩
    · rintro ⟨c, h1, h2⟩
      by_cases z : c = N
      · rw [z] at h2; exact Or.inr h2
      · exact Or.inl ⟨c, by omega, h2⟩
theorem yo_sel {pr : Nat → Int64} {v : Nat} (hv : v < 4) (L : List ((Nat → Int32) × Int32)) (h : bd_ v L) : yo_f pr v 0 L = tg_z (gb_ pr v (fun c => sel c L) 4096) := by
  rw [yo_any]
  congr 1
  rw [Bool.eq_iff_iff, gb_iff, List.any_eq_true]
  constructor
  · rintro ⟨x, hx, hq⟩
    obtain ⟨hs, hb⟩ := h x hx
    obtain ⟨q1, _⟩ := hp_nz (pr := pr) hv hs hb
    refine ⟨cde x.1, (cde_dg hs).1, by rw [← q1]; exact hq, fun z => ?_⟩
    have : x ∈ L.filter (fun y => decide (cde y.1 = cde x.1)) := List.mem_filter.mpr ⟨hx, decide_eq_true rfl⟩
    unfold sel at z
    rw [List.map_eq_nil_iff] at z
    rw [z] at this
    exact absurd this List.not_mem_nil
  · rintro ⟨c, _, hq, hne⟩
    cases e : L.filter (fun y => decide (cde y.1 = c)) with
    | nil => exact absurd (by unfold sel; rw [e]; rfl) hne
    | cons x L' =>
      have hx : x ∈ L.filter (fun y => decide (cde y.1 = c)) := by rw [e]; exact List.mem_cons_self
      obtain ⟨h1, h2⟩ := List.mem_filter.mp hx
      have h2 : cde x.1 = c := of_decide_eq_true h2
      obtain ⟨hs, hb⟩ := h x h1
      obtain ⟨q1, _⟩ := hp_nz (pr := pr) hv hs hb
      exact ⟨x, h1, by rw [q1, h2]; exact hq⟩
