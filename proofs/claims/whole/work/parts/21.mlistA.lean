/-! Y's list, code by code, is T's -/
def sel (c : Nat) (L : List ((Nat → Int32) × Int32)) : List Int32 := (L.filter (fun x => decide (cde x.1 = c))).map Prod.snd
theorem sel_nil (c : Nat) : sel c [] = [] := rfl
theorem sel_app (c : Nat) (a b : List ((Nat → Int32) × Int32)) : sel c (a ++ b) = sel c a ++ sel c b := by unfold sel; rw [List.filter_append, List.map_append]
theorem sel_fm (c : Nat) (g : Nat → List ((Nat → Int32) × Int32)) (m j : Nat) : sel c (fm g m j) = fm (fun i => sel c (g i)) m j := fm_map (sel c) (sel_nil c) (sel_app c) g m j
theorem sel_1 {c : Nat} {s : Nat → Int32} {u : Int32} (h : cde s = c) : sel c [(s, u)] = [u] := by unfold sel; simp [h]
theorem sel_0 {c : Nat} {s : Nat → Int32} {u : Int32} (h : ¬ cde s = c) : sel c [(s, u)] = [] := by unfold sel; simp [h]
section
variable {P : Nat} {V Lo Hi : Nat → Nat} {st : Nat → Bool} {ok : Nat → Nat → Bool} {al : Nat → Nat → Nat → Option Nat} {tru : (Nat → Int32) → Bool} {c : Nat} {tb : Bool}
/-- what one value of f says of all frames -/
def mt_IH (P : Nat) (V Lo Hi : Nat → Nat) (st : Nat → Bool) (ok : Nat → Nat → Bool) (al : Nat → Nat → Nat → Option Nat) (tru : (Nat → Int32) → Bool) (c : Nat) (tb : Bool) (f : Nat) : Prop :=
  ∀ k n p s u, k < P → (st k = true ∨ p < 8) → s_ok s → (∀ j, j < k → ¬ s (V j) = -1) →
    (cp P V s k c → sel c (mt_Y P V Lo Hi st ok al tru f k n p s u) = if tb = true then mt_T P V Lo Hi st ok al (dg c) f k n p u else []) ∧ (¬ cp P V s k c → sel c (mt_Y P V Lo Hi st ok al tru f k n p s u) = [])
theorem mt_go (hc : c < 4096) (htru : ∀ s, s_ok s → (∀ j, j < P → s (V j) = nI (dg c (V j))) → tru s = tb) (hV : ∀ k, k < P → V k < 4) {f k p : Nat} {s : Nat → Int32} {u : Int32} (ih : mt_IH P V Lo Hi st ok al tru c tb f) (hk : k < P) (hp : p < 8) (hs : s_ok s) (hb : ∀ j, j < k + 1 → ¬ s (V j) = -1) :
    (cp P V s (k + 1) c → sel c (if k + 1 < P then mt_Y P V Lo Hi st ok al tru f (k + 1) 0 p s u else if tru s = true then [(s, u)] else []) = if tb = true then (if k + 1 < P then mt_T P V Lo Hi st ok al (dg c) f (k + 1) 0 p u else [u]) else []) ∧
    (¬ cp P V s (k + 1) c → sel c (if k + 1 < P then mt_Y P V Lo Hi st ok al tru f (k + 1) 0 p s u else if tru s = true then [(s, u)] else []) = []) := by
  by_cases z : k + 1 < P
  · rw [if_pos z, if_pos z]
    exact ih (k + 1) 0 p s u z (Or.inr hp) hs hb
  · have e : k + 1 = P := by omega
    rw [if_neg z, if_neg z, e, cp_end hs hc]
    refine ⟨fun h => ?_, fun h => ?_⟩
    · have q := (cp_end (P := P) (V := V) hs hc).mpr h
      have t : tru s = tb := htru s hs (fun j hj => by
        rcases q (V j) (hV j hj) with w | ⟨w, _⟩
        · exact w
        · exact absurd w (hb j (by omega)))
      rw [t]
      cases tb
      · exact sel_nil c
      · exact sel_1 h
    · split
      · exact sel_0 h
      · exact sel_nil c
theorem mt_YT (hc : c < 4096) (htru : ∀ s, s_ok s → (∀ j, j < P → s (V j) = nI (dg c (V j))) → tru s = tb) (hV : ∀ k, k < P → V k < 4) (hal : ∀ k c p q, al k c p = some q → q < 8) : ∀ f, mt_IH P V Lo Hi st ok al tru c tb f
  | 0 => fun k n p s u _ _ _ _ => by
    unfold mt_Y mt_T
    refine ⟨fun _ => ?_, fun _ => sel_nil c⟩
    cases tb <;> exact sel_nil c
  | f + 1 => by
    have ih := mt_YT hc htru hV hal f
    intro k n p s u hk hp hs hb
    have stp := cp_step (c := c) hk (hV k hk) hs
    have dl := dg_lt c (V k)
    have hb' : ∀ m : Nat, m < 8 → ∀ j, j < k + 1 → ¬ upd s (V k) (nI m) (V j) = -1 := fun m hm j hj => by
      by_cases z : V j = V k
      · rw [z, pk_us]
        intro q
        have := nI_pos (n := m) (by omega)
        rw [q] at this
        exact absurd (by decide) this
      · rw [pk_un z]
        by_cases y : j = k
        · subst y; exact absurd rfl z
        · exact hb j (by omega)
    have ncp : ∀ m : Nat, m < 8 → m ≠ dg c (V k) → ¬ cp P V (upd s (V k) (nI m)) (k + 1) c := fun m hm hne h => by
      rcases h (V k) (hV k hk) with q | ⟨q, _⟩
      · rw [pk_us, nI_eq (by omega) (by omega)] at q; exact hne q
      · exact hb' m hm k (by omega) q
    unfold mt_Y mt_T
    by_cases hst : st k = true
    · rw [if_pos hst, if_pos hst, sel_fm]
      have G := fun i (hi : i < 8) => mt_go (u := u) hc htru hV ih hk hi (s_up hs (v := V k) hi) (hb' i hi)
      rw [fm_one (i0 := dg c (V k)) (by omega) (by omega) (fun i _ hi hne => by
        split
        · exact (G i (by omega)).2 (ncp i (by omega) hne)
        · exact sel_nil c)]
      refine ⟨fun h => ?_, fun h => ?_⟩
      · obtain ⟨h1, h2⟩ := stp.mp h
        have g := (G (dg c (V k)) dl).1 h2
        by_cases o : ok k (dg c (V k)) = true
        · rw [if_pos ⟨o, h1⟩, if_pos o]; exact g
        · rw [if_neg (fun q => o q.1), if_neg o]
          cases tb <;> exact sel_nil c
      · by_cases o : ok k (dg c (V k)) = true ∧ (s (V k) < 0 ∨ s (V k) = nI (dg c (V k)))
        · rw [if_pos o]
          exact (G (dg c (V k)) dl).2 (fun q => h (stp.mpr ⟨o.2, q⟩))
        · rw [if_neg o]; exact sel_nil c
    · have hp' : p < 8 := hp.resolve_left hst
      rw [if_neg hst, if_neg hst, sel_app, sel_fm]
      have G := mt_go (u := u) hc htru hV ih hk hp' (s_up hs (v := V k) hp') (hb' p hp')
      refine ⟨fun h => ?_, fun h => ?_⟩
      · obtain ⟨h1, h2⟩ := stp.mp h
        have eB : fm (fun i => sel c (if bt u (i / 2) = true then [] else if n = Hi k then [] else om (al k i p) (fun q => mt_Y P V Lo Hi st ok al tru f k (n + 1) q s (ub u (i / 2))))) 24 0 = if tb = true then fm (fun i => if bt u (i / 2) = true then [] else if n = Hi k then [] else om (al k i p) (fun q => mt_T P V Lo Hi st ok al (dg c) f k (n + 1) q (ub u (i / 2)))) 24 0 else [] := by
          have t : ∀ i, sel c (if bt u (i / 2) = true then [] else if n = Hi k then [] else om (al k i p) (fun q => mt_Y P V Lo Hi st ok al tru f k (n + 1) q s (ub u (i / 2)))) = if tb = true then (if bt u (i / 2) = true then [] else if n = Hi k then [] else om (al k i p) (fun q => mt_T P V Lo Hi st ok al (dg c) f k (n + 1) q (ub u (i / 2)))) else [] := fun i => by
            split
            · cases tb <;> exact sel_nil c
            · split
              · cases tb <;> exact sel_nil c
              · cases e : al k i p with
                | none => cases tb <;> exact sel_nil c
                | some q => exact (ih k (n + 1) q s _ hk (Or.inr (hal k i p q e)) hs hb).1 h
          cases tb
          · exact fm_nil (fun i _ _ => (t i).trans (if_neg (by decide)))
          · exact fm_cong (fun i _ _ => (t i).trans (if_pos rfl))
        rw [eB]
        by_cases z : p = dg c (V k)
        · rw [← z] at h2
          have g := G.1 h2
          have h1' : s (V k) < 0 ∨ s (V k) = nI p := by rw [z]; exact h1
          by_cases o : Lo k ≤ n ∧ ok k p = true
          · have x1 : Lo k ≤ n ∧ ok k p = true ∧ (s (V k) < 0 ∨ s (V k) = nI p) := ⟨o.1, o.2, h1'⟩
            have x2 : Lo k ≤ n ∧ ok k p = true ∧ p = dg c (V k) := ⟨o.1, o.2, z⟩
            rw [if_pos x1, if_pos x2, g]
            cases tb <;> rfl
          · have x1 : ¬ (Lo k ≤ n ∧ ok k p = true ∧ (s (V k) < 0 ∨ s (V k) = nI p)) := fun q => o ⟨q.1, q.2.1⟩
            have x2 : ¬ (Lo k ≤ n ∧ ok k p = true ∧ p = dg c (V k)) := fun q => o ⟨q.1, q.2.1⟩
            rw [if_neg x1, if_neg x2, sel_nil]
            cases tb <;> rfl
        · have e0 : sel c (if Lo k ≤ n ∧ ok k p = true ∧ (s (V k) < 0 ∨ s (V k) = nI p) then (if k + 1 < P then mt_Y P V Lo Hi st ok al tru f (k + 1) 0 p (upd s (V k) (nI p)) u else if tru (upd s (V k) (nI p)) = true then [(upd s (V k) (nI p), u)] else []) else []) = [] := by
            split
            · exact G.2 (ncp p hp' z)
            · exact sel_nil c
          have x2 : ¬ (Lo k ≤ n ∧ ok k p = true ∧ p = dg c (V k)) := fun q => z q.2.2
          rw [e0, if_neg x2]
          cases tb <;> rfl
      · have e0 : sel c (if Lo k ≤ n ∧ ok k p = true ∧ (s (V k) < 0 ∨ s (V k) = nI p) then (if k + 1 < P then mt_Y P V Lo Hi st ok al tru f (k + 1) 0 p (upd s (V k) (nI p)) u else if tru (upd s (V k) (nI p)) = true then [(upd s (V k) (nI p), u)] else []) else []) = [] := by
          split
          · next o =>
            refine G.2 (fun q => ?_)
            by_cases z : p = dg c (V k)
            · rw [z] at q o
              exact h (stp.mpr ⟨o.2.2, q⟩)
            · exact ncp p hp' z q
          · exact sel_nil c
        rw [e0, List.nil_append]
        refine fm_nil (fun i _ _ => ?_)
        split
        · exact sel_nil c
        · split
          · exact sel_nil c
          · cases e : al k i p with
            | none => exact sel_nil c
            | some q => exact (ih k (n + 1) q s _ hk (Or.inr (hal k i p q e)) hs hb).2 h
end
