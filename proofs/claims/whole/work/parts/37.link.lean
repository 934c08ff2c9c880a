/-! X's lists and Y's list hold the same matches -/
theorem cm_cong {pr : Nat → Int64} {s s' : Nat → Int32} {c cs os : Nat → Nat} {nm nu : Nat → Prop} {n : Nat} (hW : cd_W c nm n cs os nu) (h : ∀ v, v < 4 → nm v → s v = s' v) {k : Nat} (hk : k < n) (ho : os k = 0) (h1 : 10 ≤ c k) (h2 : c k ≤ 13) : cm_ pr s c k = cm_ pr s' c k := by
  obtain ⟨_, _, k1, o1, s1, _, r⟩ := cd_op hW hk ho h1 h2
  have vo : ∀ t, op_ nm t → vo_ pr s t = vo_ pr s' t := fun t ht => by
    unfold vo_
    rcases ht with ⟨a, b⟩ | ⟨a, b⟩
    · rw [if_pos a, if_pos a, h t a b]
    · rw [if_neg (by omega), if_neg (by omega)]
  unfold cm_
  by_cases z : c k = 13
  · obtain ⟨_, k2, _, s2⟩ := r (by omega)
    obtain ⟨a1, b1⟩ := s1 z
    obtain ⟨a2, b2⟩ := s2 z
    rw [if_pos z, if_pos z, h _ a1 b1, h _ a2 b2]
  · rw [if_neg z, if_neg z, vo _ o1]
    by_cases y : c k = 12
    · rw [if_pos y, if_pos y]
    · obtain ⟨_, k2, o2, _⟩ := r y
      rw [if_neg y, if_neg y, vo _ o2]
theorem tk_cong {pr : Nat → Int64} {s s' : Nat → Int32} {c cs os : Nat → Nat} {nm nu : Nat → Prop} {n : Nat} (hW : cd_W c nm n cs os nu) (h : ∀ v, v < 4 → nm v → s v = s' v) : ∀ d i, i + d = n → ∀ l, tk_ pr s c cs n i l = tk_ pr s' c cs n i l
  | 0, i, hi, l => by
    unfold tk_
    rw [show n - i = 0 from by omega]
    rfl
  | d + 1, i, hi, l => by
    have ih := tk_cong (pr := pr) hW h d (i + 1) (by omega)
    obtain ⟨_, co1, co2⟩ := cd_10 hW (k := i) (by omega)
    rcases Nat.eq_zero_or_pos (os i) with o | o
    · obtain ⟨t1, t2, _⟩ := co2 o
      rw [tk_e (s := s) (k := i) (by omega), tk_e (s := s') (k := i) (by omega), ih l, ih (cs i), ih (cs i - 1)]
      by_cases z : c i ≤ 13
      · rw [cm_cong hW h (by omega) o t1 z]
      · rw [if_neg z, if_neg z]
    · rw [tk_op (by omega) (co1 o).1, tk_op (by omega) (co1 o).1]
      exact ih l
theorem cv_cong {pr : Nat → Int64} {s s' : Nat → Int32} {c cs os : Nat → Nat} {nm nu : Nat → Prop} {n : Nat} (hW : n = 0 ∨ cd_W c nm n cs os nu) (h : ∀ v, v < 4 → nm v → s v = s' v) : cv_ pr s c cs n = cv_ pr s' c cs n := by
  unfold cv_
  rcases hW with z | hW
  · rw [decide_eq_true (Or.inl z), decide_eq_true (Or.inl z)]
  · rw [tk_cong hW h n 0 (by omega) 0]
/-- every match of Y's list has a node for each named variable -/
theorem mt_el {P : Nat} {V Lo Hi : Nat → Nat} {st : Nat → Bool} {ok : Nat → Nat → Bool} {al : Nat → Nat → Nat → Option Nat} {tru : (Nat → Int32) → Bool} (hal : ∀ k c p q, al k c p = some q → q < 8) {x : (Nat → Int32) × Int32} :
    ∀ f k n p s u, k < P → (st k = true ∨ p < 8) → s_ok s → (∀ j, j < k → ¬ s (V j) = -1) → x ∈ mt_Y P V Lo Hi st ok al tru f k n p s u → s_ok x.1 ∧ ∀ j, j < P → ¬ x.1 (V j) = -1
  | 0, k, n, p, s, u, _, _, _, _, hx => absurd hx List.not_mem_nil
  | f + 1, k, n, p, s, u, hk, hp, hs, hb, hx => by
    have ih := mt_el (Lo := Lo) (Hi := Hi) (ok := ok) (tru := tru) (st := st) (V := V) (P := P) hal (x := x) f
    have hb' : ∀ m : Nat, m < 8 → ∀ j, j < k + 1 → ¬ upd s (V k) (nI m) (V j) = -1 := fun m hm j hj => by
      by_cases z : V j = V k
      · rw [z, pk_us]; exact nI_m1 (by omega)
      · rw [pk_un z]
        by_cases y : j = k
        · subst y; exact absurd rfl z
        · exact hb j (by omega)
    have go : ∀ m : Nat, m < 8 → x ∈ (if k + 1 < P then mt_Y P V Lo Hi st ok al tru f (k + 1) 0 m (upd s (V k) (nI m)) u else if tru (upd s (V k) (nI m)) = true then [(upd s (V k) (nI m), u)] else []) → s_ok x.1 ∧ ∀ j, j < P → ¬ x.1 (V j) = -1 := fun m hm hx => by
      split at hx
      · next z => exact ih (k + 1) 0 m _ u z (Or.inr hm) (s_up hs hm) (hb' m hm) hx
      · split at hx
        · rw [List.mem_singleton.mp hx]
          exact ⟨s_up hs hm, fun j hj => hb' m hm j (by omega)⟩
        · exact absurd hx List.not_mem_nil
    unfold mt_Y at hx
    by_cases z : st k = true
    · rw [if_pos z] at hx
      obtain ⟨i, _, hi, hx⟩ := fm_mem hx
      split at hx
      · exact go i (by omega) hx
      · exact absurd hx List.not_mem_nil
    · rw [if_neg z] at hx
      have hp' := hp.resolve_left z
      rcases List.mem_append.mp hx with hx | hx
      · split at hx
        · exact go p hp' hx
        · exact absurd hx List.not_mem_nil
      · obtain ⟨i, _, hi, hx⟩ := fm_mem hx
        split at hx
        · exact absurd hx List.not_mem_nil
        · split at hx
          · exact absurd hx List.not_mem_nil
          · cases e : al k i p with
            | none => rw [e] at hx; exact absurd hx List.not_mem_nil
            | some q =>
              rw [e] at hx
              exact ih k (n + 1) q s _ hk (Or.inr (hal k i p q e)) hs hb hx
noncomputable def xf_ (P nn : Nat) (nT eT : Int32) (xla pva pwa pam pdi plo phi yfr yto yty : Nat → Int32) (ypr : Nat → Int64) (c cs : Nat → Nat) (cc : Nat) : List Int32 :=
  @ite (List Int32) (0 < P ∧ pa_ nT xla pva pwa P cc ∧ cv_ ypr (fun v => nI (dg cc v)) c cs nn = true) (Classical.propDecidable _) (fl_ P (Vf pva) (Vf plo) (Vf phi) (fe_ eT yfr yto yty pam pdi) (nx_ pam P) (dg cc)) []
variable {nT : Int32} {eT : Int32} {xlv : Int32} {xpc : Int32} {xqc : Int32} {xcc : Int32} {xec : Int32} {mc : Int32} {lw : Int32} {rc : Int32} {xla : Nat → Int32} {xpr : Nat → Int64} {xed : Nat → Int32} {sN : Nat → Int32} {sE : Nat → Int32} {sL : Nat → Int32} {sP : Nat → Int64} {sD : Nat → Int32} {pva : Nat → Int32} {pwa : Nat → Int32} {pam : Nat → Int32} {pdi : Nat → Int32} {plo : Nat → Int32} {phi : Nat → Int32} {ptk : Nat → Int32} {pco : Nat → Int32} {pex : Nat → Int32} {tr : Nat → Int32} {ds : Nat → Int32} {ch : Nat → Int32} {ar : Nat → Int32} {rN : Nat → Int32} {rM : Nat → Int32} {s1 : Nat → Int32} {s2 : Nat → Int32} {s3 : Nat → Int32} {s4 : Nat → Int32} {s5 : Nat → Int32}
variable {ylv : Int32} {ypc : Int32} {yqc : Int32} {ycc : Int32} {yec : Int32} {yde : Int32} {yus : Int32} {ywe : Int32} {yfo : Int32} {yli : Int32} {yso : Int32} {ysu : Int64} {yla : Nat → Int32} {ypr : Nat → Int64} {yfr : Nat → Int32} {yto : Nat → Int32} {yty : Nat → Int32} {ywt : Nat → Int32} {yst : Nat → Int32} {ypa : Nat → Int32} {ysp : Nat → Int32} {ypl : Nat → Int32} {ycp : Nat → Int32} {ybo : Nat → Int32} {ytk : Nat → Int32} {yno : Nat → Int32} {ych : Nat → Int32} {yfa : Nat → Int32}
theorem al_lt (hR : gr_R nT eT xla xpr xed yla ypr yfr yto yty ywt) {k c p q : Nat} (h : al_ eT yfr yto yty pam pdi k c p = some q) : q < 8 := by
  unfold al_ at h
  split at h
  · next z =>
    have he : c / 2 < 12 := by
      rcases Nat.lt_or_ge (c / 2) 12 with x | x
      · exact x
      · rw [hR.2.1 _ x] at z; exact absurd z.1 (by decide)
    rcases hR.2.2.2 _ he with ⟨_, f, t, y, w, hf, ht, _, _, _, _, _, e1, e2, _, _⟩ | ⟨a, _⟩
    · rw [e1, e2, nI_clamp (by omega), nI_clamp (by omega)] at h
      split at h
      · split at h
        · cases h; exact hf
        · exact absurd h (by simp)
      · split at h
        · cases h; exact ht
        · exact absurd h (by simp)
    · rw [a] at z; exact absurd z.1 (by decide)
  · exact absurd h (by simp)
theorem xf_xl {P nn : Nat} {c cs : Nat → Nat} (hP : 0 < P) : xl_ P nn nT eT xla pva pwa pam pdi plo phi yfr yto yty ypr c cs (xf_ P nn nT eT xla pva pwa pam pdi plo phi yfr yto yty ypr c cs) := by
  intro cc _
  unfold xf_
  refine ⟨fun h => ⟨fun e => if_pos ⟨hP, h, e⟩, fun e => if_neg (fun q => ?_)⟩, fun h => if_neg (fun q => h q.2.1)⟩
  rw [e] at q
  exact absurd q.2.2 (by decide)
theorem xf_0 {P nn : Nat} {c cs : Nat → Nat} (hP : P = 0) (i : Nat) : xf_ P nn nT eT xla pva pwa pam pdi plo phi yfr yto yty ypr c cs i = [] := by
  unfold xf_
  exact if_neg (fun q => by omega)
theorem ok_la (hR : gr_R nT eT xla xpr xed yla ypr yfr yto yty ywt) {k m : Nat} (hm : m < 8) : ok_ nT yla pwa k m = true ↔ (bt nT m = true ∧ (xla m &&& pwa k) = pwa k) := by
  unfold ok_
  rw [Bool.and_eq_true, Bool.and_eq_true, decide_eq_true_eq, decide_eq_true_eq]
  constructor
  · rintro ⟨_, b, l⟩
    rcases hR.2.2.1 m hm with ⟨_, ⟨l', _, e1, e2⟩, _⟩ | ⟨q, _⟩
    · rw [e2] at l; rw [e1]; exact ⟨b, l⟩
    · rw [b] at q; exact absurd q (by decide)
  · rintro ⟨b, l⟩
    rcases hR.2.2.1 m hm with ⟨_, ⟨l', _, e1, e2⟩, _⟩ | ⟨q, _⟩
    · rw [e1] at l; rw [e2]; exact ⟨hm, b, l⟩
    · rw [b] at q; exact absurd q (by decide)
theorem sel_xf {P nn : Nat} {c cs os : Nat → Nat} {nu : Nat → Prop} {s : Nat → Int32} (hP : P ≤ 6) (hp : ∀ k, k < P → qu_P pva pwa pam pdi plo phi k) (hH : qu_H pam phi P ≤ 5) (hR : gr_R nT eT xla xpr xed yla ypr yfr yto yty ywt) (hW : nn = 0 ∨ cd_W c (nm_P pva P) nn cs os nu) (hs : ∀ v, v < 4 → s v = -1) {cc : Nat} (hc : cc < 4096) :
    (sel cc (ly_ P (Vf pva) (Vf plo) (Vf phi) (stp pam) (ok_ nT yla pwa) (al_ eT yfr yto yty pam pdi) (trp ypr c cs nn) s)).Perm (xf_ P nn nT eT xla pva pwa pam pdi plo phi yfr yto yty ypr c cs cc) := by
  rcases Nat.eq_zero_or_pos P with z | z
  · rw [xf_0 z cc]
    unfold ly_
    rw [if_neg (by omega)]
    exact List.Perm.refl _
  unfold ly_
  rw [if_pos z]
  have h00 : pam 0 = 0 := by
    obtain ⟨_, _, _, v⟩ := q_f (hp 0 z)
    by_cases q : pam 0 = 0
    · exact q
    · exact absurd (v q).1 (Nat.lt_irrefl 0)
  have hV : ∀ k, k < P → Vf pva k < 4 := fun k hk => (q_f (hp k hk)).2.1
  have htru : ∀ s', s_ok s' → (∀ j, j < P → s' (Vf pva j) = nI (dg cc (Vf pva j))) → trp ypr c cs nn s' = cv_ ypr (fun v => nI (dg cc v)) c cs nn := fun s' _ h' => by
    refine cv_cong hW (fun v hv hn => ?_)
    obtain ⟨j, hj, e⟩ := hn
    obtain ⟨b1, b2, _, _⟩ := q_f (hp j hj)
    have ev : Vf pva j = v := (nI_eq (by omega) (by omega)).mp (b1.symm.trans e)
    rw [← ev]
    exact h' j hj
  have Y := mt_YT (Lo := Vf plo) (Hi := Vf phi) (st := stp pam) (ok := ok_ nT yla pwa) (al := al_ eT yfr yto yty pam pdi) hc htru hV (fun k c p q h => al_lt hR h) 14 0 0 0 s 0 z (Or.inl (decide_eq_true h00)) (s_m1 hs) (fun j hj => absurd hj (Nat.not_lt_zero j))
  have shp := sh_of hp
  by_cases pc : pa_ nT xla pva pwa P cc
  · have hcp : cp P (Vf pva) s 0 cc := fun v hv => by
      refine Or.inr ⟨hs v hv, ?_⟩
      rcases pc v hv with ⟨⟨j, hj, e⟩, _⟩ | ⟨_, q⟩
      · obtain ⟨b1, b2, _, _⟩ := q_f (hp j hj)
        exact Or.inr ⟨j, Nat.zero_le j, hj, (nI_eq (by omega) (by omega)).mp (b1.symm.trans e)⟩
      · exact Or.inl q
    have hok : ∀ k, k < P → ok_ nT yla pwa k (dg cc (Vf pva k)) = true := fun k hk => by
      rw [ok_la hR (dg_lt _ _)]
      rcases pc (Vf pva k) (hV k hk) with ⟨_, b, l⟩ | ⟨q, _⟩
      · exact ⟨b, l k hk rfl⟩
      · exact absurd ⟨k, hk, (q_f (hp k hk)).1⟩ q
    rw [Y.1 hcp]
    cases e : cv_ ypr (fun v => nI (dg cc v)) c cs nn with
    | false =>
      rw [if_neg (by decide)]
      rw [((xf_xl z cc hc).1 pc).2 e]
    | true =>
      rw [if_pos rfl, ((xf_xl z cc hc).1 pc).1 e]
      exact mt_fl (fe := fe_ eT yfr yto yty pam pdi) shp hok (fun k e p hk hst => al_fe ((q_f (hp k hk)).2.2.2 (of_decide_eq_false hst)).2.1) z hP (decide_eq_true h00) hH rfl 0
  · rw [(xf_xl z cc hc).2 pc]
    by_cases hcp : cp P (Vf pva) s 0 cc
    · have : ∃ j, j < P ∧ ok_ nT yla pwa j (dg cc (Vf pva j)) = false := by
        refine Classical.byContradiction (fun no => pc (fun v hv => ?_))
        have all : ∀ j, j < P → ok_ nT yla pwa j (dg cc (Vf pva j)) = true := fun j hj => by
          cases e : ok_ nT yla pwa j (dg cc (Vf pva j)) with
          | true => rfl
          | false => exact absurd ⟨j, hj, e⟩ no
        by_cases hn : nm_P pva P v
        · obtain ⟨j, hj, e⟩ := hn
          obtain ⟨b1, b2, _, _⟩ := q_f (hp j hj)
          have ev : Vf pva j = v := (nI_eq (by omega) (by omega)).mp (b1.symm.trans e)
          have o := (ok_la hR (dg_lt _ _)).mp (all j hj)
          rw [ev] at o
          refine Or.inl ⟨⟨j, hj, e⟩, o.1, fun k hk ek => ?_⟩
          have o2 := (ok_la hR (dg_lt _ _)).mp (all k hk)
          rw [ek] at o2
          exact o2.2
        · refine Or.inr ⟨hn, ?_⟩
          rcases hcp v hv with q | ⟨_, q | ⟨j, _, hj, ej⟩⟩
          · have := hs v hv
            rw [q] at this
            exact absurd this (nI_m1 (by have := dg_lt cc v; omega))
          · exact q
          · exact absurd ⟨j, hj, by rw [← ej]; exact (q_f (hp j hj)).1⟩ hn
      obtain ⟨j, hj, e⟩ := this
      rw [Y.1 hcp, mt_no hj e 14 0 0 0 0 (Nat.zero_le j)]
      split <;> exact List.Perm.refl _
    · rw [Y.2 hcp]
theorem ly_el {P nn v : Nat} {c cs : Nat → Nat} {s : Nat → Int32} (hp : ∀ k, k < P → qu_P pva pwa pam pdi plo phi k) (hR : gr_R nT eT xla xpr xed yla ypr yfr yto yty ywt) (hs : ∀ v, v < 4 → s v = -1) : (∀ x, x ∈ ly_ P (Vf pva) (Vf plo) (Vf phi) (stp pam) (ok_ nT yla pwa) (al_ eT yfr yto yty pam pdi) (trp ypr c cs nn) s → cde x.1 < 4096) ∧ (v < 4 → nm_P pva P v → bd_ v (ly_ P (Vf pva) (Vf plo) (Vf phi) (stp pam) (ok_ nT yla pwa) (al_ eT yfr yto yty pam pdi) (trp ypr c cs nn) s)) := by
  rcases Nat.eq_zero_or_pos P with z | z
  · unfold ly_
    rw [if_neg (by omega)]
    exact ⟨fun x hx => absurd hx List.not_mem_nil, fun _ _ x hx => absurd hx List.not_mem_nil⟩
  unfold ly_
  rw [if_pos z]
  have h00 : pam 0 = 0 := by
    obtain ⟨_, _, _, v⟩ := q_f (hp 0 z)
    by_cases q : pam 0 = 0
    · exact q
    · exact absurd (v q).1 (Nat.lt_irrefl 0)
  have E := fun x (hx : x ∈ mt_Y P (Vf pva) (Vf plo) (Vf phi) (stp pam) (ok_ nT yla pwa) (al_ eT yfr yto yty pam pdi) (trp ypr c cs nn) 14 0 0 0 s 0) => mt_el (fun k c p q h => al_lt hR h) 14 0 0 0 s 0 z (Or.inl (decide_eq_true h00)) (s_m1 hs) (fun j hj => absurd hj (Nat.not_lt_zero j)) hx
  refine ⟨fun x hx => (cde_dg (E x hx).1).1, fun hv hn x hx => ⟨(E x hx).1, ?_⟩⟩
  obtain ⟨j, hj, e⟩ := hn
  obtain ⟨b1, b2, _, _⟩ := q_f (hp j hj)
  have ev : Vf pva j = v := (nI_eq (by omega) (by omega)).mp (b1.symm.trans e)
  rw [← ev]
  exact (E x hx).2 j hj
