/-! where -/
def cd_s (c : Nat → Nat) : Nat → Nat × Nat × Bool
  | 0 => (1, 0, false)
  | k + 1 => if 0 < (cd_s c k).2.1 then ((cd_s c k).1, (cd_s c k).2.1 - 1, (cd_s c k).2.2)
    else if c k = 14 ∨ c k = 15 then ((cd_s c k).1 + 1, 0, (cd_s c k).2.2)
    else if c k = 16 then ((cd_s c k).1, 0, (cd_s c k).2.2)
    else ((cd_s c k).1 - 1, (if c k = 12 then 1 else 2), decide (c k ≠ 13))
def cd_ok (nm : Nat → Prop) (c : Nat → Nat) (k : Nat) : Prop :=
  (0 < (cd_s c k).2.1 ∧ ((c k < 4 ∧ nm (c k)) ∨ ((cd_s c k).2.2 = true ∧ 1000 ≤ c k))) ∨ ((cd_s c k).2.1 = 0 ∧ 0 < (cd_s c k).1 ∧ 10 ≤ c k ∧ c k ≤ 16)
def cd_G (nm : Nat → Prop) (c : Nat → Nat) (n : Nat) : Prop := (∀ k, k < n → cd_ok nm c k) ∧ (cd_s c n).1 = 0 ∧ (cd_s c n).2.1 = 0
theorem cd_so {c : Nat → Nat} {k : Nat} (h : 0 < (cd_s c k).2.1) : cd_s c (k + 1) = ((cd_s c k).1, (cd_s c k).2.1 - 1, (cd_s c k).2.2) := if_pos h
theorem cd_sb {c : Nat → Nat} {k : Nat} (h : ¬ 0 < (cd_s c k).2.1) (h1 : c k = 14 ∨ c k = 15) : cd_s c (k + 1) = ((cd_s c k).1 + 1, 0, (cd_s c k).2.2) := (if_neg h).trans (if_pos h1)
theorem cd_sn {c : Nat → Nat} {k : Nat} (h : ¬ 0 < (cd_s c k).2.1) (h1 : c k = 16) : cd_s c (k + 1) = ((cd_s c k).1, 0, (cd_s c k).2.2) := (if_neg h).trans ((if_neg (by omega)).trans (if_pos h1))
theorem cd_sc {c : Nat → Nat} {k : Nat} (h : ¬ 0 < (cd_s c k).2.1) (h1 : c k ≤ 13) : cd_s c (k + 1) = ((cd_s c k).1 - 1, (if c k = 12 then 1 else 2), decide (c k ≠ 13)) := (if_neg h).trans ((if_neg (by omega)).trans (if_neg (by omega)))
theorem cd_GW {nm : Nat → Prop} {c : Nat → Nat} {n : Nat} (h : cd_G nm c n) (hv : ∀ k, k < n → c k ≤ 10999) : cd_W c nm n (fun k => (cd_s c k).1) (fun k => (cd_s c k).2.1) (fun k => (cd_s c k).2.2 = true) := by
  refine ⟨rfl, rfl, h.2.1, h.2.2, fun k hk => ?_⟩
  dsimp only
  rcases h.1 k hk with ⟨a, b⟩ | ⟨a, b, d, e⟩
  · refine Or.inl ⟨a, ?_, ?_, ?_, b.imp id (fun q => ⟨q.1, q.2, hv k hk⟩)⟩ <;> rw [cd_so a]
  · have a' : ¬ 0 < (cd_s c k).2.1 := by omega
    by_cases z : c k = 14 ∨ c k = 15
    · exact Or.inr (Or.inl ⟨a, b, by omega, by omega, by rw [cd_sb a' z], by rw [cd_sb a' z]⟩)
    · by_cases z2 : c k = 16
      · exact Or.inr (Or.inr (Or.inl ⟨a, b, z2, by rw [cd_sn a' z2], by rw [cd_sn a' z2]⟩))
      · refine Or.inr (Or.inr (Or.inr ⟨a, b, d, by omega, by rw [cd_sc a' (by omega)], by rw [cd_sc a' (by omega)], ?_⟩))
        rw [cd_sc a' (by omega)]
        simp
theorem cd_bd (c : Nat → Nat) : ∀ k, (cd_s c k).1 + (cd_s c k).2.1 ≤ k + 1 ∧ (cd_s c k).2.1 ≤ 2
  | 0 => ⟨Nat.le_refl 1, Nat.zero_le 2⟩
  | k + 1 => by
    have := cd_bd c k
    by_cases a : 0 < (cd_s c k).2.1
    · rw [cd_so a]; dsimp only; omega
    · by_cases z : c k = 14 ∨ c k = 15
      · rw [cd_sb a z]; dsimp only; omega
      · by_cases z2 : c k = 16
        · rw [cd_sn a z2]; dsimp only; omega
        · unfold cd_s
          rw [if_neg a, if_neg z, if_neg z2]
          dsimp only
          split <;> omega
/-- n cells copied -/
def cy_f (a b : Nat → Int32) : Nat → Nat → Int32
  | 0 => b
  | n + 1 => upd (cy_f a b n) n (a n)
theorem cy_lt {a b : Nat → Int32} : ∀ {n j : Nat}, j < n → cy_f a b n j = a j
  | 0, _, h => absurd h (Nat.not_lt_zero _)
  | n + 1, j, h => by
    show upd (cy_f a b n) n (a n) j = a j
    by_cases z : j = n
    · subst z; exact pk_us
    · rw [pk_un z]; exact cy_lt (by omega)
variable {nT : Int32} {eT : Int32} {xlv : Int32} {xpc : Int32} {xqc : Int32} {xcc : Int32} {xec : Int32} {mc : Int32} {lw : Int32} {rc : Int32} {xla : Nat → Int32} {xpr : Nat → Int64} {xed : Nat → Int32} {sN : Nat → Int32} {sE : Nat → Int32} {sL : Nat → Int32} {sP : Nat → Int64} {sD : Nat → Int32} {pva : Nat → Int32} {pwa : Nat → Int32} {pam : Nat → Int32} {pdi : Nat → Int32} {plo : Nat → Int32} {phi : Nat → Int32} {ptk : Nat → Int32} {pco : Nat → Int32} {pex : Nat → Int32} {tr : Nat → Int32} {ds : Nat → Int32} {ch : Nat → Int32} {ar : Nat → Int32} {rN : Nat → Int32} {rM : Nat → Int32} {s1 : Nat → Int32} {s2 : Nat → Int32} {s3 : Nat → Int32} {s4 : Nat → Int32} {s5 : Nat → Int32}
variable {ylv : Int32} {ypc : Int32} {yqc : Int32} {ycc : Int32} {yec : Int32} {yde : Int32} {yus : Int32} {ywe : Int32} {yfo : Int32} {yli : Int32} {yso : Int32} {ysu : Int64} {yla : Nat → Int32} {ypr : Nat → Int64} {yfr : Nat → Int32} {yto : Nat → Int32} {yty : Nat → Int32} {ywt : Nat → Int32} {yst : Nat → Int32} {ypa : Nat → Int32} {ysp : Nat → Int32} {ypl : Nat → Int32} {ycp : Nat → Int32} {ybo : Nat → Int32} {ytk : Nat → Int32} {yno : Nat → Int32} {ych : Nat → Int32} {yfa : Nat → Int32}
theorem tg_xnm {post : Int32 → Prop} {P : Nat} (hP : P ≤ 6) {x : Int32} (h1 : (∃ k, k < P ∧ pva k = x) → post 1) (h0 : (¬ ∃ k, k < P ∧ pva k = x) → post 0) : wpX_isNamed post (nT, eT, xlv, (nI P), xqc, xcc, xec, mc, lw, rc, xla, xpr, xed, sN, sE, sL, sP, sD, pva, pwa, pam, pdi, plo, phi, ptk, pco, pex, tr, ds, ch, ar, rN, rM, s1, s2, s3, s4, s5) x := by
  have K : ∀ d i, i + d = P → (∀ k, k < i → ¬ pva k = x) → wX_isNamed_2 post x nT eT xlv (nI P) xqc xcc xec mc lw rc xla xpr xed sN sE sL sP sD pva pwa pam pdi plo phi ptk pco pex tr ds ch ar rN rM s1 s2 s3 s4 s5 (d + 1) (nI i) := by
    intro d
    induction d with
    | zero =>
      intro i hi hj
      have e : i = P := by omega
      subst e
      exact br_t (nI_le (by omega) (by omega)) (h0 (fun ⟨k, a, b⟩ => hj k a b))
    | succ d ih =>
      intro i hi hj
      refine br_f (nI_ge (by omega) (by omega)) ⟨vp_in_nI (by omega) (by omega), ?_⟩
      rw [nI_clamp (by omega)]
      refine br_c (fun e => h1 ⟨i, by omega, e⟩) (fun e => nm_r (nI_1 i) (ih (i + 1) (by omega) (fun k hk => ?_)))
      by_cases z : k = i
      · subst z; exact e
      · exact hj k (by omega)
  exact ⟨P + 1, K P 0 (by omega) (fun k hk => absurd hk (Nat.not_lt_zero k))⟩
theorem tg_ynm {post : Int32 → Prop} {P : Nat} (hP : P ≤ 6) {x : Int32} (h1 : (∃ k, k < P ∧ pva k = x) → post 1) (h0 : (¬ ∃ k, k < P ∧ pva k = x) → post 0) : wpY_isNamed post (ylv, (nI P), yqc, ycc, yec, yde, yus, ywe, yfo, yli, yso, ysu, yla, ypr, yfr, yto, yty, ywt, pva, pwa, pam, pdi, plo, phi, ptk, pco, pex, yst, ypa, ysp, ypl, ycp, ybo, ytk, yno, ych, yfa) x := by
  have K : ∀ d i, i + d = P → (∀ k, k < i → ¬ pva k = x) → wY_isNamed_2 post x ylv (nI P) yqc ycc yec yde yus ywe yfo yli yso ysu yla ypr yfr yto yty ywt pva pwa pam pdi plo phi ptk pco pex yst ypa ysp ypl ycp ybo ytk yno ych yfa (d + 1) (nI i) := by
    intro d
    induction d with
    | zero =>
      intro i hi hj
      have e : i = P := by omega
      subst e
      exact br_t (nI_le (by omega) (by omega)) (h0 (fun ⟨k, a, b⟩ => hj k a b))
    | succ d ih =>
      intro i hi hj
      refine br_f (nI_ge (by omega) (by omega)) ⟨vp_in_nI (by omega) (by omega), ?_⟩
      rw [nI_clamp (by omega)]
      refine br_c (fun e => h1 ⟨i, by omega, e⟩) (fun e => nm_r (nI_1 i) (ih (i + 1) (by omega) (fun k hk => ?_)))
      by_cases z : k = i
      · subst z; exact e
      · exact hj k (by omega)
  exact ⟨P + 1, K P 0 (by omega) (fun k hk => absurd hk (Nat.not_lt_zero k))⟩
/-- v is named by one of the first P parts -/
def nm_P (va : Nat → Int32) (P v : Nat) : Prop := ∃ k, k < P ∧ va k = nI v
theorem nm_4 {va wa am di lo h : Nat → Int32} {P v : Nat} (hp : ∀ k, k < P → qu_P va wa am di lo h k) (hv : v < 2 ^ 31) (q : nm_P va P v) : v < 4 := by
  obtain ⟨k, hk, e⟩ := q
  obtain ⟨v', _, _, h1, _, _, e', _⟩ := hp k hk
  have := (nI_eq hv (by omega)).mp (e.symm.trans e')
  omega
theorem tg_xic {post : Int32 → Prop} {P n : Nat} (hP : P ≤ 6) (hn : n ≤ 12) {c : Nat → Nat} (hp : ∀ k, k < P → qu_P pva pwa pam pdi plo phi k) (hc : ∀ k, k < n → ptk k = nI (c k) ∧ qu_T (c k)) (h1 : cd_G (nm_P pva P) c n → post 1) (h0 : ¬ cd_G (nm_P pva P) c n → post 0) : ∀ d i, i + d = n → (∀ k, k < i → cd_ok (nm_P pva P) c k) → wX_isCondition_10 post (nI n) nT eT xlv (nI P) xqc xcc xec mc lw rc xla xpr xed sN sE sL sP sD pva pwa pam pdi plo phi ptk pco pex tr ds ch ar rN rM s1 s2 s3 s4 s5 (d + 1) (nI (cd_s c i).1) (nI (cd_s c i).2.1) (tg_z (cd_s c i).2.2) (nI i) := by
  intro d
  induction d with
  | zero =>
    intro i hi hk
    have e : i = n := by omega
    subst e
    have b := cd_bd c i
    refine br_t (nI_le (by omega) (by omega)) ?_
    rcases Nat.eq_zero_or_pos (cd_s c i).1 with z | z
    · rcases Nat.eq_zero_or_pos (cd_s c i).2.1 with y | y
      · rw [z, y]
        exact br_t rfl (br_t rfl (h1 ⟨hk, z, y⟩))
      · rw [z]
        exact br_t rfl (br_f (nI_ne0 y (by omega)) (h0 (fun g => by have := g.2.2; omega)))
    · exact br_f (nI_ne0 z (by omega)) (h0 (fun g => by have := g.2.1; omega))
  | succ d ih =>
    intro i hi hk
    have b := cd_bd c i
    obtain ⟨et, hT⟩ := hc i (by omega)
    have hT2 : c i < 2 ^ 31 := by unfold qu_T at hT; omega
    have bad : ¬ cd_ok (nm_P pva P) c i → post 0 := fun q => h0 (fun g => q (g.1 i (by omega)))
    have next : cd_ok (nm_P pva P) c i → wX_isCondition_10 post (nI n) nT eT xlv (nI P) xqc xcc xec mc lw rc xla xpr xed sN sE sL sP sD pva pwa pam pdi plo phi ptk pco pex tr ds ch ar rN rM s1 s2 s3 s4 s5 (d + 1) (nI (cd_s c (i + 1)).1) (nI (cd_s c (i + 1)).2.1) (tg_z (cd_s c (i + 1)).2.2) (nI (i + 1)) := fun q => ih (i + 1) (by omega) (fun k hk' => by
      by_cases z : k = i
      · subst z; exact q
      · exact hk k (by omega))
    refine br_f (nI_ge (by omega) (by omega)) ⟨vp_in_nI (by omega) (by omega), nm_r (by rw [nI_clamp (by omega), et]) ?_⟩
    rcases Nat.eq_zero_or_pos (cd_s c i).2.1 with o | o
    · have o' : ¬ 0 < (cd_s c i).2.1 := by omega
      rw [o]
      refine br_t (by decide) ?_
      rcases Nat.eq_zero_or_pos (cd_s c i).1 with z | z
      · rw [z]
        exact br_t rfl (bad (fun q => by unfold cd_ok at q; omega))
      refine br_f (nI_ne0 z (by omega)) ?_
      by_cases t1 : c i < 10
      · exact br_t (nI_lt (b := 10) t1 (by decide)) (bad (fun q => by unfold cd_ok at q; omega))
      refine br_f (nI_nlt (b := 10) (by omega) (by omega)) ?_
      by_cases t2 : c i ≤ 16
      · have ok : cd_ok (nm_P pva P) c i := Or.inr ⟨o, z, by omega, t2⟩
        have nx := next ok
        have ne : ∀ a, a < 100 → c i ≠ a → ¬ nI (c i) = nI a := fun a ha q e => q ((nI_eq (by omega) (by omega)).mp e)
        refine br_t (nI_le (b := 16) t2 (by decide)) ?_
        by_cases t3 : c i = 14
        · rw [cd_sb o' (Or.inl t3)] at nx
          exact br_t (by rw [t3]; rfl) (nm_r (nI_1 _) (nm_r (nI_1 i) nx))
        refine br_f (ne 14 (by omega) t3) ?_
        by_cases t4 : c i = 15
        · rw [cd_sb o' (Or.inr t4)] at nx
          exact br_t (by rw [t4]; rfl) (nm_r (nI_1 _) (nm_r (nI_1 i) nx))
        refine br_f (ne 15 (by omega) t4) ?_
        by_cases t5 : c i = 16
        · rw [cd_sn o' t5] at nx
          exact br_t (by rw [t5]; rfl) (nm_r (nI_1 i) nx)
        refine br_f (ne 16 (by omega) t5) ?_
        rw [cd_sc o' (by omega)] at nx
        refine nm_r (show _ = nI ((cd_s c i).1 - 1) from ?_) ?_
        · rw [show (cd_s c i).1 = ((cd_s c i).1 - 1) + 1 from by omega, pk_m1]; rfl
        · by_cases t6 : c i = 12
          · rw [if_pos t6, decide_eq_true (by omega)] at nx
            exact br_t (by rw [t6]; rfl) (br_f (ne 13 (by omega) (by omega)) (nm_r (nI_1 i) nx))
          · refine br_f (ne 12 (by omega) t6) ?_
            rw [if_neg t6] at nx
            by_cases t7 : c i = 13
            · rw [decide_eq_false (by omega)] at nx
              exact br_t (by rw [t7]; rfl) (nm_r (nI_1 i) nx)
            · rw [decide_eq_true t7] at nx
              exact br_f (ne 13 (by omega) t7) (nm_r (nI_1 i) nx)
      · exact br_f (nI_ge (b := c i) (a := 16) (by omega) (by omega)) (bad (fun q => by unfold cd_ok at q; omega))
    · refine br_f (nI_nle o (by omega)) ?_
      have nx := next
      rw [cd_so o] at nx
      have go : cd_ok (nm_P pva P) c i → ∀ x3_63 : Int32, x3_63 = nI (cd_s c i).2.1 + (-1) → ∀ x5_64 : Int32, x5_64 = nI i + 1 → wX_isCondition_10 post (nI n) nT eT xlv (nI P) xqc xcc xec mc lw rc xla xpr xed sN sE sL sP sD pva pwa pam pdi plo phi ptk pco pex tr ds ch ar rN rM s1 s2 s3 s4 s5 (d + 1) (nI (cd_s c i).1) x3_63 (tg_z (cd_s c i).2.2) x5_64 := fun q => nm_r (show _ = nI ((cd_s c i).2.1 - 1) from by
        rw [show (cd_s c i).2.1 = ((cd_s c i).2.1 - 1) + 1 from by omega, pk_m1]; rfl) (nm_r (nI_1 i) (nx q))
      by_cases t1 : 1000 ≤ c i
      · refine br_t (nI_le (a := 1000) t1 (by omega)) ⟨tg_zn _, tg_zbr (fun e => bad ?_) (fun e => go (Or.inl ⟨o, Or.inr ⟨e, t1⟩⟩))⟩
        rintro (⟨_, ⟨q, _⟩ | ⟨q, _⟩⟩ | ⟨q, _⟩)
        · omega
        · rw [e] at q; exact absurd q (by decide)
        · omega
      · refine br_f (nI_ge (b := 1000) (by omega) (by omega)) (tg_xnm hP (fun q => ⟨rfl, br_f tg_10 (go (Or.inl ⟨o, Or.inl ⟨nm_4 hp (by omega) q, q⟩⟩))⟩) (fun q => ⟨rfl, br_t rfl (bad (fun w => ?_))⟩))
        rcases w with ⟨_, ⟨_, w⟩ | ⟨_, w⟩⟩ | ⟨w, _⟩
        · exact q w
        · omega
        · omega
