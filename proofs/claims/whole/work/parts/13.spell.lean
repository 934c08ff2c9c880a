/-! spell -/
def ep_s (c : Nat → Nat) : Nat → Nat
  | 0 => 1
  | k + 1 => if c k ≤ 5 then ep_s c k - 1 else if c k = 10 ∨ c k = 11 then ep_s c k + 1 else ep_s c k
def ep_G (c : Nat → Nat) (n : Nat) : Prop := n ≤ 10 ∧ (∀ k, k < n → 0 < ep_s c k ∧ c k ≤ 14) ∧ ep_s c n = 0
theorem ep_bd (c : Nat → Nat) : ∀ k, ep_s c k ≤ k + 1
  | 0 => Nat.le_refl 1
  | k + 1 => by
    have := ep_bd c k
    unfold ep_s
    split
    · omega
    · split <;> omega
theorem ep_GW {c : Nat → Nat} {n : Nat} (h : ep_G c n) (hv : ∀ k, k < n → qu_T (c k)) : ep_W c n (ep_s c) := by
  refine ⟨rfl, h.2.2, fun k hk => ⟨(h.2.1 k hk).1, ?_⟩⟩
  have a := (h.2.1 k hk).2
  have b := hv k hk
  unfold qu_T at b
  have e : ep_s c (k + 1) = if c k ≤ 5 then ep_s c k - 1 else if c k = 10 ∨ c k = 11 then ep_s c k + 1 else ep_s c k := rfl
  rw [e]
  by_cases z : c k ≤ 5
  · exact Or.inl ⟨z, if_pos z⟩
  · rw [if_neg z]
    by_cases y : c k = 10 ∨ c k = 11
    · exact Or.inr (Or.inl ⟨y, if_pos y⟩)
    · exact Or.inr (Or.inr ⟨by omega, a, if_neg y⟩)
theorem ep_0 (c : Nat → Nat) : ¬ ep_s c 0 = 0 := Nat.one_ne_zero
theorem ep_l {c : Nat → Nat} {k : Nat} (h : c k ≤ 5) : ep_s c (k + 1) = ep_s c k - 1 := if_pos h
theorem ep_b {c : Nat → Nat} {k : Nat} (h : c k = 10 ∨ c k = 11) : ep_s c (k + 1) = ep_s c k + 1 := (if_neg (by omega)).trans (if_pos h)
theorem ep_u {c : Nat → Nat} {k : Nat} (h0 : ¬ c k ≤ 5) (h : ¬ (c k = 10 ∨ c k = 11)) : ep_s c (k + 1) = ep_s c k := (if_neg h0).trans (if_neg h)
variable {nT : Int32} {eT : Int32} {xlv : Int32} {xpc : Int32} {xqc : Int32} {xcc : Int32} {xec : Int32} {mc : Int32} {lw : Int32} {rc : Int32} {xla : Nat → Int32} {xpr : Nat → Int64} {xed : Nat → Int32} {sN : Nat → Int32} {sE : Nat → Int32} {sL : Nat → Int32} {sP : Nat → Int64} {sD : Nat → Int32} {pva : Nat → Int32} {pwa : Nat → Int32} {pam : Nat → Int32} {pdi : Nat → Int32} {plo : Nat → Int32} {phi : Nat → Int32} {ptk : Nat → Int32} {pco : Nat → Int32} {pex : Nat → Int32} {tr : Nat → Int32} {ds : Nat → Int32} {ch : Nat → Int32} {ar : Nat → Int32} {rN : Nat → Int32} {rM : Nat → Int32} {s1 : Nat → Int32} {s2 : Nat → Int32} {s3 : Nat → Int32} {s4 : Nat → Int32} {s5 : Nat → Int32}
variable {ylv : Int32} {ypc : Int32} {yqc : Int32} {ycc : Int32} {yec : Int32} {yde : Int32} {yus : Int32} {ywe : Int32} {yfo : Int32} {yli : Int32} {yso : Int32} {ysu : Int64} {yla : Nat → Int32} {ypr : Nat → Int64} {yfr : Nat → Int32} {yto : Nat → Int32} {yty : Nat → Int32} {ywt : Nat → Int32} {yst : Nat → Int32} {ypa : Nat → Int32} {ysp : Nat → Int32} {ypl : Nat → Int32} {ycp : Nat → Int32} {ybo : Nat → Int32} {ytk : Nat → Int32} {yno : Nat → Int32} {ych : Nat → Int32} {yfa : Nat → Int32}
theorem tg_xie {post : Int32 → Prop} {n : Nat} (hn : n ≤ 12) (hn' : n ≤ 10) {c : Nat → Nat} (hc : ∀ k, k < n → ptk k = nI (c k) ∧ qu_T (c k)) (h1 : ep_G c n → post 1) (h0 : ¬ ep_G c n → post 0) : ∀ d i, i + d = n → (∀ k, k < i → 0 < ep_s c k ∧ c k ≤ 14) → wX_isExpression_4 post (nI n) nT eT xlv xpc xqc xcc xec mc lw rc xla xpr xed sN sE sL sP sD pva pwa pam pdi plo phi ptk pco pex tr ds ch ar rN rM s1 s2 s3 s4 s5 (d + 1) (nI (ep_s c i)) (nI i) := by
  intro d
  induction d with
  | zero =>
    intro i hi hk
    have e : i = n := by omega
    subst e
    have b := ep_bd c i
    refine br_t (nI_le (by omega) (by omega)) ?_
    rcases Nat.eq_zero_or_pos (ep_s c i) with z | z
    · rw [z]
      exact br_t rfl (h1 ⟨hn', hk, z⟩)
    · exact br_f (nI_ne0 z (by omega)) (h0 (fun g => by have := g.2.2; omega))
  | succ d ih =>
    intro i hi hk
    have b := ep_bd c i
    obtain ⟨et, hT⟩ := hc i (by omega)
    have hT2 : c i < 2 ^ 31 := by unfold qu_T at hT; omega
    have bad : ¬ (0 < ep_s c i ∧ c i ≤ 14) → post 0 := fun q => h0 (fun g => q (g.2.1 i (by omega)))
    refine br_f (nI_ge (by omega) (by omega)) ⟨vp_in_nI (by omega) (by omega), nm_r (by rw [nI_clamp (by omega), et]) ?_⟩
    rcases Nat.eq_zero_or_pos (ep_s c i) with z | z
    · rw [z]
      exact br_t rfl (bad (by omega))
    refine br_f (nI_ne0 z (by omega)) ?_
    by_cases t1 : c i ≤ 14
    · have nx := ih (i + 1) (by omega) (fun k hk' => by
        by_cases z' : k = i
        · subst z'; exact ⟨z, t1⟩
        · exact hk k (by omega))
      have ne : ∀ a, a < 100 → c i ≠ a → ¬ nI (c i) = nI a := fun a ha q e => q ((nI_eq (by omega) (by omega)).mp e)
      refine br_t (nI_le (b := 14) t1 (by omega)) ?_
      by_cases t2 : c i ≤ 5
      · rw [ep_l t2] at nx
        refine br_f (nI_nlt (b := c i) (a := 5) t2 (by omega)) (nm_r (show _ = nI (ep_s c i - 1) from ?_) (nm_r (nI_1 i) nx))
        rw [show ep_s c i = (ep_s c i - 1) + 1 from by omega, pk_m1]; rfl
      · refine br_t (nI_lt (a := 5) (by omega) (by omega)) ?_
        by_cases t3 : c i = 10
        · rw [ep_b (Or.inl t3)] at nx
          exact br_t (by rw [t3]; rfl) (nm_r (nI_1 _) (nm_r (nI_1 i) nx))
        refine br_f (ne 10 (by omega) t3) ?_
        by_cases t4 : c i = 11
        · rw [ep_b (Or.inr t4)] at nx
          exact br_t (by rw [t4]; rfl) (nm_r (nI_1 _) (nm_r (nI_1 i) nx))
        rw [ep_u t2 (by omega)] at nx
        exact br_f (ne 11 (by omega) t4) (nm_r (nI_1 i) nx)
    · exact br_f (nI_ge (b := c i) (a := 14) (by omega) (by omega)) (bad (by omega))
theorem tg_y87 {post : Int32 → SY → Prop} {n w : Nat} (hn : n ≤ 12) (hw : w ≤ 20) (h1 : n ≤ 10 → 0 < n → w = 0 → ∃ f, wY_spell_110 post (nI n) ylv ypc yqc ycc (nI n) yde yus ywe yfo yli yso ysu f 0 yla ypr yfr yto yty ywt pva pwa pam pdi plo phi ptk pco pex yst ypa ysp ypl ycp ybo ytk yno ych yfa) (h0 : (10 < n ∨ n = 0 ∨ 0 < w) → post 0 (ylv, ypc, yqc, ycc, yec, yde, yus, ywe, yfo, yli, yso, ysu, yla, ypr, yfr, yto, yty, ywt, pva, pwa, pam, pdi, plo, phi, ptk, pco, pex, yst, ypa, ysp, ypl, ycp, ybo, ytk, yno, ych, yfa)) : wY_spell_87 post (nI n) (nI w) ylv ypc yqc ycc yec yde yus ywe yfo yli yso ysu yla ypr yfr yto yty ywt pva pwa pam pdi plo phi ptk pco pex yst ypa ysp ypl ycp ybo ytk yno ych yfa := by
  rcases Nat.eq_zero_or_pos n with z | z
  · subst z
    exact br_t rfl (h0 (by omega))
  refine br_f (nI_ne0 z (by omega)) ?_
  by_cases a : 10 < n
  · exact br_t (nI_lt (a := 10) a (by omega)) (h0 (by omega))
  refine br_f (nI_nlt (b := n) (a := 10) (by omega) (by omega)) ?_
  rcases Nat.eq_zero_or_pos w with y | y
  · subst y
    exact br_t (by decide) (h1 (by omega) z rfl)
  · exact br_f (nI_nle y (by omega)) (h0 (by omega))
theorem tg_yie2 {post : Int32 → SY → Prop} {n : Nat} (hn : n ≤ 12) {c : Nat → Nat} (hc : ∀ k, k < n → ptk k = nI (c k) ∧ qu_T (c k)) (h1 : ep_G c n → ∃ f, wY_spell_110 post (nI n) ylv ypc yqc ycc (nI n) yde yus ywe yfo yli yso ysu f 0 yla ypr yfr yto yty ywt pva pwa pam pdi plo phi ptk pco pex yst ypa ysp ypl ycp ybo ytk yno ych yfa) (h0 : ¬ ep_G c n → post 0 (ylv, ypc, yqc, ycc, yec, yde, yus, ywe, yfo, yli, yso, ysu, yla, ypr, yfr, yto, yty, ywt, pva, pwa, pam, pdi, plo, phi, ptk, pco, pex, yst, ypa, ysp, ypl, ycp, ybo, ytk, yno, ych, yfa)) : ∀ d i, i + d = n → (∀ k, k < i → 0 < ep_s c k ∧ c k ≤ 14) → (ep_s c i = 0 → i = n) → wY_spell_14 post (nI n) ylv ypc yqc ycc yec yde yus ywe yfo yli yso ysu yla ypr yfr yto yty ywt pva pwa pam pdi plo phi ptk pco pex yst ypa ysp ypl ycp ybo ytk yno ych yfa (d + 1) (nI (ep_s c i)) (nI i) := by
  intro d
  induction d with
  | zero =>
    intro i hi hk he
    have e : i = n := by omega
    subst e
    have b := ep_bd c i
    exact br_t (nI_le (by omega) (by omega)) (tg_y87 hn (by omega) (fun a z y => h1 ⟨a, hk, y⟩) (fun q => h0 (fun g => by
      have g1 := g.1
      have g2 := g.2.2
      rcases q with q | q | q
      · omega
      · subst q; exact absurd g2 (ep_0 c)
      · omega)))
  | succ d ih =>
    intro i hi hk he
    have b := ep_bd c i
    obtain ⟨et, hT⟩ := hc i (by omega)
    have hT2 : c i < 2 ^ 31 := by unfold qu_T at hT; omega
    have z : 0 < ep_s c i := by
      rcases Nat.eq_zero_or_pos (ep_s c i) with z | z
      · have := he z; omega
      · exact z
    have bad : ¬ (0 < ep_s c i ∧ c i ≤ 14) → post 0 (ylv, ypc, yqc, ycc, yec, yde, yus, ywe, yfo, yli, yso, ysu, yla, ypr, yfr, yto, yty, ywt, pva, pwa, pam, pdi, plo, phi, ptk, pco, pex, yst, ypa, ysp, ypl, ycp, ybo, ytk, yno, ych, yfa) := fun q => h0 (fun g => q (g.2.1 i (by omega)))
    have w : vp_in (nI i) 12 := vp_in_nI (by omega) (by omega)
    have c0 : (nI i).toNatClampNeg = i := nI_clamp (by omega)
    have K : ∀ x : Int32, (c i ≤ 14 → nI (ep_s c i) + x = nI (ep_s c (i + 1))) → wY_spell_55 post (wY_spell_14 post (nI n) ylv ypc yqc ycc yec yde yus ywe yfo yli yso ysu yla ypr yfr yto yty ywt pva pwa pam pdi plo phi ptk pco pex yst ypa ysp ypl ycp ybo ytk yno ych yfa (d + 1)) (nI n) (nI i) x (nI (ep_s c i)) ylv ypc yqc ycc yec yde yus ywe yfo yli yso ysu yla ypr yfr yto yty ywt pva pwa pam pdi plo phi ptk pco pex yst ypa ysp ypl ycp ybo ytk yno ych yfa := by
      intro x hx
      unfold wY_spell_55
      refine nm_e ⟨w, ?_⟩
      rw [c0, et]
      by_cases t1 : c i ≤ 14
      · rw [hx t1]
        have b' := ep_bd c (i + 1)
        have hk' : ∀ k, k < i + 1 → 0 < ep_s c k ∧ c k ≤ 14 := fun k hk' => by
          by_cases z' : k = i
          · subst z'; exact ⟨z, t1⟩
          · exact hk k (by omega)
        refine br_f (nI_nlt (b := c i) (a := 14) t1 (by omega)) ?_
        have e1 : nI n - 1 = nI (n - 1) := pk_sub (b := 1) (by omega)
        rw [e1]
        rcases Nat.eq_zero_or_pos (ep_s c (i + 1)) with y | y
        · have nx := ih (i + 1) (by omega) hk'
          rw [y] at nx ⊢
          refine br_t rfl ?_
          by_cases l : n - 1 ≤ i
          · exact br_t (nI_le l (by omega)) (nm_r (nI_1 i) (nx (fun _ => by omega)))
          · exact br_f (nI_ge (by omega) (by omega)) (h0 (fun g => by have := (g.2.1 (i + 1) (by omega)).1; omega))
        · exact br_f (nI_ne0 y (by omega)) (nm_r (nI_1 i) (ih (i + 1) (by omega) hk' (fun q => by omega)))
      · exact br_t (nI_lt (a := 14) (by omega) (by omega)) (bad (by omega))
    refine br_f (nI_ge (by omega) (by omega)) (br_f (nI_nle z (by omega)) ⟨w, ?_⟩)
    rw [c0, et]
    unfold qu_T at hT
    by_cases t1 : c i ≤ 5
    · refine br_f (nI_ge (b := 6) (by omega) (by omega)) (K _ (fun _ => ?_))
      rw [ep_l t1, show ep_s c i = (ep_s c i - 1) + 1 from by omega, pk_m1]; rfl
    refine br_t (nI_le (a := 6) (by omega) (by omega)) ⟨w, ?_⟩
    by_cases t2 : c i < 12
    · refine br_f (nI_ge (b := 12) (by omega) (by omega)) (K _ (fun _ => ?_))
      rw [ep_b (by omega), nI_1]
    · refine br_t (nI_le (a := 12) (by omega) (by omega)) (K _ (fun _ => ?_))
      rw [ep_u t1 (by omega), Int32.add_zero]
theorem tg_xsl {post : Int32 → SX → Prop} {n : Nat} (hn : n ≤ 10) (h : post 1 (nT, eT, xlv, xpc, xqc, xcc, (nI n), mc, lw, rc, xla, xpr, xed, sN, sE, sL, sP, sD, pva, pwa, pam, pdi, plo, phi, ptk, pco, (cy_f ptk pex n), tr, ds, ch, ar, rN, rM, s1, s2, s3, s4, s5)) : ∀ d i, i + d = n → wX_spell_28 post (nI n) nT eT xlv xpc xqc xcc xec mc lw rc (d + 1) (nI i) xla xpr xed sN sE sL sP sD pva pwa pam pdi plo phi ptk pco (cy_f ptk pex i) tr ds ch ar rN rM s1 s2 s3 s4 s5 := by
  intro d
  induction d with
  | zero =>
    intro i hi
    have e : i = n := by omega
    subst e
    exact br_t (nI_le (by omega) (by omega)) h
  | succ d ih =>
    intro i hi
    refine br_f (nI_ge (by omega) (by omega)) ⟨vp_in_nI (by omega) (by omega), vp_in_nI (by omega) (by omega), ?_⟩
    rw [nI_clamp (by omega)]
    exact nm_e (nm_r (nI_1 i) (ih (i + 1) (by omega)))
theorem tg_ysl {post : Int32 → SY → Prop} {n : Nat} (hn : n ≤ 10) (h : post 1 (ylv, ypc, yqc, ycc, yec, yde, yus, ywe, yfo, yli, yso, ysu, yla, ypr, yfr, yto, yty, ywt, pva, pwa, pam, pdi, plo, phi, ptk, pco, (cy_f ptk pex n), yst, ypa, ysp, ypl, ycp, ybo, ytk, yno, ych, yfa)) : ∀ d i, i + d = n → wY_spell_110 post (nI n) ylv ypc yqc ycc yec yde yus ywe yfo yli yso ysu (d + 1) (nI i) yla ypr yfr yto yty ywt pva pwa pam pdi plo phi ptk pco (cy_f ptk pex i) yst ypa ysp ypl ycp ybo ytk yno ych yfa := by
  intro d
  induction d with
  | zero =>
    intro i hi
    have e : i = n := by omega
    subst e
    exact br_t (nI_le (by omega) (by omega)) h
  | succ d ih =>
    intro i hi
    refine br_f (nI_ge (by omega) (by omega)) ⟨vp_in_nI (by omega) (by omega), vp_in_nI (by omega) (by omega), ?_⟩
    rw [nI_clamp (by omega)]
    exact nm_e (nm_r (nI_1 i) (ih (i + 1) (by omega)))
theorem i_vc_spell {k : Nat} {u : SX} {v : SY} (I : i_Rel k u v) (hk : k + 7 ≤ 3584) : wpX_spell (fun r u' => wpY_spell (fun r' v' => r' = r ∧ i_Rel (k + 7) u' v') v) u := by
  obtain ⟨nT, eT, xlv, xpc, xqc, xcc, xec, mc, lw, rc, xla, xpr, xed, sN, sE, sL, sP, sD, pva, pwa, pam, pdi, plo, phi, ptk, pco, pex, tr, ds, ch, ar, rN, rM, s1, s2, s3, s4, s5⟩ := u
  obtain ⟨ylv, ypc, yqc, ycc, yec, yde, yus, ywe, yfo, yli, yso, ysu, yla, ypr, yfr, yto, yty, ywt, qpva, qpwa, qpam, qpdi, qplo, qphi, qptk, qpco, qpex, yst, ypa, ysp, ypl, ycp, ybo, ytk, yno, ych, yfa⟩ := v
  obtain ⟨⟨rfl, rfl, rfl, rfl, rfl, rfl, rfl, rfl, rfl⟩, hG, hQ, hT, hC, hE⟩ := I
  obtain ⟨n, hn, rfl, rfl, ht⟩ := hT
  have hT0 : rl_T 0 0 ptk := ⟨0, by omega, rfl, rfl, fun b hb => absurd hb (Nat.not_lt_zero b)⟩
  have hc : ∀ k, k < n → ptk k = nI ((fun k => (ptk k).toNatClampNeg) k) ∧ qu_T ((fun k => (ptk k).toNatClampNeg) k) := fun k hk => by
    obtain ⟨t, h1, h2⟩ := ht k hk
    have : (ptk k).toNatClampNeg = t := by rw [h2, nI_clamp (by unfold qu_T at h1; omega)]
    dsimp only
    rw [this]
    exact ⟨h2, h1⟩
  generalize (fun k => (ptk k).toNatClampNeg) = c at hc
  unfold wpX_spell wpY_spell
  by_cases z : n ≤ 10
  · refine br_f (nI_nlt (b := n) (a := 10) z (by omega)) ⟨n + 1, tg_xie hn z hc (fun g => br_f tg_10 ⟨n + 1, tg_xsl z ⟨n + 1, tg_yie2 hn hc (fun _ => ⟨n + 1, tg_ysl z ⟨rfl, ?_⟩ n 0 (by omega)⟩) (fun g' => absurd g g') n 0 (by omega) (fun k hk => absurd hk (Nat.not_lt_zero k)) (fun q => absurd q (ep_0 c))⟩ n 0 (by omega)⟩) (fun g => br_t rfl ⟨n + 1, tg_yie2 hn hc (fun g' => absurd g' g) (fun _ => ⟨rfl, rl_mk _ hG hQ hT0 hC hE⟩) n 0 (by omega) (fun k hk => absurd hk (Nat.not_lt_zero k)) (fun q => absurd q (ep_0 c))⟩) n 0 (by omega) (fun k hk => absurd hk (Nat.not_lt_zero k))⟩
    exact rl_mk _ hG hQ hT0 hC ⟨n, c, z, rfl, rfl, fun j hj => by rw [cy_lt hj]; exact (hc j hj).1, Or.inr ⟨_, ep_GW g (fun j hj => (hc j hj).2)⟩⟩
  · exact br_t (nI_lt (a := 10) (by omega) (by omega)) ⟨n + 1, tg_yie2 hn hc (fun g => absurd g.1 z) (fun _ => ⟨rfl, rl_mk _ hG hQ hT0 hC hE⟩) n 0 (by omega) (fun k hk => absurd hk (Nat.not_lt_zero k)) (fun q => absurd q (ep_0 c))⟩
