theorem tg_hi {x : Int32} (n : Nat) (hn : n < 2 ^ 30) (h : nI (n + 1) ≤ x) : ¬ x < 0 ∧ ¬ x ≤ nI n ∧ nI n < x := by
  have a : nI n < x := Int32.lt_of_lt_of_le (nI_lt (Nat.lt_succ_self n) (by omega)) h
  have b : (0 : Int32) ≤ nI n := nI_pos' (by omega)
  exact ⟨fun z => absurd (Int32.lt_of_lt_of_le (Int32.lt_trans z (Int32.lt_of_le_of_lt b a)) (Int32.le_refl x)) (Int32.lt_irrefl), fun z => absurd (Int32.lt_of_lt_of_le a z) Int32.lt_irrefl, a⟩
variable {nT : Int32} {eT : Int32} {xlv : Int32} {xpc : Int32} {xqc : Int32} {xcc : Int32} {xec : Int32} {mc : Int32} {lw : Int32} {rc : Int32} {xla : Nat → Int32} {xpr : Nat → Int64} {xed : Nat → Int32} {sN : Nat → Int32} {sE : Nat → Int32} {sL : Nat → Int32} {sP : Nat → Int64} {sD : Nat → Int32} {pva : Nat → Int32} {pwa : Nat → Int32} {pam : Nat → Int32} {pdi : Nat → Int32} {plo : Nat → Int32} {phi : Nat → Int32} {ptk : Nat → Int32} {pco : Nat → Int32} {pex : Nat → Int32} {tr : Nat → Int32} {ds : Nat → Int32} {ch : Nat → Int32} {ar : Nat → Int32} {rN : Nat → Int32} {rM : Nat → Int32} {s1 : Nat → Int32} {s2 : Nat → Int32} {s3 : Nat → Int32} {s4 : Nat → Int32} {s5 : Nat → Int32}
variable {ylv : Int32} {ypc : Int32} {yqc : Int32} {ycc : Int32} {yec : Int32} {yde : Int32} {yus : Int32} {ywe : Int32} {yfo : Int32} {yli : Int32} {yso : Int32} {ysu : Int64} {yla : Nat → Int32} {ypr : Nat → Int64} {yfr : Nat → Int32} {yto : Nat → Int32} {yty : Nat → Int32} {ywt : Nat → Int32} {yst : Nat → Int32} {ypa : Nat → Int32} {ysp : Nat → Int32} {ypl : Nat → Int32} {ycp : Nat → Int32} {ybo : Nat → Int32} {ytk : Nat → Int32} {yno : Nat → Int32} {ych : Nat → Int32} {yfa : Nat → Int32}
theorem tg_yi2 {post : SY → Prop} (h : ∀ yto : Nat → Int32, (∀ j, j < 60 → yto j = -1) → post (ylv, ypc, yqc, ycc, yec, yde, yus, ywe, yfo, yli, yso, ysu, yla, ypr, yfr, yto, yty, ywt, pva, pwa, pam, pdi, plo, phi, ptk, pco, pex, yst, ypa, ysp, ypl, ycp, ybo, ytk, yno, ych, yfa)) : ∀ d i (yto : Nat → Int32), i + d = 60 → (∀ j, j < i → yto j = -1) → wY_init_237 post ylv ypc yqc ycc yec yde yus ywe yfo yli yso ysu (d + 1) (nI i) yla ypr yfr yto yty ywt pva pwa pam pdi plo phi ptk pco pex yst ypa ysp ypl ycp ybo ytk yno ych yfa := by
  intro d
  induction d with
  | zero =>
    intro i yto hi hj
    exact br_t (nI_le (a := 60) (by omega) (by omega)) (h yto (fun j hj' => hj j (by omega)))
  | succ d ih =>
    intro i yto hi hj
    refine br_f (nI_ge (b := 60) (by omega) (by decide)) ⟨vp_in_nI (by omega) (by omega), nm_r (tg_u (by omega)) (nm_r (nI_1 i) (ih (i + 1) _ (by omega) (fun j hj' => ?_)))⟩
    by_cases z : j = i
    · subst z; exact pk_us
    · rw [pk_un z]; exact hj j (by omega)
theorem tg_yi1 {post : SY → Prop} (h : ∀ (yla : Nat → Int32) (ypr : Nat → Int64) (yto : Nat → Int32), (∀ j, j < 40 → yla j = -1) → (∀ j, j < 60 → yto j = -1) → post (ylv, ypc, yqc, ycc, yec, yde, yus, ywe, yfo, yli, yso, ysu, yla, ypr, yfr, yto, yty, ywt, pva, pwa, pam, pdi, plo, phi, ptk, pco, pex, yst, ypa, ysp, ypl, ycp, ybo, ytk, yno, ych, yfa)) : ∀ d i (yla : Nat → Int32) (ypr : Nat → Int64), i + d = 40 → (∀ j, j < i → yla j = -1) → wY_init_207 post ylv ypc yqc ycc yec yde yus ywe yfo yli yso ysu (d + 1) (nI i) yla ypr yfr yto yty ywt pva pwa pam pdi plo phi ptk pco pex yst ypa ysp ypl ycp ybo ytk yno ych yfa := by
  intro d
  induction d with
  | zero =>
    intro i yla ypr hi hj
    exact br_t (nI_le (a := 40) (by omega) (by omega)) ⟨61, tg_yi2 (fun yto ht => h yla ypr yto (fun j hj' => hj j (by omega)) ht) 60 0 yto (by omega) (fun j hj' => absurd hj' (Nat.not_lt_zero j))⟩
  | succ d ih =>
    intro i yla ypr hi hj
    refine br_f (nI_ge (b := 40) (by omega) (by decide)) ⟨vp_in_nI (by omega) (by omega), nm_r (tg_u (by omega)) ⟨vp_in_nI (by omega) (by omega), nm_r (tg_uL (by omega)) (nm_r (nI_1 i) (ih (i + 1) _ _ (by omega) (fun j hj' => ?_)))⟩⟩
    by_cases z : j = i
    · subst z; exact pk_us
    · rw [pk_un z]; exact hj j (by omega)
theorem i_vc0 : wpX_init (fun u => wpY_init (fun v => i_Rel 0 u v)) := by
  refine ⟨41, tg_yi1 (fun yla ypr yto h1 h2 => ?_) 40 0 _ _ (by omega) (fun j hj' => absurd hj' (Nat.not_lt_zero j))⟩
  refine rl_mk 0 ⟨⟨fun i _ => b_0 i, fun i _ => b_0 i, fun n hn => Or.inr ⟨b_0 n, h1 n (by omega)⟩, fun e he => Or.inr ⟨b_0 e, h2 e (by omega)⟩⟩, 0, by omega, rfl, rfl, fun b hb => absurd hb (Nat.not_lt_zero b)⟩ ⟨0, by omega, rfl, rfl, fun b hb => absurd hb (Nat.not_lt_zero b), Nat.zero_le _⟩ ⟨0, by omega, rfl, rfl, fun b hb => absurd hb (Nat.not_lt_zero b)⟩ ⟨0, fun _ => 0, by omega, rfl, rfl, fun b hb => absurd hb (Nat.not_lt_zero b), Or.inl rfl⟩ ⟨0, fun _ => 0, by omega, rfl, rfl, fun b hb => absurd hb (Nat.not_lt_zero b), Or.inl rfl⟩
/-! node -/
theorem tg_ynl {post : Int32 → SY → Prop} {x : Int32} (hR : gr_R nT eT xla xpr xed yla ypr yfr yto yty ywt) {j : Nat} (hj : j ≤ 8) (ha : ∀ i, i < j → bt nT i = true) (hf : j < 8 → bt nT j = false) (h1 : j < 8 → post (nI j) (ylv, ypc, yqc, ycc, yec, yde, yus, ywe, yfo, yli, yso, ysu, (upd yla j x), (vp_updL ypr j 9000000000000000000), yfr, yto, yty, ywt, pva, pwa, pam, pdi, plo, phi, ptk, pco, pex, yst, ypa, ysp, ypl, ycp, ybo, ytk, yno, ych, yfa)) (h2 : j = 8 → post (-2) (ylv, ypc, yqc, ycc, yec, yde, yus, ywe, yfo, yli, yso, ysu, yla, ypr, yfr, yto, yty, ywt, pva, pwa, pam, pdi, plo, phi, ptk, pco, pex, yst, ypa, ysp, ypl, ycp, ybo, ytk, yno, ych, yfa)) : ∀ d i, i + d = j → wY_node_14 post x ylv ypc yqc ycc yec yde yus ywe yfo yli yso ysu yla ypr yfr yto yty ywt pva pwa pam pdi plo phi ptk pco pex yst ypa ysp ypl ycp ybo ytk yno ych yfa (d + 1) (nI i) := by
  intro d
  induction d with
  | zero =>
    intro i hi
    have e : i = j := by omega
    subst e
    by_cases z : i < 8
    · refine br_f (nI_ge (b := 8) z (by decide)) (tg_yin z hR (tg_zbr (fun _ => ⟨vp_in_nI (by omega) (by omega), nm_r (tg_u (by omega)) ⟨vp_in_nI (by omega) (by omega), nm_r (tg_uL (by omega)) (h1 z)⟩⟩) (fun e => ?_)))
      rw [hf z] at e; exact absurd e (by decide)
    · have e : i = 8 := by omega
      exact br_t (nI_le (a := 8) (by omega) (by omega)) (h2 e)
  | succ d ih =>
    intro i hi
    refine br_f (nI_ge (b := 8) (by omega) (by decide)) (tg_yin (by omega) hR (tg_zbr (fun e => ?_) (fun _ => nm_r (nI_1 i) (ih (i + 1) (by omega)))))
    rw [ha i (by omega)] at e; exact absurd e (by decide)
theorem i_vc_node {k : Nat} {u : SX} {v : SY} (I : i_Rel k u v) (hk : k + 7 ≤ 3584) (v1 : Int32) : wpX_node (fun r u' => wpY_node (fun r' v' => r' = r ∧ i_Rel (k + 7) u' v') v v1) u v1 := by
  obtain ⟨nT, eT, xlv, xpc, xqc, xcc, xec, mc, lw, rc, xla, xpr, xed, sN, sE, sL, sP, sD, pva, pwa, pam, pdi, plo, phi, ptk, pco, pex, tr, ds, ch, ar, rN, rM, s1, s2, s3, s4, s5⟩ := u
  obtain ⟨ylv, ypc, yqc, ycc, yec, yde, yus, ywe, yfo, yli, yso, ysu, yla, ypr, yfr, yto, yty, ywt, qpva, qpwa, qpam, qpdi, qplo, qphi, qptk, qpco, qpex, yst, ypa, ysp, ypl, ycp, ybo, ytk, yno, ych, yfa⟩ := v
  obtain ⟨⟨rfl, rfl, rfl, rfl, rfl, rfl, rfl, rfl, rfl⟩, hG, hQ, hT, hC, hE⟩ := I
  obtain ⟨hR, L, hL, rfl, rfl, hS⟩ := hG
  rcases pk_ix v1 (n := 16) (by omega) with c | c | ⟨l, hl, rfl⟩
  · exact br_t c (br_t c (br_t rfl ⟨rfl, rl_mk _ ⟨hR, L, hL, rfl, rfl, hS⟩ hQ hT hC hE⟩))
  · obtain ⟨c0, c1, c2⟩ := tg_hi 15 (by omega) c
    exact br_f c0 (br_f c1 (br_f c0 (br_t c2 (br_t rfl ⟨rfl, rl_mk _ ⟨hR, L, hL, rfl, rfl, hS⟩ hQ hT hC hE⟩))))
  · have p0 : ¬ nI l < 0 := nI_pos (by omega)
    refine br_f p0 (br_t (nI_le (b := 15) (by omega) (by decide)) (tg_lf 8 (by omega) (fun j hj ha hf => ?_)))
    have p1 : ¬ nI 15 < nI l := nI_nlt (by omega) (by omega)
    by_cases z : j < 8
    · refine br_t (nI_lt (b := 8) z (by decide)) (nm_e ⟨vp_in_nI z (by decide), nm_r (tg_u (by omega)) ⟨vp_in_nI z (by decide), nm_r (tg_uL (by omega)) ?_⟩⟩)
      refine br_f p0 (br_f p1 (br_f tg_10 ⟨j + 1, tg_ynl hR hj ha hf (fun _ => ⟨rfl, ?_⟩) (fun e => absurd e (by omega)) j 0 (by omega)⟩))
      exact rl_mk _ ⟨gr_node hR z hl _, L, hL, rfl, rfl, gr_keep hS (fun i hi => ⟨pk_un (by omega), pk_uLn (by omega)⟩) (fun i hi => ⟨rfl, rfl, rfl, rfl⟩)⟩ hQ hT hC hE
    · refine br_f (nI_nlt (a := j) (b := 8) (by omega) (by omega)) ?_
      exact br_f p0 (br_f p1 (br_f tg_10 ⟨j + 1, tg_ynl hR hj ha hf (fun e => absurd e z) (fun _ => ⟨rfl, rl_mk _ ⟨hR, L, hL, rfl, rfl, hS⟩ hQ hT hC hE⟩) j 0 (by omega)⟩))
/-! set, clear, label -/
theorem tg_yas {post : Int32 → SY → Prop} {j : Nat} (hj : j < 8) (hR : gr_R nT eT xla xpr xed yla ypr yfr yto yty ywt) (x : Int64) (h1 : bt nT j = true → post 1 (ylv, ypc, yqc, ycc, yec, yde, yus, ywe, yfo, yli, yso, ysu, yla, (vp_updL ypr j x), yfr, yto, yty, ywt, pva, pwa, pam, pdi, plo, phi, ptk, pco, pex, yst, ypa, ysp, ypl, ycp, ybo, ytk, yno, ych, yfa)) (h0 : bt nT j = false → post 0 (ylv, ypc, yqc, ycc, yec, yde, yus, ywe, yfo, yli, yso, ysu, yla, ypr, yfr, yto, yty, ywt, pva, pwa, pam, pdi, plo, phi, ptk, pco, pex, yst, ypa, ysp, ypl, ycp, ybo, ytk, yno, ych, yfa)) : wpY_assign post (ylv, ypc, yqc, ycc, yec, yde, yus, ywe, yfo, yli, yso, ysu, yla, ypr, yfr, yto, yty, ywt, pva, pwa, pam, pdi, plo, phi, ptk, pco, pex, yst, ypa, ysp, ypl, ycp, ybo, ytk, yno, ych, yfa) (nI j) x := by
  unfold wpY_assign
  refine tg_yin hj hR (tg_zbr (fun e => ?_) (fun e => ⟨vp_in_nI (by omega) (by omega), nm_r (tg_uL (by omega)) ?_⟩))
  · unfold wY_assign_15
    refine tg_yin hj hR ?_
    rw [e]
    exact ⟨rfl, h0 e⟩
  · unfold wY_assign_15
    refine tg_yin hj (gr_set hR j x) ?_
    rw [e]
    exact ⟨rfl, h1 e⟩
theorem tg_yas0 {post : Int32 → SY → Prop} {i : Int32} (hi : i < 0 ∨ nI 8 ≤ i) (x : Int64) (h0 : post 0 (ylv, ypc, yqc, ycc, yec, yde, yus, ywe, yfo, yli, yso, ysu, yla, ypr, yfr, yto, yty, ywt, pva, pwa, pam, pdi, plo, phi, ptk, pco, pex, yst, ypa, ysp, ypl, ycp, ybo, ytk, yno, ych, yfa)) : wpY_assign post (ylv, ypc, yqc, ycc, yec, yde, yus, ywe, yfo, yli, yso, ysu, yla, ypr, yfr, yto, yty, ywt, pva, pwa, pam, pdi, plo, phi, ptk, pco, pex, yst, ypa, ysp, ypl, ycp, ybo, ytk, yno, ych, yfa) i x := by
  unfold wpY_assign
  refine tg_yin0 hi (br_t rfl ?_)
  unfold wY_assign_15
  exact tg_yin0 hi ⟨rfl, h0⟩
theorem i_vc_set {k : Nat} {u : SX} {v : SY} (I : i_Rel k u v) (hk : k + 7 ≤ 3584) (v1 : Int32) (v2 : Int32) : wpX_set (fun r u' => wpY_set (fun r' v' => r' = r ∧ i_Rel (k + 7) u' v') v v1 v2) u v1 v2 := by
  obtain ⟨nT, eT, xlv, xpc, xqc, xcc, xec, mc, lw, rc, xla, xpr, xed, sN, sE, sL, sP, sD, pva, pwa, pam, pdi, plo, phi, ptk, pco, pex, tr, ds, ch, ar, rN, rM, s1, s2, s3, s4, s5⟩ := u
  obtain ⟨ylv, ypc, yqc, ycc, yec, yde, yus, ywe, yfo, yli, yso, ysu, yla, ypr, yfr, yto, yty, ywt, qpva, qpwa, qpam, qpdi, qplo, qphi, qptk, qpco, qpex, yst, ypa, ysp, ypl, ycp, ybo, ytk, yno, ych, yfa⟩ := v
  obtain ⟨⟨rfl, rfl, rfl, rfl, rfl, rfl, rfl, rfl, rfl⟩, hG, hQ, hT, hC, hE⟩ := I
  obtain ⟨hR, L, hL, rfl, rfl, hS⟩ := hG
  unfold wpX_set wpY_set
  have K : v1 < 0 ∨ nI 8 ≤ v1 ∨ ∃ j : Nat, j < 8 ∧ v1 = nI j := pk_ix v1 (n := 8) (by omega)
  rw [← or_assoc] at K
  rcases K with c | ⟨j, hj, rfl⟩
  · exact tg_nit0 c (br_t rfl (tg_yas0 c _ ⟨rfl, rfl, rl_mk _ ⟨hR, L, hL, rfl, rfl, hS⟩ hQ hT hC hE⟩))
  · refine tg_nit hj (tg_zbr (fun e => ?_) (fun e => ⟨vp_in_nI hj (by decide), nm_r (tg_uL (by omega)) ?_⟩))
    · exact tg_yas hj hR _ (fun e' => absurd (e.symm.trans e') (by decide)) (fun _ => ⟨rfl, rfl, rl_mk _ ⟨hR, L, hL, rfl, rfl, hS⟩ hQ hT hC hE⟩)
    · exact tg_yas hj hR _ (fun _ => ⟨rfl, rfl, rl_mk _ ⟨gr_set hR j _, L, hL, rfl, rfl, gr_keep hS (fun i hi => ⟨rfl, pk_uLn (by omega)⟩) (fun i hi => ⟨rfl, rfl, rfl, rfl⟩)⟩ hQ hT hC hE⟩) (fun e' => absurd (e.symm.trans e') (by decide))
theorem i_vc_clear {k : Nat} {u : SX} {v : SY} (I : i_Rel k u v) (hk : k + 7 ≤ 3584) (v1 : Int32) : wpX_clear (fun r u' => wpY_clear (fun r' v' => r' = r ∧ i_Rel (k + 7) u' v') v v1) u v1 := by
  obtain ⟨nT, eT, xlv, xpc, xqc, xcc, xec, mc, lw, rc, xla, xpr, xed, sN, sE, sL, sP, sD, pva, pwa, pam, pdi, plo, phi, ptk, pco, pex, tr, ds, ch, ar, rN, rM, s1, s2, s3, s4, s5⟩ := u
  obtain ⟨ylv, ypc, yqc, ycc, yec, yde, yus, ywe, yfo, yli, yso, ysu, yla, ypr, yfr, yto, yty, ywt, qpva, qpwa, qpam, qpdi, qplo, qphi, qptk, qpco, qpex, yst, ypa, ysp, ypl, ycp, ybo, ytk, yno, ych, yfa⟩ := v
  obtain ⟨⟨rfl, rfl, rfl, rfl, rfl, rfl, rfl, rfl, rfl⟩, hG, hQ, hT, hC, hE⟩ := I
  obtain ⟨hR, L, hL, rfl, rfl, hS⟩ := hG
  unfold wpX_clear wpY_clear
  have K : v1 < 0 ∨ nI 8 ≤ v1 ∨ ∃ j : Nat, j < 8 ∧ v1 = nI j := pk_ix v1 (n := 8) (by omega)
  rw [← or_assoc] at K
  rcases K with c | ⟨j, hj, rfl⟩
  · exact tg_nit0 c (br_t rfl (tg_yas0 c _ ⟨rfl, rfl, rl_mk _ ⟨hR, L, hL, rfl, rfl, hS⟩ hQ hT hC hE⟩))
  · refine tg_nit hj (tg_zbr (fun e => ?_) (fun e => ⟨vp_in_nI hj (by decide), nm_r (tg_uL (by omega)) ?_⟩))
    · exact tg_yas hj hR _ (fun e' => absurd (e.symm.trans e') (by decide)) (fun _ => ⟨rfl, rfl, rl_mk _ ⟨hR, L, hL, rfl, rfl, hS⟩ hQ hT hC hE⟩)
    · exact tg_yas hj hR _ (fun _ => ⟨rfl, rfl, rl_mk _ ⟨gr_set hR j _, L, hL, rfl, rfl, gr_keep hS (fun i hi => ⟨rfl, pk_uLn (by omega)⟩) (fun i hi => ⟨rfl, rfl, rfl, rfl⟩)⟩ hQ hT hC hE⟩) (fun e' => absurd (e.symm.trans e') (by decide))
theorem i_vc_label {k : Nat} {u : SX} {v : SY} (I : i_Rel k u v) (hk : k + 7 ≤ 3584) (v1 : Int32) (v2 : Int32) : wpX_label (fun r u' => wpY_label (fun r' v' => r' = r ∧ i_Rel (k + 7) u' v') v v1 v2) u v1 v2 := by
  obtain ⟨nT, eT, xlv, xpc, xqc, xcc, xec, mc, lw, rc, xla, xpr, xed, sN, sE, sL, sP, sD, pva, pwa, pam, pdi, plo, phi, ptk, pco, pex, tr, ds, ch, ar, rN, rM, s1, s2, s3, s4, s5⟩ := u
  obtain ⟨ylv, ypc, yqc, ycc, yec, yde, yus, ywe, yfo, yli, yso, ysu, yla, ypr, yfr, yto, yty, ywt, qpva, qpwa, qpam, qpdi, qplo, qphi, qptk, qpco, qpex, yst, ypa, ysp, ypl, ycp, ybo, ytk, yno, ych, yfa⟩ := v
  obtain ⟨⟨rfl, rfl, rfl, rfl, rfl, rfl, rfl, rfl, rfl⟩, hG, hQ, hT, hC, hE⟩ := I
  obtain ⟨hR, L, hL, rfl, rfl, hS⟩ := hG
  unfold wpX_label wpY_label
  have K : v1 < 0 ∨ nI 8 ≤ v1 ∨ ∃ j : Nat, j < 8 ∧ v1 = nI j := pk_ix v1 (n := 8) (by omega)
  rw [← or_assoc] at K
  rcases K with c | ⟨j, hj, rfl⟩
  · exact tg_nit0 c (br_t rfl (tg_yin0 c (br_t rfl ⟨rfl, rl_mk _ ⟨hR, L, hL, rfl, rfl, hS⟩ hQ hT hC hE⟩)))
  · have J := rl_mk (k + 7) (mc := mc) (lw := lw) (rc := rc) (tr := tr) (ds := ds) (ch := ch) (ar := ar) (rN := rN) (rM := rM) (s1 := s1) (s2 := s2) (s3 := s3) (s4 := s4) (s5 := s5) (yde := yde) (yus := yus) (ywe := ywe) (yfo := yfo) (yli := yli) (yso := yso) (ysu := ysu) (yst := yst) (ypa := ypa) (ysp := ysp) (ypl := ypl) (ycp := ycp) (ybo := ybo) (ytk := ytk) (yno := yno) (ych := ych) (yfa := yfa) ⟨hR, L, hL, rfl, rfl, hS⟩ hQ hT hC hE
    refine tg_nit hj (tg_zbr (fun e => ?_) (fun e => ?_))
    · refine tg_yin hj hR ?_
      rw [e]
      exact br_t rfl ⟨rfl, J⟩
    · rcases pk_ix v2 (n := 16) (by omega) with c | c | ⟨l, hl, rfl⟩
      · refine br_t c (tg_yin hj hR ?_)
        rw [e]
        exact br_f tg_10 (br_t c (br_t rfl ⟨rfl, J⟩))
      · obtain ⟨c0, c1, c2⟩ := tg_hi 15 (by omega) c
        refine br_f c0 (br_f c1 (tg_yin hj hR ?_))
        rw [e]
        exact br_f tg_10 (br_f c0 (br_t c2 (br_t rfl ⟨rfl, J⟩)))
      · have p0 : ¬ nI l < 0 := nI_pos (by omega)
        have p1 : ¬ nI 15 < nI l := nI_nlt (by omega) (by omega)
        refine br_f p0 (br_t (nI_le (b := 15) (by omega) (by decide)) ⟨vp_in_nI hj (by decide), nm_r (by rw [nI_clamp (by omega)]) ⟨vp_in_nI hj (by decide), nm_r (tg_u (by omega)) (tg_yin hj hR ?_)⟩⟩)
        rw [e]
        refine br_f tg_10 (br_f p0 (br_f p1 (br_f tg_10 ⟨vp_in_nI (by omega) (by omega), nm_r (by rw [nI_clamp (by omega)]) ⟨vp_in_nI (by omega) (by omega), nm_r (tg_u (by omega)) ⟨?_, rl_mk _ ⟨gr_label hR e hl, L, hL, rfl, rfl, gr_keep hS (fun i hi => ⟨pk_un (by omega), rfl⟩) (fun i hi => ⟨rfl, rfl, rfl, rfl⟩)⟩ hQ hT hC hE⟩⟩⟩)))
        rcases hR.2.2.1 j hj with ⟨_, ⟨l', _, a, b⟩, _⟩ | ⟨b, _⟩
        · rw [a, b]
        · rw [b] at e; exact absurd e (by decide)
