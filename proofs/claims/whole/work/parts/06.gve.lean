/-! remove, there -/
theorem tg_incs {eT : Int32} {yfr yto : Nat → Int32} {nd : Int32} (i : Nat) : tg_cnt (tg_inc eT yfr yto nd) (i + 1) = tg_cnt (tg_inc eT yfr yto nd) i + (if tg_inc eT yfr yto nd i then 1 else 0) := rfl
variable {nT : Int32} {eT : Int32} {xlv : Int32} {xpc : Int32} {xqc : Int32} {xcc : Int32} {xec : Int32} {mc : Int32} {lw : Int32} {rc : Int32} {xla : Nat → Int32} {xpr : Nat → Int64} {xed : Nat → Int32} {sN : Nat → Int32} {sE : Nat → Int32} {sL : Nat → Int32} {sP : Nat → Int64} {sD : Nat → Int32} {pva : Nat → Int32} {pwa : Nat → Int32} {pam : Nat → Int32} {pdi : Nat → Int32} {plo : Nat → Int32} {phi : Nat → Int32} {ptk : Nat → Int32} {pco : Nat → Int32} {pex : Nat → Int32} {tr : Nat → Int32} {ds : Nat → Int32} {ch : Nat → Int32} {ar : Nat → Int32} {rN : Nat → Int32} {rM : Nat → Int32} {s1 : Nat → Int32} {s2 : Nat → Int32} {s3 : Nat → Int32} {s4 : Nat → Int32} {s5 : Nat → Int32}
variable {ylv : Int32} {ypc : Int32} {yqc : Int32} {ycc : Int32} {yec : Int32} {yde : Int32} {yus : Int32} {ywe : Int32} {yfo : Int32} {yli : Int32} {yso : Int32} {ysu : Int64} {yla : Nat → Int32} {ypr : Nat → Int64} {yfr : Nat → Int32} {yto : Nat → Int32} {yty : Nat → Int32} {ywt : Nat → Int32} {yst : Nat → Int32} {ypa : Nat → Int32} {ysp : Nat → Int32} {ypl : Nat → Int32} {ycp : Nat → Int32} {ybo : Nat → Int32} {ytk : Nat → Int32} {yno : Nat → Int32} {ych : Nat → Int32} {yfa : Nat → Int32}
theorem tg_inv_s {lf : Int32} {i : Nat} {nd : Int32} (hl : ∀ b, bt lf b = (bt eT b && !(decide (b < i) && tg_inc eT yfr yto nd b))) (h : tg_inc eT yfr yto nd i = false) : ∀ b, bt lf b = (bt eT b && !(decide (b < i + 1) && tg_inc eT yfr yto nd b)) := by
  intro b
  rw [hl b]
  by_cases z : b = i
  · subst z; rw [h]; simp
  · rw [show decide (b < i + 1) = decide (b < i) from by simp only [decide_eq_decide]; omega]
theorem tg_inv_t {lf : Int32} {i : Nat} (hi : i < 12) {nd : Int32} (hl : ∀ b, bt lf b = (bt eT b && !(decide (b < i) && tg_inc eT yfr yto nd b))) (h : tg_inc eT yfr yto nd i = true) : ∀ b, bt (lf &&& (((1 : Int32) <<< (nI i &&& 31)) ^^^ (-1))) b = (bt eT b && !(decide (b < i + 1) && tg_inc eT yfr yto nd b)) := by
  intro b
  rw [tg_andn lf (by omega), hl b]
  by_cases z : b = i
  · subst z; rw [h]; simp
  · rw [show decide (b < i + 1) = decide (b < i) from by simp only [decide_eq_decide]; omega, decide_eq_false z]; simp
theorem tg_xrm {post : Int32 → SX → Prop} {j : Nat} {x2 : Int32} (hR : gr_R nT eT xla xpr xed yla ypr yfr yto yty ywt)
    (h1 : (tg_cnt (tg_inc eT yfr yto (nI j)) 12 = 0 ∨ ¬ x2 = 0) → ∀ lf, (∀ i, bt lf i = (bt eT i && !tg_inc eT yfr yto (nI j) i)) → post (nI (tg_cnt (tg_inc eT yfr yto (nI j)) 12)) ((nT &&& (((1 : Int32) <<< (nI j &&& 31)) ^^^ (-1))), lf, xlv, xpc, xqc, xcc, xec, mc, lw, rc, xla, xpr, xed, sN, sE, sL, sP, sD, pva, pwa, pam, pdi, plo, phi, ptk, pco, pex, tr, ds, ch, ar, rN, rM, s1, s2, s3, s4, s5))
    (h2 : 0 < tg_cnt (tg_inc eT yfr yto (nI j)) 12 → x2 = 0 → post (-1) (nT, eT, xlv, xpc, xqc, xcc, xec, mc, lw, rc, xla, xpr, xed, sN, sE, sL, sP, sD, pva, pwa, pam, pdi, plo, phi, ptk, pco, pex, tr, ds, ch, ar, rN, rM, s1, s2, s3, s4, s5)) : ∀ d i lf, i + d = 12 → (∀ b, bt lf b = (bt eT b && !(decide (b < i) && tg_inc eT yfr yto (nI j) b))) → wX_remove_21 post (nI j) x2 nT eT xlv xpc xqc xcc xec mc lw rc xla xpr xed sN sE sL sP sD pva pwa pam pdi plo phi ptk pco pex tr ds ch ar rN rM s1 s2 s3 s4 s5 (d + 1) (nI (tg_cnt (tg_inc eT yfr yto (nI j)) i)) lf (nI i) := by
  intro d
  induction d with
  | zero =>
    intro i lf hi hl
    have e : i = 12 := by omega
    subst e
    have hc := tg_cntle (tg_inc eT yfr yto (nI j)) 12
    have hl' : ∀ b, bt lf b = (bt eT b && !tg_inc eT yfr yto (nI j) b) := by
      intro b
      rw [hl b]
      by_cases z : b < 12
      · simp [z]
      · rw [hR.2.1 b (by omega)]; rfl
    refine br_t (nI_le (a := 12) (by omega) (by omega)) ?_
    by_cases z : tg_cnt (tg_inc eT yfr yto (nI j)) 12 = 0
    · refine br_t (by rw [z]; decide) (nm_e ?_)
      exact h1 (Or.inl z) lf hl'
    · refine br_f (nI_nle (by omega) (by omega)) (br_c (fun e => h2 (by omega) e) (fun e => nm_e ?_))
      exact h1 (Or.inr e) lf hl'
  | succ d ih =>
    intro i lf hi hl
    have hc := tg_cntle (tg_inc eT yfr yto (nI j)) i
    refine br_f (nI_ge (b := 12) (by omega) (by decide)) (tg_isIn (by omega) (tg_zbr (fun e => ?_) (fun e => ?_)))
    · have z : tg_inc eT yfr yto (nI j) i = false := by unfold tg_inc; rw [e]; rfl
      refine nm_r (nI_1 i) ?_
      have := ih (i + 1) lf (by omega) (tg_inv_s hl z)
      rw [tg_incs, z] at this
      exact this
    · obtain ⟨q1, q2, _, _⟩ := tg_ft (hR.2.2.2 i (by omega)) e
      have w : vp_in (nI i) 12 := vp_in_nI (by omega) (by omega)
      have c0 : (nI i).toNatClampNeg = i := nI_clamp (by omega)
      have yes : tg_inc eT yfr yto (nI j) i = true → wX_remove_60 post (wX_remove_21 post (nI j) x2 nT eT xlv xpc xqc xcc xec mc lw rc xla xpr xed sN sE sL sP sD pva pwa pam pdi plo phi ptk pco pex tr ds ch ar rN rM s1 s2 s3 s4 s5 (d + 1)) (nI j) x2 (nI (tg_cnt (tg_inc eT yfr yto (nI j)) i)) lf (nI i) nT eT xlv xpc xqc xcc xec mc lw rc xla xpr xed sN sE sL sP sD pva pwa pam pdi plo phi ptk pco pex tr ds ch ar rN rM s1 s2 s3 s4 s5 := by
        intro z
        refine nm_e (nm_r (nI_1 _) (nm_r (nI_1 i) ?_))
        have := ih (i + 1) _ (by omega) (tg_inv_t (by omega) hl z)
        rw [tg_incs, z] at this
        exact this
      refine ⟨w, ?_⟩
      rw [c0, q1]
      refine br_c (fun e1 => yes (by unfold tg_inc; rw [e, decide_eq_true e1]; rfl)) (fun e1 => ⟨w, ?_⟩)
      rw [c0, q2]
      refine br_c (fun e2 => yes (by unfold tg_inc; rw [e, decide_eq_true e2]; simp)) (fun e2 => nm_r (nI_1 i) ?_)
      have z : tg_inc eT yfr yto (nI j) i = false := by unfold tg_inc; rw [decide_eq_false e1, decide_eq_false e2]; simp
      have := ih (i + 1) lf (by omega) (tg_inv_s hl z)
      rw [tg_incs, z] at this
      exact this
theorem tg_yrm1 {post : Int32 → SY → Prop} {j : Nat} {x2 : Int32} (hR : gr_R nT eT xla xpr xed yla ypr yfr yto yty ywt)
    (h1 : (tg_cnt (tg_inc eT yfr yto (nI j)) 12 = 0 ∨ ¬ x2 = 0) → ∃ n75, wY_remove_75 post (nI j) (nI (tg_cnt (tg_inc eT yfr yto (nI j)) 12)) ylv ypc yqc ycc yec yde yus ywe yfo yli yso ysu n75 0 yla ypr yfr yto yty ywt pva pwa pam pdi plo phi ptk pco pex yst ypa ysp ypl ycp ybo ytk yno ych yfa)
    (h2 : 0 < tg_cnt (tg_inc eT yfr yto (nI j)) 12 → x2 = 0 → post (-1) (ylv, ypc, yqc, ycc, yec, yde, yus, ywe, yfo, yli, yso, ysu, yla, ypr, yfr, yto, yty, ywt, pva, pwa, pam, pdi, plo, phi, ptk, pco, pex, yst, ypa, ysp, ypl, ycp, ybo, ytk, yno, ych, yfa)) : ∀ d i, i + d = 12 → wY_remove_15 post (nI j) x2 ylv ypc yqc ycc yec yde yus ywe yfo yli yso ysu yla ypr yfr yto yty ywt pva pwa pam pdi plo phi ptk pco pex yst ypa ysp ypl ycp ybo ytk yno ych yfa (d + 1) (nI (tg_cnt (tg_inc eT yfr yto (nI j)) i)) (nI i) := by
  intro d
  induction d with
  | zero =>
    intro i hi
    have e : i = 12 := by omega
    subst e
    have hc := tg_cntle (tg_inc eT yfr yto (nI j)) 12
    refine br_t (nI_le (a := 12) (by omega) (by omega)) ?_
    by_cases z : tg_cnt (tg_inc eT yfr yto (nI j)) 12 = 0
    · exact br_t (by rw [z]; decide) (h1 (Or.inl z))
    · exact br_f (nI_nle (by omega) (by omega)) (br_c (fun e => h2 (by omega) e) (fun e => h1 (Or.inr e)))
  | succ d ih =>
    intro i hi
    have hc := tg_cntle (tg_inc eT yfr yto (nI j)) i
    have T : tg_inc eT yfr yto (nI j) i = true → wY_remove_15 post (nI j) x2 ylv ypc yqc ycc yec yde yus ywe yfo yli yso ysu yla ypr yfr yto yty ywt pva pwa pam pdi plo phi ptk pco pex yst ypa ysp ypl ycp ybo ytk yno ych yfa (d + 1) (nI (tg_cnt (tg_inc eT yfr yto (nI j)) i + 1)) (nI (i + 1)) := fun z => by
      have := ih (i + 1) (by omega)
      rw [tg_incs, z] at this
      exact this
    have F : tg_inc eT yfr yto (nI j) i = false → wY_remove_15 post (nI j) x2 ylv ypc yqc ycc yec yde yus ywe yfo yli yso ysu yla ypr yfr yto yty ywt pva pwa pam pdi plo phi ptk pco pex yst ypa ysp ypl ycp ybo ytk yno ych yfa (d + 1) (nI (tg_cnt (tg_inc eT yfr yto (nI j)) i)) (nI (i + 1)) := fun z => by
      have := ih (i + 1) (by omega)
      rw [tg_incs, z] at this
      exact this
    have w : vp_in (nI i) 60 := vp_in_nI (by omega) (by omega)
    have c0 : (nI i).toNatClampNeg = i := nI_clamp (by omega)
    refine br_f (nI_ge (b := 12) (by omega) (by decide)) (tg_yie (by omega) hR (tg_zbr (fun e => nm_r (nI_1 i) (F (by unfold tg_inc; rw [e]; rfl))) (fun e => ⟨w, ?_⟩)))
    rw [c0]
    refine br_c (fun e1 => nm_r (nI_1 _) (nm_r (nI_1 i) (T (by unfold tg_inc; rw [e, decide_eq_true e1]; rfl)))) (fun e1 => ⟨w, br_c (fun e2 => nm_r (nI_1 _) (nm_r (nI_1 i) (T (by unfold tg_inc; rw [e, decide_eq_true e2]; simp)))) (fun e2 => nm_r (nI_1 i) (F (by unfold tg_inc; rw [decide_eq_false e1, decide_eq_false e2]; simp)))⟩)
theorem tg_yrm2 {post : Int32 → SY → Prop} {j : Nat} (hj : j < 8) {x3 : Int32} (hR : gr_R nT eT xla xpr xed yla ypr yfr yto yty ywt)
    (h : ∀ to', (∀ e, e < 12 → to' e = if tg_inc eT yfr yto (nI j) e then -1 else yto e) → (∀ e, 12 ≤ e → to' e = yto e) → post x3 (ylv, ypc, yqc, ycc, yec, yde, yus, ywe, yfo, yli, yso, ysu, (upd yla j (-1)), (vp_updL ypr j 9000000000000000000), yfr, to', yty, ywt, pva, pwa, pam, pdi, plo, phi, ptk, pco, pex, yst, ypa, ysp, ypl, ycp, ybo, ytk, yno, ych, yfa)) : ∀ d i to', i + d = 12 → (∀ e, e < i → to' e = if tg_inc eT yfr yto (nI j) e then -1 else yto e) → (∀ e, i ≤ e → to' e = yto e) → wY_remove_75 post (nI j) x3 ylv ypc yqc ycc yec yde yus ywe yfo yli yso ysu (d + 1) (nI i) yla ypr yfr to' yty ywt pva pwa pam pdi plo phi ptk pco pex yst ypa ysp ypl ycp ybo ytk yno ych yfa := by
  intro d
  induction d with
  | zero =>
    intro i to' hi k1 k2
    have e : i = 12 := by omega
    subst e
    exact br_t (nI_le (a := 12) (by omega) (by omega)) ⟨vp_in_nI (by omega) (by omega), nm_r (tg_u (by omega)) ⟨vp_in_nI (by omega) (by omega), nm_r (tg_uL (by omega)) (h to' k1 k2)⟩⟩
  | succ d ih =>
    intro i to' hi k1 k2
    have w : vp_in (nI i) 60 := vp_in_nI (by omega) (by omega)
    have c0 : (nI i).toNatClampNeg = i := nI_clamp (by omega)
    have F : tg_inc eT yfr yto (nI j) i = false → wY_remove_75 post (nI j) x3 ylv ypc yqc ycc yec yde yus ywe yfo yli yso ysu (d + 1) (nI (i + 1)) yla ypr yfr to' yty ywt pva pwa pam pdi plo phi ptk pco pex yst ypa ysp ypl ycp ybo ytk yno ych yfa := fun z => by
      refine ih (i + 1) to' (by omega) (fun e he => ?_) (fun e he => k2 e (by omega))
      by_cases q : e = i
      · subst q; rw [z]; exact k2 e (by omega)
      · exact k1 e (by omega)
    have T : tg_inc eT yfr yto (nI j) i = true → wY_remove_75 post (nI j) x3 ylv ypc yqc ycc yec yde yus ywe yfo yli yso ysu (d + 1) (nI (i + 1)) yla ypr yfr (upd to' i (-1)) yty ywt pva pwa pam pdi plo phi ptk pco pex yst ypa ysp ypl ycp ybo ytk yno ych yfa := fun z => by
      refine ih (i + 1) _ (by omega) (fun e he => ?_) (fun e he => ?_)
      · by_cases q : e = i
        · subst q; rw [z]; exact pk_us
        · rw [pk_un q]; exact k1 e (by omega)
      · rw [pk_un (by omega)]; exact k2 e (by omega)
    have g := gr_eb hR (e := i) (by omega)
    refine br_f (nI_ge (b := 12) (by omega) (by decide)) (tg_yieb (by omega) (bt eT i) (by rw [k2 i (by omega)]; exact g.1) (by rw [k2 i (by omega)]; exact g.2) (tg_zbr (fun e => nm_r (nI_1 i) (F (by unfold tg_inc; rw [e]; rfl))) (fun e => ⟨w, ?_⟩)))
    rw [c0, k2 i (by omega)]
    refine br_c (fun e1 => ⟨w, nm_e (nm_r (nI_1 i) (T (by unfold tg_inc; rw [e, decide_eq_true e1]; rfl)))⟩) (fun e1 => ⟨w, br_c (fun e2 => ⟨w, nm_e (nm_r (nI_1 i) (T (by unfold tg_inc; rw [e, decide_eq_true e2]; simp)))⟩) (fun e2 => nm_r (nI_1 i) (F (by unfold tg_inc; rw [decide_eq_false e1, decide_eq_false e2]; simp)))⟩)
theorem i_vc_remove {k : Nat} {u : SX} {v : SY} (I : i_Rel k u v) (hk : k + 7 ≤ 3584) (v1 : Int32) (v2 : Int32) : wpX_remove (fun r u' => wpY_remove (fun r' v' => r' = r ∧ i_Rel (k + 7) u' v') v v1 (lw_bz v2)) u v1 (lw_bz v2) := by
  obtain ⟨nT, eT, xlv, xpc, xqc, xcc, xec, mc, lw, rc, xla, xpr, xed, sN, sE, sL, sP, sD, pva, pwa, pam, pdi, plo, phi, ptk, pco, pex, tr, ds, ch, ar, rN, rM, s1, s2, s3, s4, s5⟩ := u
  obtain ⟨ylv, ypc, yqc, ycc, yec, yde, yus, ywe, yfo, yli, yso, ysu, yla, ypr, yfr, yto, yty, ywt, qpva, qpwa, qpam, qpdi, qplo, qphi, qptk, qpco, qpex, yst, ypa, ysp, ypl, ycp, ybo, ytk, yno, ych, yfa⟩ := v
  obtain ⟨⟨rfl, rfl, rfl, rfl, rfl, rfl, rfl, rfl, rfl⟩, hG, hQ, hT, hC, hE⟩ := I
  obtain ⟨hR, L, hL, rfl, rfl, hS⟩ := hG
  have J := rl_mk (k + 7) (mc := mc) (lw := lw) (rc := rc) (tr := tr) (ds := ds) (ch := ch) (ar := ar) (rN := rN) (rM := rM) (s1 := s1) (s2 := s2) (s3 := s3) (s4 := s4) (s5 := s5) (yde := yde) (yus := yus) (ywe := ywe) (yfo := yfo) (yli := yli) (yso := yso) (ysu := ysu) (yst := yst) (ypa := ypa) (ysp := ysp) (ypl := ypl) (ycp := ycp) (ybo := ybo) (ytk := ytk) (yno := yno) (ych := ych) (yfa := yfa) ⟨hR, L, hL, rfl, rfl, hS⟩ hQ hT hC hE
  unfold wpX_remove wpY_remove
  generalize lw_bz v2 = x2
  have K : v1 < 0 ∨ nI 8 ≤ v1 ∨ ∃ j : Nat, j < 8 ∧ v1 = nI j := pk_ix v1 (n := 8) (by omega)
  rw [← or_assoc] at K
  rcases K with c | ⟨j, hj, rfl⟩
  · exact tg_nit0 c (br_t rfl (tg_yin0 c (br_t rfl ⟨rfl, J⟩)))
  · refine tg_nit hj (tg_zbr (fun e => tg_yin hj hR ?_) (fun e => ⟨13, ?_⟩))
    · rw [e]
      exact br_t rfl ⟨rfl, J⟩
    · refine tg_xrm hR (fun hz lf hlf => ?_) (fun hz e2 => ?_) 12 0 eT (by omega) (fun b => by simp)
      · refine tg_yin hj hR ?_
        rw [e]
        refine br_f tg_10 ⟨13, tg_yrm1 hR (fun _ => ⟨13, tg_yrm2 hj hR (fun to' k1 k2 => ⟨rfl, ?_⟩) 12 0 yto (by omega) (fun e he => absurd he (Nat.not_lt_zero e)) (fun e he => rfl)⟩) (fun q1 q2 => hz.elim (fun a => absurd a (by omega)) (fun b => absurd q2 b)) 12 0 (by omega)⟩
        exact rl_mk _ ⟨gr_remove hR hj _ hlf k1, L, hL, rfl, rfl, gr_keep hS (fun i hi => ⟨pk_un (by omega), pk_uLn (by omega)⟩) (fun i hi => ⟨rfl, k2 i hi, rfl, rfl⟩)⟩ hQ hT hC hE
      · refine tg_yin hj hR ?_
        rw [e]
        exact br_f tg_10 ⟨13, tg_yrm1 hR (fun q => q.elim (fun a => absurd a (by omega)) (fun b => absurd e2 b)) (fun _ _ => ⟨rfl, J⟩) 12 0 (by omega)⟩
