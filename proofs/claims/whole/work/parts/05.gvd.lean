/-! edge, cut, remove, property, there -/
theorem nx_or (a b : Nat) : nI a ||| nI b = nI (a ||| b) := by
  apply Int32.toBitVec_inj.1
  show BitVec.ofNat 32 a ||| BitVec.ofNat 32 b = BitVec.ofNat 32 (a ||| b)
  apply BitVec.eq_of_getLsbD_eq
  intro i hi
  simp [hi]
theorem tg_pk (i : Nat) {s w : Nat} (hs : s < 2 ^ i) : nI s ||| nI (w * 2 ^ i) = nI (s + 2 ^ i * w) := by
  rw [nx_or, Nat.or_comm, Nat.mul_comm, ← Nat.two_pow_add_eq_or_of_lt hs, Nat.add_comm]
theorem tg_pack {f t y w : Nat} (hf : f < 8) (ht : t < 8) (hy : y < 3) (hw : w ≤ 100) :
    (((nI f ||| (nI t <<< ((3 : Int32) &&& 31))) ||| (nI y <<< ((6 : Int32) &&& 31))) ||| (nI w <<< ((8 : Int32) &&& 31))) = nI (f + 8 * t + 64 * y + 256 * w) := by
  rw [pk_shlN _ 3 (by decide) (by omega), pk_shlN _ 6 (by decide) (by omega), pk_shlN _ 8 (by decide) (by omega), tg_pk 3 (by omega), tg_pk 6 (by omega), tg_pk 8 (by omega)]
variable {nT : Int32} {eT : Int32} {xlv : Int32} {xpc : Int32} {xqc : Int32} {xcc : Int32} {xec : Int32} {mc : Int32} {lw : Int32} {rc : Int32} {xla : Nat → Int32} {xpr : Nat → Int64} {xed : Nat → Int32} {sN : Nat → Int32} {sE : Nat → Int32} {sL : Nat → Int32} {sP : Nat → Int64} {sD : Nat → Int32} {pva : Nat → Int32} {pwa : Nat → Int32} {pam : Nat → Int32} {pdi : Nat → Int32} {plo : Nat → Int32} {phi : Nat → Int32} {ptk : Nat → Int32} {pco : Nat → Int32} {pex : Nat → Int32} {tr : Nat → Int32} {ds : Nat → Int32} {ch : Nat → Int32} {ar : Nat → Int32} {rN : Nat → Int32} {rM : Nat → Int32} {s1 : Nat → Int32} {s2 : Nat → Int32} {s3 : Nat → Int32} {s4 : Nat → Int32} {s5 : Nat → Int32}
variable {ylv : Int32} {ypc : Int32} {yqc : Int32} {ycc : Int32} {yec : Int32} {yde : Int32} {yus : Int32} {ywe : Int32} {yfo : Int32} {yli : Int32} {yso : Int32} {ysu : Int64} {yla : Nat → Int32} {ypr : Nat → Int64} {yfr : Nat → Int32} {yto : Nat → Int32} {yty : Nat → Int32} {ywt : Nat → Int32} {yst : Nat → Int32} {ypa : Nat → Int32} {ysp : Nat → Int32} {ypl : Nat → Int32} {ycp : Nat → Int32} {ybo : Nat → Int32} {ytk : Nat → Int32} {yno : Nat → Int32} {ych : Nat → Int32} {yfa : Nat → Int32}
theorem tg_yieb {post : Int32 → Prop} {j : Nat} (hj : j < 12) (b : Bool) (h0 : b = false → yto j = -1) (h1 : b = true → ∃ t, t < 8 ∧ yto j = nI t) (h : post (tg_z b)) : wpY_isEdge post (ylv, ypc, yqc, ycc, yec, yde, yus, ywe, yfo, yli, yso, ysu, yla, ypr, yfr, yto, yty, ywt, pva, pwa, pam, pdi, plo, phi, ptk, pco, pex, yst, ypa, ysp, ypl, ycp, ybo, ytk, yno, ych, yfa) (nI j) := by
  have e : yto (nI j).toNatClampNeg = yto j := by rw [nI_clamp (by omega)]
  refine br_f (nI_pos (by omega)) (br_f (nI_ge (b := 12) hj (by decide)) ⟨vp_in_nI (by omega) (by omega), ?_⟩)
  rw [e]
  cases b
  · rw [h0 rfl]
    exact br_t (by decide) h
  · obtain ⟨t, ht, e⟩ := h1 rfl
    rw [e]
    exact br_f (nI_pos (by omega)) h
theorem gr_eb (hR : gr_R nT eT xla xpr xed yla ypr yfr yto yty ywt) {e : Nat} (he : e < 12) : (bt eT e = false → yto e = -1) ∧ (bt eT e = true → ∃ t, t < 8 ∧ yto e = nI t) := by
  rcases hR.2.2.2 e he with ⟨a, f, t, y, w, _, ht, _, _, _, _, _, _, b, _⟩ | ⟨a, b⟩
  · exact ⟨fun z => absurd (a.symm.trans z) (by decide), fun _ => ⟨t, ht, b⟩⟩
  · exact ⟨fun _ => b, fun z => absurd (a.symm.trans z) (by decide)⟩
theorem tg_yel {post : Int32 → SY → Prop} {x1 x2 x3 x4 : Int32} (hR : gr_R nT eT xla xpr xed yla ypr yfr yto yty ywt) {j : Nat} (hj : j ≤ 12) (ha : ∀ i, i < j → bt eT i = true) (hf : j < 12 → bt eT j = false) (h1 : j < 12 → post (nI j) (ylv, ypc, yqc, ycc, yec, yde, yus, ywe, yfo, yli, yso, ysu, yla, ypr, (upd yfr j x1), (upd yto j x2), (upd yty j x3), (upd ywt j x4), pva, pwa, pam, pdi, plo, phi, ptk, pco, pex, yst, ypa, ysp, ypl, ycp, ybo, ytk, yno, ych, yfa)) (h2 : j = 12 → post (-2) (ylv, ypc, yqc, ycc, yec, yde, yus, ywe, yfo, yli, yso, ysu, yla, ypr, yfr, yto, yty, ywt, pva, pwa, pam, pdi, plo, phi, ptk, pco, pex, yst, ypa, ysp, ypl, ycp, ybo, ytk, yno, ych, yfa)) : ∀ d i, i + d = j → wY_edge_41 post x1 x2 x3 x4 ylv ypc yqc ycc yec yde yus ywe yfo yli yso ysu yla ypr yfr yto yty ywt pva pwa pam pdi plo phi ptk pco pex yst ypa ysp ypl ycp ybo ytk yno ych yfa (d + 1) (nI i) := by
  intro d
  induction d with
  | zero =>
    intro i hi
    have e : i = j := by omega
    subst e
    by_cases z : i < 12
    · have w : vp_in (nI i) 60 := vp_in_nI (by omega) (by omega)
      refine br_f (nI_ge (b := 12) z (by decide)) (tg_yie z hR (tg_zbr (fun _ => ⟨w, nm_r (tg_u (by omega)) ⟨w, nm_r (tg_u (by omega)) ⟨w, nm_r (tg_u (by omega)) ⟨w, nm_r (tg_u (by omega)) (h1 z)⟩⟩⟩⟩) (fun e => ?_)))
      rw [hf z] at e; exact absurd e (by decide)
    · have e : i = 12 := by omega
      exact br_t (nI_le (a := 12) (by omega) (by omega)) (h2 e)
  | succ d ih =>
    intro i hi
    refine br_f (nI_ge (b := 12) (by omega) (by decide)) (tg_yie (by omega) hR (tg_zbr (fun e => ?_) (fun _ => nm_r (nI_1 i) (ih (i + 1) (by omega)))))
    rw [ha i (by omega)] at e; exact absurd e (by decide)
theorem i_vc_edge {k : Nat} {u : SX} {v : SY} (I : i_Rel k u v) (hk : k + 7 ≤ 3584) (v1 : Int32) (v2 : Int32) (v3 : Int32) (v4 : Int32) : wpX_edge (fun r u' => wpY_edge (fun r' v' => r' = r ∧ i_Rel (k + 7) u' v') v v1 v2 v3 v4) u v1 v2 v3 v4 := by
  obtain ⟨nT, eT, xlv, xpc, xqc, xcc, xec, mc, lw, rc, xla, xpr, xed, sN, sE, sL, sP, sD, pva, pwa, pam, pdi, plo, phi, ptk, pco, pex, tr, ds, ch, ar, rN, rM, s1, s2, s3, s4, s5⟩ := u
  obtain ⟨ylv, ypc, yqc, ycc, yec, yde, yus, ywe, yfo, yli, yso, ysu, yla, ypr, yfr, yto, yty, ywt, qpva, qpwa, qpam, qpdi, qplo, qphi, qptk, qpco, qpex, yst, ypa, ysp, ypl, ycp, ybo, ytk, yno, ych, yfa⟩ := v
  obtain ⟨⟨rfl, rfl, rfl, rfl, rfl, rfl, rfl, rfl, rfl⟩, hG, hQ, hT, hC, hE⟩ := I
  obtain ⟨hR, L, hL, rfl, rfl, hS⟩ := hG
  have J := rl_mk (k + 7) (mc := mc) (lw := lw) (rc := rc) (tr := tr) (ds := ds) (ch := ch) (ar := ar) (rN := rN) (rM := rM) (s1 := s1) (s2 := s2) (s3 := s3) (s4 := s4) (s5 := s5) (yde := yde) (yus := yus) (ywe := ywe) (yfo := yfo) (yli := yli) (yso := yso) (ysu := ysu) (yst := yst) (ypa := ypa) (ysp := ysp) (ypl := ypl) (ycp := ycp) (ybo := ybo) (ytk := ytk) (yno := yno) (ych := ych) (yfa := yfa) ⟨hR, L, hL, rfl, rfl, hS⟩ hQ hT hC hE
  unfold wpX_edge wpY_edge
  have K : v1 < 0 ∨ nI 8 ≤ v1 ∨ ∃ j : Nat, j < 8 ∧ v1 = nI j := pk_ix v1 (n := 8) (by omega)
  rw [← or_assoc] at K
  rcases K with c | ⟨f, hf, rfl⟩
  · exact tg_nit0 c (br_t rfl (tg_yin0 c (br_t rfl ⟨rfl, J⟩)))
  refine tg_nit hf (tg_zbr (fun e1 => ?_) (fun e1 => ?_))
  · refine tg_yin hf hR ?_
    rw [e1]
    exact br_t rfl ⟨rfl, J⟩
  have K : v2 < 0 ∨ nI 8 ≤ v2 ∨ ∃ j : Nat, j < 8 ∧ v2 = nI j := pk_ix v2 (n := 8) (by omega)
  rw [← or_assoc] at K
  rcases K with c | ⟨t, ht, rfl⟩
  · refine tg_nit0 c (br_t rfl (tg_yin hf hR ?_))
    rw [e1]
    exact br_f tg_10 (tg_yin0 c (br_t rfl ⟨rfl, J⟩))
  refine tg_nit ht (tg_zbr (fun e2 => ?_) (fun e2 => ?_))
  · refine tg_yin hf hR ?_
    rw [e1]
    refine br_f tg_10 (tg_yin ht hR ?_)
    rw [e2]
    exact br_t rfl ⟨rfl, J⟩
  rcases pk_ix v3 (n := 3) (by omega) with c | c | ⟨y, hy, rfl⟩
  · refine br_t c (tg_yin hf hR ?_)
    rw [e1]
    refine br_f tg_10 (tg_yin ht hR ?_)
    rw [e2]
    exact br_f tg_10 (br_t c (br_t rfl ⟨rfl, J⟩))
  · obtain ⟨c0, c1, c2⟩ := tg_hi 2 (by omega) c
    refine br_f c0 (br_t c (tg_yin hf hR ?_))
    rw [e1]
    refine br_f tg_10 (tg_yin ht hR ?_)
    rw [e2]
    exact br_f tg_10 (br_f c0 (br_t c2 (br_t rfl ⟨rfl, J⟩)))
  have y0 : ¬ nI y < 0 := nI_pos (by omega)
  have y1 : ¬ nI 2 < nI y := nI_nlt (by omega) (by omega)
  have y2 : ¬ nI 3 ≤ nI y := nI_ge (by omega) (by omega)
  rcases pk_ix v4 (n := 101) (by omega) with c | c | ⟨w, hw, rfl⟩
  · refine br_f y0 (br_f y2 (br_t c (tg_yin hf hR ?_)))
    rw [e1]
    refine br_f tg_10 (tg_yin ht hR ?_)
    rw [e2]
    exact br_f tg_10 (br_f y0 (br_f y1 (br_f tg_10 (br_t c (br_t rfl ⟨rfl, J⟩)))))
  · obtain ⟨c0, c1, c2⟩ := tg_hi 100 (by omega) c
    refine br_f y0 (br_f y2 (br_f c0 (br_f c1 (tg_yin hf hR ?_))))
    rw [e1]
    refine br_f tg_10 (tg_yin ht hR ?_)
    rw [e2]
    exact br_f tg_10 (br_f y0 (br_f y1 (br_f tg_10 (br_f c0 (br_t c2 (br_t rfl ⟨rfl, J⟩))))))
  have w0 : ¬ nI w < 0 := nI_pos (by omega)
  have w1 : ¬ nI 100 < nI w := nI_nlt (by omega) (by omega)
  refine br_f y0 (br_f y2 (br_f w0 (br_t (nI_le (b := 100) (by omega) (by omega)) (tg_lf 12 (by omega) (fun j hj ha hfr => ?_)))))
  by_cases z : j < 12
  · refine br_t (nI_lt (b := 12) z (by decide)) (nm_e ⟨vp_in_nI z (by decide), nm_r (by rw [tg_pack hf ht hy (by omega), tg_u (by omega)]) (tg_yin hf hR ?_)⟩)
    rw [e1]
    refine br_f tg_10 (tg_yin ht hR ?_)
    rw [e2]
    refine br_f tg_10 (br_f y0 (br_f y1 (br_f tg_10 (br_f w0 (br_f w1 (br_f tg_10 ⟨j + 1, tg_yel hR hj ha hfr (fun _ => ⟨rfl, ?_⟩) (fun e => absurd e (by omega)) j 0 (by omega)⟩))))))
    exact rl_mk _ ⟨gr_edge hR z hf ht hy (by omega) e1 e2, L, hL, rfl, rfl, gr_keep hS (fun i hi => ⟨rfl, rfl⟩) (fun i hi => ⟨pk_un (by omega), pk_un (by omega), pk_un (by omega), pk_un (by omega)⟩)⟩ hQ hT hC hE
  · refine br_f (nI_nlt (a := j) (b := 12) (by omega) (by omega)) (tg_yin hf hR ?_)
    rw [e1]
    refine br_f tg_10 (tg_yin ht hR ?_)
    rw [e2]
    exact br_f tg_10 (br_f y0 (br_f y1 (br_f tg_10 (br_f w0 (br_f w1 (br_f tg_10 ⟨j + 1, tg_yel hR hj ha hfr (fun e => absurd e z) (fun _ => ⟨rfl, J⟩) j 0 (by omega)⟩))))))
theorem i_vc_cut {k : Nat} {u : SX} {v : SY} (I : i_Rel k u v) (hk : k + 7 ≤ 3584) (v1 : Int32) : wpX_cut (fun r u' => wpY_cut (fun r' v' => r' = r ∧ i_Rel (k + 7) u' v') v v1) u v1 := by
  obtain ⟨nT, eT, xlv, xpc, xqc, xcc, xec, mc, lw, rc, xla, xpr, xed, sN, sE, sL, sP, sD, pva, pwa, pam, pdi, plo, phi, ptk, pco, pex, tr, ds, ch, ar, rN, rM, s1, s2, s3, s4, s5⟩ := u
  obtain ⟨ylv, ypc, yqc, ycc, yec, yde, yus, ywe, yfo, yli, yso, ysu, yla, ypr, yfr, yto, yty, ywt, qpva, qpwa, qpam, qpdi, qplo, qphi, qptk, qpco, qpex, yst, ypa, ysp, ypl, ycp, ybo, ytk, yno, ych, yfa⟩ := v
  obtain ⟨⟨rfl, rfl, rfl, rfl, rfl, rfl, rfl, rfl, rfl⟩, hG, hQ, hT, hC, hE⟩ := I
  obtain ⟨hR, L, hL, rfl, rfl, hS⟩ := hG
  have J := rl_mk (k + 7) (mc := mc) (lw := lw) (rc := rc) (tr := tr) (ds := ds) (ch := ch) (ar := ar) (rN := rN) (rM := rM) (s1 := s1) (s2 := s2) (s3 := s3) (s4 := s4) (s5 := s5) (yde := yde) (yus := yus) (ywe := ywe) (yfo := yfo) (yli := yli) (yso := yso) (ysu := ysu) (yst := yst) (ypa := ypa) (ysp := ysp) (ypl := ypl) (ycp := ycp) (ybo := ybo) (ytk := ytk) (yno := yno) (ych := ych) (yfa := yfa) ⟨hR, L, hL, rfl, rfl, hS⟩ hQ hT hC hE
  unfold wpX_cut wpY_cut
  rcases pk_ix v1 (n := 12) (by omega) with c | c | ⟨j, hj, rfl⟩
  · exact br_t c (br_t c (br_t rfl ⟨rfl, rfl, J⟩))
  · obtain ⟨c0, c1, c2⟩ := tg_hi 11 (by omega) c
    exact br_f c0 (br_t c (br_f c0 (br_t c (br_t rfl ⟨rfl, rfl, J⟩))))
  · refine br_f (nI_pos (by omega)) (br_f (nI_ge (b := 12) hj (by decide)) (tg_isIn (by omega) (tg_zbr (fun e => ?_) (fun e => nm_e ?_))))
    · refine tg_yie hj hR ?_
      rw [e]
      exact br_t rfl ⟨rfl, rfl, J⟩
    · refine tg_yie hj hR ?_
      rw [e]
      exact br_f tg_10 ⟨vp_in_nI (by omega) (by omega), nm_r (tg_u (by omega)) ⟨rfl, rfl, rl_mk _ ⟨gr_cut hR hj, L, hL, rfl, rfl, gr_keep hS (fun i hi => ⟨rfl, rfl⟩) (fun i hi => ⟨rfl, pk_un (by omega), rfl, rfl⟩)⟩ hQ hT hC hE⟩⟩
theorem i_vc_property {k : Nat} {u : SX} {v : SY} (I : i_Rel k u v) (hk : k + 7 ≤ 3584) (v1 : Int32) : wpX_property (fun r => wpY_property (fun r' => r' = r ∧ i_Rel (k + 7) u v) v v1) u v1 := by
  obtain ⟨nT, eT, xlv, xpc, xqc, xcc, xec, mc, lw, rc, xla, xpr, xed, sN, sE, sL, sP, sD, pva, pwa, pam, pdi, plo, phi, ptk, pco, pex, tr, ds, ch, ar, rN, rM, s1, s2, s3, s4, s5⟩ := u
  obtain ⟨ylv, ypc, yqc, ycc, yec, yde, yus, ywe, yfo, yli, yso, ysu, yla, ypr, yfr, yto, yty, ywt, qpva, qpwa, qpam, qpdi, qplo, qphi, qptk, qpco, qpex, yst, ypa, ysp, ypl, ycp, ybo, ytk, yno, ych, yfa⟩ := v
  obtain ⟨⟨rfl, rfl, rfl, rfl, rfl, rfl, rfl, rfl, rfl⟩, hG, hQ, hT, hC, hE⟩ := I
  obtain ⟨hR, L, hL, rfl, rfl, hS⟩ := hG
  have J := rl_mk (k + 7) (mc := mc) (lw := lw) (rc := rc) (tr := tr) (ds := ds) (ch := ch) (ar := ar) (rN := rN) (rM := rM) (s1 := s1) (s2 := s2) (s3 := s3) (s4 := s4) (s5 := s5) (yde := yde) (yus := yus) (ywe := ywe) (yfo := yfo) (yli := yli) (yso := yso) (ysu := ysu) (yst := yst) (ypa := ypa) (ysp := ysp) (ypl := ypl) (ycp := ycp) (ybo := ybo) (ytk := ytk) (yno := yno) (ych := ych) (yfa := yfa) ⟨hR, L, hL, rfl, rfl, hS⟩ hQ hT hC hE
  unfold wpX_property wpY_property
  have K : v1 < 0 ∨ nI 8 ≤ v1 ∨ ∃ j : Nat, j < 8 ∧ v1 = nI j := pk_ix v1 (n := 8) (by omega)
  rw [← or_assoc] at K
  rcases K with c | ⟨j, hj, rfl⟩
  · exact tg_nit0 c (br_t rfl (tg_yin0 c (br_t rfl ⟨rfl, J⟩)))
  · refine tg_nit hj (tg_zbr (fun e => tg_yin hj hR ?_) (fun e => ⟨vp_in_nI hj (by decide), tg_yin hj hR ?_⟩))
    · rw [e]
      exact br_t rfl ⟨rfl, J⟩
    · rw [e]
      refine br_f tg_10 ⟨vp_in_nI (by omega) (by omega), ?_, J⟩
      rcases hR.2.2.1 j hj with ⟨_, _, a⟩ | ⟨b, _⟩
      · rw [nI_clamp (by omega)]; exact a
      · rw [b] at e; exact absurd e (by decide)
