/-! Y's table operations -/
theorem tg_ib {b i m : Nat} : nI (b * 64) + 8 * nI i + nI m = nI (b * 64 + (8 * i + m)) := by
  have e : 8 * nI i = nI (8 * i) := pk_mul 8 i
  rw [e, nI_add, nI_add, Nat.add_assoc]
theorem tg_ic {b i m : Nat} : nI (b * 64) + (8 * nI i + nI m) = nI (b * 64 + (8 * i + m)) := by
  have e : 8 * nI i = nI (8 * i) := pk_mul 8 i
  rw [e, nI_add, nI_add]
variable {nT : Int32} {eT : Int32} {xlv : Int32} {xpc : Int32} {xqc : Int32} {xcc : Int32} {xec : Int32} {mc : Int32} {lw : Int32} {rc : Int32} {xla : Nat → Int32} {xpr : Nat → Int64} {xed : Nat → Int32} {sN : Nat → Int32} {sE : Nat → Int32} {sL : Nat → Int32} {sP : Nat → Int64} {sD : Nat → Int32} {pva : Nat → Int32} {pwa : Nat → Int32} {pam : Nat → Int32} {pdi : Nat → Int32} {plo : Nat → Int32} {phi : Nat → Int32} {ptk : Nat → Int32} {pco : Nat → Int32} {pex : Nat → Int32} {tr : Nat → Int32} {ds : Nat → Int32} {ch : Nat → Int32} {ar : Nat → Int32} {rN : Nat → Int32} {rM : Nat → Int32} {s1 : Nat → Int32} {s2 : Nat → Int32} {s3 : Nat → Int32} {s4 : Nat → Int32} {s5 : Nat → Int32}
variable {ylv : Int32} {ypc : Int32} {yqc : Int32} {ycc : Int32} {yec : Int32} {yde : Int32} {yus : Int32} {ywe : Int32} {yfo : Int32} {yli : Int32} {yso : Int32} {ysu : Int64} {yla : Nat → Int32} {ypr : Nat → Int64} {yfr : Nat → Int32} {yto : Nat → Int32} {yty : Nat → Int32} {ywt : Nat → Int32} {yst : Nat → Int32} {ypa : Nat → Int32} {ysp : Nat → Int32} {ypl : Nat → Int32} {ycp : Nat → Int32} {ybo : Nat → Int32} {ytk : Nat → Int32} {yno : Nat → Int32} {ych : Nat → Int32} {yfa : Nat → Int32}
theorem yw_e26 {post : SY → Prop} {b t : Nat} (hb : b ≤ 9) (ht : t ≤ 5) (hR : gr_R nT eT xla xpr xed yla ypr yfr yto yty ywt) (h : ∀ ds', tb_N ds' b (tb_ed eT yfr yto yty t 12) 64 → tb_F b yfa ds' → post (ylv, ypc, yqc, ycc, yec, yde, yus, ywe, yfo, yli, yso, ysu, yla, ypr, yfr, yto, yty, ywt, pva, pwa, pam, pdi, plo, phi, ptk, pco, pex, yst, ypa, ysp, ypl, ycp, ybo, ytk, yno, ych, ds')) : ∀ d e ds', e + d = 12 → tb_N ds' b (tb_ed eT yfr yto yty t e) 64 → tb_F b yfa ds' → wY_edgeTable_26 post (nI (b * 64)) (nI t) ylv ypc yqc ycc yec yde yus ywe yfo yli yso ysu (d + 1) (nI e) yla ypr yfr yto yty ywt pva pwa pam pdi plo phi ptk pco pex yst ypa ysp ypl ycp ybo ytk yno ych ds' := by
  intro d
  induction d with
  | zero =>
    intro e ds' hd k1 k2
    have q : e = 12 := by omega
    subst q
    exact br_t (nI_le (a := 12) (by omega) (by omega)) (h ds' k1 k2)
  | succ d ih =>
    intro e ds' hd k1 k2
    have w : vp_in (nI e) 60 := vp_in_nI (by omega) (by omega)
    have c0 : (nI e).toNatClampNeg = e := nI_clamp (by omega)
    have skip : ¬ (bt eT e = true ∧ yty e = nI (t % 3)) → wY_edgeTable_26 post (nI (b * 64)) (nI t) ylv ypc yqc ycc yec yde yus ywe yfo yli yso ysu (d + 1) (nI (e + 1)) yla ypr yfr yto yty ywt pva pwa pam pdi plo phi ptk pco pex yst ypa ysp ypl ycp ybo ytk yno ych ds' := fun q =>
      ih (e + 1) ds' (by omega) (tb_c0 k1 (fun k _ => tb_ed_f q k)) k2
    refine br_f (nI_ge (b := 12) (by omega) (by decide)) (tg_yie (by omega) hR (tg_zbr (fun q => nm_r (nI_1 e) (skip (fun q' => by rw [q] at q'; exact absurd q'.1 (by decide)))) (fun q => ⟨w, ?_⟩)))
    have e3 : nI t - nI t / 3 * 3 = nI (t % 3) := pk_rem (d := 3) (by omega) (by omega) (by omega)
    rw [c0, e3]
    refine ⟨by decide, br_c (fun ty => ?_) (fun ty => nm_r (nI_1 e) (skip (fun q' => ty q'.2)))⟩
    rcases hR.2.2.2 e (by omega) with ⟨_, f, t', y, w', hf, ht', _, _, _, _, _, e1, e2, _, _⟩ | ⟨a, _⟩
    · have go : ∀ x : Nat, x = tb_ix yfr yto t e → x < 64 → wY_edgeTable_26 post (nI (b * 64)) (nI t) ylv ypc yqc ycc yec yde yus ywe yfo yli yso ysu (d + 1) (nI (e + 1)) yla ypr yfr yto yty ywt pva pwa pam pdi plo phi ptk pco pex yst ypa ysp ypl ycp ybo ytk yno ych (upd ds' (b * 64 + x) (nI 1)) := fun x hx hl =>
        ih (e + 1) _ (by omega) (tb_c0 (tb_u k1 (v := 1) (c := x) (by omega)) (fun k _ => by rw [tb_ed_t ⟨q, ty⟩, ← hx])) (tb_Fu k2 (Nat.le_refl b))
      have cf : (yfr e).toNatClampNeg = f := by rw [e1, nI_clamp (by omega)]
      have ct : (yto e).toNatClampNeg = t' := by rw [e2, nI_clamp (by omega)]
      rw [e1, e2]
      by_cases z : t < 3
      · refine br_f (nI_ge (b := 3) z (by omega)) ⟨w, w, ?_⟩
        rw [tg_ic]
        exact ⟨vp_in_nI (by omega) (by omega), nm_r (tg_u (by omega)) (nm_r (nI_1 e) (go (8 * f + t') (by unfold tb_ix; rw [if_pos z, cf, ct]) (by omega)))⟩
      · refine br_t (nI_le (a := 3) (by omega) (by omega)) ⟨w, w, ?_⟩
        rw [tg_ic]
        exact ⟨vp_in_nI (by omega) (by omega), nm_r (tg_u (by omega)) (nm_r (nI_1 e) (go (8 * t' + f) (by unfold tb_ix; rw [if_neg z, cf, ct]) (by omega)))⟩
    · rw [a] at q; exact absurd q (by decide)
theorem yw_e2 {post : SY → Prop} {b t : Nat} (hb : b ≤ 9) (ht : t ≤ 5) (hR : gr_R nT eT xla xpr xed yla ypr yfr yto yty ywt) (h : ∀ ds', tb_N ds' b (tb_ed eT yfr yto yty t 12) 64 → tb_F b yfa ds' → post (ylv, ypc, yqc, ycc, yec, yde, yus, ywe, yfo, yli, yso, ysu, yla, ypr, yfr, yto, yty, ywt, pva, pwa, pam, pdi, plo, phi, ptk, pco, pex, yst, ypa, ysp, ypl, ycp, ybo, ytk, yno, ych, ds')) : wpY_edgeTable post (ylv, ypc, yqc, ycc, yec, yde, yus, ywe, yfo, yli, yso, ysu, yla, ypr, yfr, yto, yty, ywt, pva, pwa, pam, pdi, plo, phi, ptk, pco, pex, yst, ypa, ysp, ypl, ycp, ybo, ytk, yno, ych, yfa) (nI (b * 64)) (nI t) := by
  have K : ∀ d c ds', c + d = 64 → tb_N ds' b (fun _ => 1000000) c → tb_F b yfa ds' → wY_edgeTable_2 post (nI (b * 64)) (nI t) ylv ypc yqc ycc yec yde yus ywe yfo yli yso ysu (d + 1) (nI c) yla ypr yfr yto yty ywt pva pwa pam pdi plo phi ptk pco pex yst ypa ysp ypl ycp ybo ytk yno ych ds' := by
    intro d
    induction d with
    | zero =>
      intro c ds' hd k1 k2
      have q : c = 64 := by omega
      subst q
      refine br_t (nI_le (a := 64) (by omega) (by omega)) ⟨13, yw_e26 hb ht hR (fun ds'' j1 j2 => h ds'' j1 (tb_Ft k2 j2 (Nat.le_refl b))) 12 0 ds' (by omega) k1 (tb_Fr b ds')⟩
    | succ d ih =>
      intro c ds' hd k1 k2
      refine br_f (nI_ge (b := 64) (by omega) (by decide)) ?_
      rw [nI_add]
      exact ⟨vp_in_nI (by omega) (by omega), nm_r (tg_u (by omega)) (nm_r (nI_1 c) (ih (c + 1) _ (by omega) (tb_s k1 rfl (by omega)) (tb_Fu k2 (Nat.le_refl b))))⟩
  exact ⟨65, K 64 0 yfa (by omega) (fun k hk => absurd hk (Nat.not_lt_zero k)) (tb_Fr b yfa)⟩
/-! compose, into table 10 -/
theorem yw_c17 {post : SY → Prop} {J : _} {p q c : Nat} {A B : Nat → Nat} (hp : p ≤ 9) (hq : q ≤ 9) (hc : c < 64) {ds' : Nat → Int32} (hA : tb_N ds' p A 64) (hB : tb_N ds' q B 64) (hJ : J (nI (c + 1)) yla ypr yfr yto yty ywt pva pwa pam pdi plo phi ptk pco pex yst ypa ysp ypl ycp ybo ytk yno ych (upd ds' (10 * 64 + c) (nI (tb_c A B c)))) : ∀ d m, m + d = 8 → wY_compose_17 post J (nI (p * 64)) (nI (q * 64)) (nI (10 * 64)) (nI c) ylv ypc yqc ycc yec yde yus ywe yfo yli yso ysu yla ypr yfr yto yty ywt pva pwa pam pdi plo phi ptk pco pex yst ypa ysp ypl ycp ybo ytk yno ych ds' (d + 1) (nI (tb_c1 A B c m)) (nI m) := by
  intro d
  induction d with
  | zero =>
    intro m hm
    have z : m = 8 := by omega
    subst z
    refine br_t (nI_le (a := 8) (by omega) (by omega)) ?_
    rw [nI_add]
    exact ⟨vp_in_nI (by omega) (by omega), nm_r (tg_u (by omega)) (nm_r (nI_1 c) hJ)⟩
  | succ d ih =>
    intro m hm
    obtain ⟨a1, a2⟩ := hA (c / 8 * 8 + m) (by omega)
    obtain ⟨b1, b2⟩ := hB (8 * m + c % 8) (by omega)
    obtain ⟨e1, e2⟩ := tg_d8 (c := c) (by omega)
    have l1 := tb_c1_le A B c m
    refine br_f (nI_ge (b := 8) (by omega) (by decide)) ?_
    rw [e2, e1, tg_ia, tg_ib, nI_clamp (show p * 64 + (c / 8 * 8 + m) < 2 ^ 31 by omega), nI_clamp (show q * 64 + (8 * m + c % 8) < 2 ^ 31 by omega), a1, b1, nI_add]
    have nx := ih (m + 1) (by omega)
    refine ⟨by decide, vp_in_nI (by omega) (by omega), by decide, vp_in_nI (by omega) (by omega), nm_e ?_⟩
    by_cases z : A (c / 8 * 8 + m) + B (8 * m + c % 8) < tb_c1 A B c m
    · rw [show tb_c1 A B c (m + 1) = A (c / 8 * 8 + m) + B (8 * m + c % 8) from if_pos z] at nx
      exact br_f (nI_ge z (by omega)) (nm_r (nI_1 m) nx)
    · rw [show tb_c1 A B c (m + 1) = tb_c1 A B c m from if_neg z] at nx
      exact br_t (nI_le (by omega) (by omega)) (nm_r (nI_1 m) nx)
theorem yw_c {post : SY → Prop} {p q : Nat} {A B : Nat → Nat} (hp : p ≤ 9) (hq : q ≤ 9) (hA : tb_N yfa p A 64) (hB : tb_N yfa q B 64) (h : ∀ ds', tb_N ds' 10 (tb_c A B) 64 → tb_F 10 yfa ds' → post (ylv, ypc, yqc, ycc, yec, yde, yus, ywe, yfo, yli, yso, ysu, yla, ypr, yfr, yto, yty, ywt, pva, pwa, pam, pdi, plo, phi, ptk, pco, pex, yst, ypa, ysp, ypl, ycp, ybo, ytk, yno, ych, ds')) : wpY_compose post (ylv, ypc, yqc, ycc, yec, yde, yus, ywe, yfo, yli, yso, ysu, yla, ypr, yfr, yto, yty, ywt, pva, pwa, pam, pdi, plo, phi, ptk, pco, pex, yst, ypa, ysp, ypl, ycp, ybo, ytk, yno, ych, yfa) (nI (p * 64)) (nI (q * 64)) (nI (10 * 64)) := by
  have K : ∀ d c ds', c + d = 64 → tb_N ds' 10 (tb_c A B) c → tb_F 10 yfa ds' → wY_compose_3 post (nI (p * 64)) (nI (q * 64)) (nI (10 * 64)) ylv ypc yqc ycc yec yde yus ywe yfo yli yso ysu (d + 1) (nI c) yla ypr yfr yto yty ywt pva pwa pam pdi plo phi ptk pco pex yst ypa ysp ypl ycp ybo ytk yno ych ds' := by
    intro d
    induction d with
    | zero =>
      intro c ds' hd k1 k2
      have z : c = 64 := by omega
      subst z
      exact br_t (nI_le (a := 64) (by omega) (by omega)) (h ds' k1 k2)
    | succ d ih =>
      intro c ds' hd k1 k2
      exact br_f (nI_ge (b := 64) (by omega) (by decide)) ⟨9, yw_c17 hp hq (by omega) (tb_NF hA k2 (by omega) (Nat.le_refl 64)) (tb_NF hB k2 (by omega) (Nat.le_refl 64)) (ih (c + 1) _ (by omega) (tb_s k1 rfl (tb_c1_le A B c 8)) (tb_Fu k2 (Nat.le_refl _))) 8 0 (by omega)⟩
  exact ⟨65, K 64 0 yfa (by omega) (fun k hk => absurd hk (Nat.not_lt_zero k)) (tb_Fr _ yfa)⟩
/-! repeat -/
theorem tg_rq {q : Nat} (hq : q < 512) : nI q / 64 = nI (q / 64) ∧ (nI (q / 8) - nI (q / 8) / 8 * 8) = nI (q / 8 % 8) := ⟨pk_div (d := 64) (by omega) (by omega) (by omega), pk_rem (d := 8) (by omega) (by omega) (by omega)⟩
theorem yw_r28 {post : SY → Prop} {b : Nat} {A : Nat → Nat} (hb : b ≤ 9) (h : ∀ ds', tb_N ds' b (tb_w A) 64 → tb_F b yfa ds' → post (ylv, ypc, yqc, ycc, yec, yde, yus, ywe, yfo, yli, yso, ysu, yla, ypr, yfr, yto, yty, ywt, pva, pwa, pam, pdi, plo, phi, ptk, pco, pex, yst, ypa, ysp, ypl, ycp, ybo, ytk, yno, ych, ds')) : ∀ d q ds', q + d = 512 → tb_N ds' b (tb_q A q) 64 → tb_F b yfa ds' → wY_repeat_28 post (nI (b * 64)) ylv ypc yqc ycc yec yde yus ywe yfo yli yso ysu (d + 1) (nI q) yla ypr yfr yto yty ywt pva pwa pam pdi plo phi ptk pco pex yst ypa ysp ypl ycp ybo ytk yno ych ds' := by
  intro d
  induction d with
  | zero =>
    intro q ds' hd k1 k2
    have z : q = 512 := by omega
    subst z
    exact br_t (nI_le (a := 512) (by omega) (by omega)) (h ds' k1 k2)
  | succ d ih =>
    intro q ds' hd k1 k2
    obtain ⟨e1, e2⟩ := tg_d8 (c := q) (by omega)
    obtain ⟨e3, e4⟩ := tg_rq (q := q) (by omega)
    have qs : ∀ k, tb_q A (q + 1) k = if k = q % 64 then tb_p (tb_q A q) (q / 64) (q % 64) else tb_q A q k := fun k => rfl
    generalize tb_q A q = B at k1 qs
    obtain ⟨a1, a2⟩ := k1 (q / 8 % 8 * 8 + q / 64) (by omega)
    obtain ⟨b1, b2⟩ := k1 (8 * (q / 64) + q % 8) (by omega)
    obtain ⟨c1, c2⟩ := k1 (q % 64) (by omega)
    have i1 : q % 64 / 8 * 8 = q / 8 % 8 * 8 := by omega
    have i2 : q % 64 % 8 = q % 8 := by omega
    have e5 : nI (q / 8 % 8) * 8 = nI (q / 8 % 8 * 8) := pk_mul _ 8
    have e6 : nI (b * 64 + q / 8 % 8 * 8) + nI (q % 8) = nI (b * 64 + q % 64) := by rw [nI_add]; exact congrArg nI (by omega)
    have w : vp_in (nI (b * 64 + q % 64)) 704 := vp_in_nI (by omega) (by omega)
    refine br_f (nI_ge (b := 512) (by omega) (by decide)) ⟨by decide, by decide, nm_r (show _ = nI (b * 64 + q / 8 % 8 * 8) from by rw [e1, e4, e5, nI_add]) ⟨by decide, nm_r e3 ?_⟩⟩
    rw [e2, e6, nI_add, tg_ib, nI_clamp (show b * 64 + q / 8 % 8 * 8 + q / 64 < 2 ^ 31 by omega), nI_clamp (show b * 64 + (8 * (q / 64) + q % 8) < 2 ^ 31 by omega), nI_clamp (show b * 64 + q % 64 < 2 ^ 31 by omega), Nat.add_assoc, a1, b1, c1, nI_add]
    refine ⟨vp_in_nI (by omega) (by omega), by decide, vp_in_nI (by omega) (by omega), nm_e ⟨by decide, w, ?_⟩⟩
    by_cases z : B (q / 8 % 8 * 8 + q / 64) + B (8 * (q / 64) + q % 8) < B (q % 64)
    · refine br_f (nI_ge z (by omega)) ⟨by decide, w, nm_e (nm_r (nI_1 q) (ih (q + 1) _ (by omega) (tb_c0 (tb_u k1 (c := q % 64) (v := B (q / 8 % 8 * 8 + q / 64) + B (8 * (q / 64) + q % 8)) (by omega)) (fun k hk => ?_)) (tb_Fu k2 (Nat.le_refl b))))⟩
      rw [qs k]
      by_cases y : k = q % 64
      · rw [if_pos y, if_pos y]; unfold tb_p; rw [i1, i2]; exact if_pos z
      · rw [if_neg y, if_neg y]
    · refine br_t (nI_le (by omega) (by omega)) (nm_r (nI_1 q) (ih (q + 1) ds' (by omega) (tb_c0 k1 (fun k hk => ?_)) k2))
      rw [qs k]
      by_cases y : k = q % 64
      · rw [if_pos y, y]; unfold tb_p; rw [i1, i2]; exact if_neg z
      · rw [if_neg y]
theorem yw_r {post : SY → Prop} {b : Nat} {A : Nat → Nat} (hb : b ≤ 9) (hA : tb_N yfa b A 64) (h : ∀ ds', tb_N ds' b (tb_w (tb_z A)) 64 → tb_F b yfa ds' → post (ylv, ypc, yqc, ycc, yec, yde, yus, ywe, yfo, yli, yso, ysu, yla, ypr, yfr, yto, yty, ywt, pva, pwa, pam, pdi, plo, phi, ptk, pco, pex, yst, ypa, ysp, ypl, ycp, ybo, ytk, yno, ych, ds')) : wpY_repeat post (ylv, ypc, yqc, ycc, yec, yde, yus, ywe, yfo, yli, yso, ysu, yla, ypr, yfr, yto, yty, ywt, pva, pwa, pam, pdi, plo, phi, ptk, pco, pex, yst, ypa, ysp, ypl, ycp, ybo, ytk, yno, ych, yfa) (nI (b * 64)) := by
  have K : ∀ d i ds', i + d = 8 → tb_N ds' b (fun k => if k / 8 = k % 8 ∧ k < 9 * i then 0 else A k) 64 → tb_F b yfa ds' → wY_repeat_2 post (nI (b * 64)) ylv ypc yqc ycc yec yde yus ywe yfo yli yso ysu (d + 1) (nI i) yla ypr yfr yto yty ywt pva pwa pam pdi plo phi ptk pco pex yst ypa ysp ypl ycp ybo ytk yno ych ds' := by
    intro d
    induction d with
    | zero =>
      intro i ds' hd k1 k2
      have z : i = 8 := by omega
      subst z
      refine br_t (nI_le (a := 8) (by omega) (by omega)) ⟨513, yw_r28 hb (fun ds'' j1 j2 => h ds'' j1 (tb_Ft k2 j2 (Nat.le_refl b))) 512 0 ds' (by omega) (tb_c0 k1 (fun k hk => ?_)) (tb_Fr b ds')⟩
      show tb_z A k = _
      unfold tb_z
      by_cases x : k / 8 = k % 8
      · rw [if_pos x, if_pos (by omega)]
      · rw [if_neg x, if_neg (by omega)]
    | succ d ih =>
      intro i ds' hd k1 k2
      have e : 9 * nI i = nI (9 * i) := pk_mul 9 i
      refine br_f (nI_ge (b := 8) (by omega) (by decide)) ?_
      rw [e, nI_add]
      exact ⟨vp_in_nI (by omega) (by omega), nm_r (tg_u (by omega)) (nm_r (nI_1 i) (ih (i + 1) _ (by omega) (tb_z9 (by omega) k1) (tb_Fu k2 (Nat.le_refl b))))⟩
  exact ⟨9, K 8 0 yfa (by omega) (tb_c0 hA (fun k hk => if_neg (by omega))) (tb_Fr b yfa)⟩
