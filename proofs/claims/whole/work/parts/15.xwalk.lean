/-! X's table operations -/
theorem tb_ed_t {eT : Int32} {yfr yto yty : Nat → Int32} {t e : Nat} (h : bt eT e = true ∧ yty e = nI (t % 3)) (k : Nat) : tb_ed eT yfr yto yty t (e + 1) k = if k = tb_ix yfr yto t e then 1 else tb_ed eT yfr yto yty t e k := by
  show (if (bt eT e = true ∧ yty e = nI (t % 3)) ∧ k = tb_ix yfr yto t e then 1 else tb_ed eT yfr yto yty t e k) = _
  by_cases z : k = tb_ix yfr yto t e
  · rw [if_pos ⟨h, z⟩, if_pos z]
  · rw [if_neg (fun q => z q.2), if_neg z]
theorem tb_ed_f {eT : Int32} {yfr yto yty : Nat → Int32} {t e : Nat} (h : ¬ (bt eT e = true ∧ yty e = nI (t % 3))) (k : Nat) : tb_ed eT yfr yto yty t (e + 1) k = tb_ed eT yfr yto yty t e k := if_neg (fun q => h q.1)
theorem tb_q_s (A : Nat → Nat) {m c : Nat} (hc : c < 64) (k : Nat) : tb_q A (64 * m + (c + 1)) k = if k = c then tb_p (tb_q A (64 * m + c)) m c else tb_q A (64 * m + c) k := by
  show (if k = (64 * m + c) % 64 then tb_p (tb_q A (64 * m + c)) ((64 * m + c) / 64) ((64 * m + c) % 64) else tb_q A (64 * m + c) k) = _
  rw [show (64 * m + c) / 64 = m from by omega, show (64 * m + c) % 64 = c from by omega]
theorem tg_d8 {c : Nat} (hc : c < 512) : nI c / 8 = nI (c / 8) ∧ nI c - nI c / 8 * 8 = nI (c % 8) := ⟨pk_div (d := 8) (by omega) (by omega) (by omega), pk_rem (d := 8) (by omega) (by omega) (by omega)⟩
theorem tg_ia {b i m : Nat} : nI (b * 64) + nI i * 8 + nI m = nI (b * 64 + (i * 8 + m)) := by
  have e : nI i * 8 = nI (i * 8) := pk_mul i 8
  rw [e, nI_add, nI_add, Nat.add_assoc]
variable {nT : Int32} {eT : Int32} {xlv : Int32} {xpc : Int32} {xqc : Int32} {xcc : Int32} {xec : Int32} {mc : Int32} {lw : Int32} {rc : Int32} {xla : Nat → Int32} {xpr : Nat → Int64} {xed : Nat → Int32} {sN : Nat → Int32} {sE : Nat → Int32} {sL : Nat → Int32} {sP : Nat → Int64} {sD : Nat → Int32} {pva : Nat → Int32} {pwa : Nat → Int32} {pam : Nat → Int32} {pdi : Nat → Int32} {plo : Nat → Int32} {phi : Nat → Int32} {ptk : Nat → Int32} {pco : Nat → Int32} {pex : Nat → Int32} {tr : Nat → Int32} {ds : Nat → Int32} {ch : Nat → Int32} {ar : Nat → Int32} {rN : Nat → Int32} {rM : Nat → Int32} {s1 : Nat → Int32} {s2 : Nat → Int32} {s3 : Nat → Int32} {s4 : Nat → Int32} {s5 : Nat → Int32}
variable {ylv : Int32} {ypc : Int32} {yqc : Int32} {ycc : Int32} {yec : Int32} {yde : Int32} {yus : Int32} {ywe : Int32} {yfo : Int32} {yli : Int32} {yso : Int32} {ysu : Int64} {yla : Nat → Int32} {ypr : Nat → Int64} {yfr : Nat → Int32} {yto : Nat → Int32} {yty : Nat → Int32} {ywt : Nat → Int32} {yst : Nat → Int32} {ypa : Nat → Int32} {ysp : Nat → Int32} {ypl : Nat → Int32} {ycp : Nat → Int32} {ybo : Nat → Int32} {ytk : Nat → Int32} {yno : Nat → Int32} {ych : Nat → Int32} {yfa : Nat → Int32}
theorem xw_e26 {post : SX → Prop} {b t : Nat} (hb : b ≤ 9) (ht : t ≤ 5) (hR : gr_R nT eT xla xpr xed yla ypr yfr yto yty ywt) (h : ∀ ds', tb_N ds' b (tb_ed eT yfr yto yty t 12) 64 → tb_F b ds ds' → post (nT, eT, xlv, xpc, xqc, xcc, xec, mc, lw, rc, xla, xpr, xed, sN, sE, sL, sP, sD, pva, pwa, pam, pdi, plo, phi, ptk, pco, pex, tr, ds', ch, ar, rN, rM, s1, s2, s3, s4, s5)) : ∀ d e ds', e + d = 12 → tb_N ds' b (tb_ed eT yfr yto yty t e) 64 → tb_F b ds ds' → wX_measureEdges_26 post (nI (b * 64)) (nI t) nT eT xlv xpc xqc xcc xec mc lw rc (d + 1) (nI e) xla xpr xed sN sE sL sP sD pva pwa pam pdi plo phi ptk pco pex tr ds' ch ar rN rM s1 s2 s3 s4 s5 := by
  intro d
  induction d with
  | zero =>
    intro e ds' hd k1 k2
    have q : e = 12 := by omega
    subst q
    exact br_t (nI_le (a := 12) (by omega) (by omega)) (h ds' k1 k2)
  | succ d ih =>
    intro e ds' hd k1 k2
    have w : vp_in (nI e) 12 := vp_in_nI (by omega) (by omega)
    have c0 : (nI e).toNatClampNeg = e := nI_clamp (by omega)
    have skip : ¬ (bt eT e = true ∧ yty e = nI (t % 3)) → wX_measureEdges_26 post (nI (b * 64)) (nI t) nT eT xlv xpc xqc xcc xec mc lw rc (d + 1) (nI (e + 1)) xla xpr xed sN sE sL sP sD pva pwa pam pdi plo phi ptk pco pex tr ds' ch ar rN rM s1 s2 s3 s4 s5 := fun q =>
      ih (e + 1) ds' (by omega) (tb_c0 k1 (fun k _ => tb_ed_f q k)) k2
    refine br_f (nI_ge (b := 12) (by omega) (by decide)) (tg_isIn (by omega) (tg_zbr (fun q => nm_r (nI_1 e) (skip (fun q' => by rw [q] at q'; exact absurd q'.1 (by decide)))) (fun q => ⟨w, ?_⟩)))
    obtain ⟨q1, q2, q3, _⟩ := tg_ft (hR.2.2.2 e (by omega)) q
    have e3 : nI t - nI t / 3 * 3 = nI (t % 3)   := pk_rem (d := 3) (by omega) (by omega) (by omega)
    rw [c0, q3, e3]
    refine ⟨by decide, br_c (fun ty => ?_) (fun ty => nm_r (nI_1 e) (skip (fun q' => ty q'.2)))⟩
    rcases hR.2.2.2 e (by omega) with ⟨_, f, t', y, w', hf, ht', _, _, _, _, _, e1, e2, _, _⟩ | ⟨a, _⟩
    · have go : ∀ x : Nat, x = tb_ix yfr yto t e → x < 64 → wX_measureEdges_26 post (nI (b * 64)) (nI t) nT eT xlv xpc xqc xcc xec mc lw rc (d + 1) (nI (e + 1)) xla xpr xed sN sE sL sP sD pva pwa pam pdi plo phi ptk pco pex tr (upd ds' (b * 64 + x) (nI 1)) ch ar rN rM s1 s2 s3 s4 s5 := fun x hx hl =>
        ih (e + 1) _ (by omega) (tb_c0 (tb_u k1 (v := 1) (c := x) (by omega)) (fun k _ => by rw [tb_ed_t ⟨q, ty⟩, ← hx])) (tb_Fu k2 (Nat.le_refl b))
      have cf : (yfr e).toNatClampNeg = f := by rw [e1, nI_clamp (by omega)]
      have ct : (yto e).toNatClampNeg = t' := by rw [e2, nI_clamp (by omega)]
      by_cases z : t < 3
      · refine br_f (nI_ge (b := 3) z (by omega)) ⟨w, ?_⟩
        refine br_f (nI_ge (b := 3) z (by omega)) ⟨w, ?_⟩
        rw [c0, q1, q2, e1, e2]
        unfold wX_measureEdges_92
        dsimp only
        rw [tg_ia]
        exact ⟨vp_in_nI (by omega) (by omega), nm_r (tg_u (by omega)) (nm_r (nI_1 e) (go (f * 8 + t') (by unfold tb_ix; rw [if_pos z, cf, ct]; omega) (by omega)))⟩
      · refine br_t (nI_le (a := 3) (by omega) (by omega)) ⟨w, ?_⟩
        refine br_t (nI_le (a := 3) (by omega) (by omega)) ⟨w, ?_⟩
        rw [c0, q1, q2, e1, e2]
        unfold wX_measureEdges_92
        dsimp only
        rw [tg_ia]
        exact ⟨vp_in_nI (by omega) (by omega), nm_r (tg_u (by omega)) (nm_r (nI_1 e) (go (t' * 8 + f) (by unfold tb_ix; rw [if_neg z, cf, ct]; omega) (by omega)))⟩
    · rw [a] at q; exact absurd q (by decide)
theorem xw_e2 {post : SX → Prop} {b t : Nat} (hb : b ≤ 9) (ht : t ≤ 5) (hR : gr_R nT eT xla xpr xed yla ypr yfr yto yty ywt) (h : ∀ ds', tb_N ds' b (tb_ed eT yfr yto yty t 12) 64 → tb_F b ds ds' → post (nT, eT, xlv, xpc, xqc, xcc, xec, mc, lw, rc, xla, xpr, xed, sN, sE, sL, sP, sD, pva, pwa, pam, pdi, plo, phi, ptk, pco, pex, tr, ds', ch, ar, rN, rM, s1, s2, s3, s4, s5)) : wpX_measureEdges post (nT, eT, xlv, xpc, xqc, xcc, xec, mc, lw, rc, xla, xpr, xed, sN, sE, sL, sP, sD, pva, pwa, pam, pdi, plo, phi, ptk, pco, pex, tr, ds, ch, ar, rN, rM, s1, s2, s3, s4, s5) (nI (b * 64)) (nI t) := by
  have K : ∀ d c ds', c + d = 64 → tb_N ds' b (fun _ => 1000000) c → tb_F b ds ds' → wX_measureEdges_2 post (nI (b * 64)) (nI t) nT eT xlv xpc xqc xcc xec mc lw rc (d + 1) (nI c) xla xpr xed sN sE sL sP sD pva pwa pam pdi plo phi ptk pco pex tr ds' ch ar rN rM s1 s2 s3 s4 s5 := by
    intro d
    induction d with
    | zero =>
      intro c ds' hd k1 k2
      have q : c = 64 := by omega
      subst q
      refine br_t (nI_le (a := 64) (by omega) (by omega)) ⟨13, xw_e26 hb ht hR (fun ds'' j1 j2 => h ds'' j1 (tb_Ft k2 j2 (Nat.le_refl b))) 12 0 ds' (by omega) k1 (tb_Fr b ds')⟩
    | succ d ih =>
      intro c ds' hd k1 k2
      refine br_f (nI_ge (b := 64) (by omega) (by decide)) ?_
      rw [nI_add]
      exact ⟨vp_in_nI (by omega) (by omega), nm_r (tg_u (by omega)) (nm_r (nI_1 c) (ih (c + 1) _ (by omega) (tb_s k1 rfl (by omega)) (tb_Fu k2 (Nat.le_refl b))))⟩
  exact ⟨65, K 64 0 ds (by omega) (fun k hk => absurd hk (Nat.not_lt_zero k)) (tb_Fr b ds)⟩
/-! both -/
theorem xw_b36 {post : SX → Prop} {J : _} {p q c : Nat} {A B : Nat → Nat} (hp : p ≤ 9) (hq : q < p) (hc : c < 64) {ds' : Nat → Int32} (hA : tb_N ds' p A 64) (hB : tb_N ds' q B 64) (hJ : J (nI (c + 1)) xla xpr xed sN sE sL sP sD pva pwa pam pdi plo phi ptk pco pex tr (upd ds' ((p + 1) * 64 + c) (nI (tb_c A B c))) ch ar rN rM s1 s2 s3 s4 s5) : ∀ d m, m + d = 8 → wX_measureBoth_36 post J (nI (p * 64)) (nI (q * 64)) (nI ((p + 1) * 64)) (nI c) (nI (c / 8)) (nI (c % 8)) nT eT xlv xpc xqc xcc xec mc lw rc xla xpr xed sN sE sL sP sD pva pwa pam pdi plo phi ptk pco pex tr ds' ch ar rN rM s1 s2 s3 s4 s5 (d + 1) (nI (tb_c1 A B c m)) (nI m) := by
  intro d
  induction d with
  | zero =>
    intro m hm
    have z : m = 8 := by omega
    subst z
    refine br_t (nI_le (a := 8) (by omega) (by omega)) ?_
    rw [nI_add]
    exact ⟨vp_in_nI (by omega) (by omega), nm_r (tg_u (by omega)) (nm_r (nI_1 c) hJ)⟩
  | succ d ih =>
    intro m hm
    obtain ⟨a1, a2⟩ := hA (c / 8 * 8 + m) (by omega)
    obtain ⟨b1, b2⟩ := hB (8 * m + c % 8) (by omega)
    have l1 := tb_c1_le A B c m
    have e2 : nI (q * 64) + nI m * 8 + nI (c % 8) = nI (q * 64 + (8 * m + c % 8)) := by rw [tg_ia, Nat.mul_comm m 8]
    refine br_f (nI_ge (b := 8) (by omega) (by decide)) ?_
    rw [tg_ia, e2, nI_clamp (show p * 64 + (c / 8 * 8 + m) < 2 ^ 31 by omega), nI_clamp (show q * 64 + (8 * m + c % 8) < 2 ^ 31 by omega), a1, b1, nI_add]
    have nx := ih (m + 1) (by omega)
    refine ⟨vp_in_nI (by omega) (by omega), vp_in_nI (by omega) (by omega), nm_e ?_⟩
    by_cases z : A (c / 8 * 8 + m) + B (8 * m + c % 8) < tb_c1 A B c m
    · rw [show tb_c1 A B c (m + 1) = A (c / 8 * 8 + m) + B (8 * m + c % 8) from if_pos z] at nx
      exact br_f (nI_ge z (by omega)) (nm_r (nI_1 m) nx)
    · rw [show tb_c1 A B c (m + 1) = tb_c1 A B c m from if_neg z] at nx
      exact br_t (nI_le (by omega) (by omega)) (nm_r (nI_1 m) nx)
theorem xw_b113 {post : SX → Prop} {p q : Nat} {A : Nat → Nat} (hp : p ≤ 9) (hq : q < p) (h : ∀ ds', tb_N ds' q A 64 → tb_F q ds ds' → post (nT, eT, xlv, xpc, xqc, xcc, xec, mc, lw, rc, xla, xpr, xed, sN, sE, sL, sP, sD, pva, pwa, pam, pdi, plo, phi, ptk, pco, pex, tr, ds', ch, ar, rN, rM, s1, s2, s3, s4, s5)) : ∀ d c ds', c + d = 64 → tb_N ds' (p + 1) A 64 → tb_N ds' q A c → tb_F q ds ds' → wX_measureBoth_113 post (nI (q * 64)) (nI ((p + 1) * 64)) nT eT xlv xpc xqc xcc xec mc lw rc (d + 1) (nI c) xla xpr xed sN sE sL sP sD pva pwa pam pdi plo phi ptk pco pex tr ds' ch ar rN rM s1 s2 s3 s4 s5 := by
  intro d
  induction d with
  | zero =>
    intro c ds' hd k0 k1 k2
    have z : c = 64 := by omega
    subst z
    exact br_t (nI_le (a := 64) (by omega) (by omega)) (h ds' k1 k2)
  | succ d ih =>
    intro c ds' hd k0 k1 k2
    obtain ⟨a1, a2⟩ := k0 c (by omega)
    refine br_f (nI_ge (b := 64) (by omega) (by decide)) ?_
    rw [nI_add, nI_add, nI_clamp (show (p + 1) * 64 + c < 2 ^ 31 by omega)]
    exact ⟨vp_in_nI (by omega) (by omega), vp_in_nI (by omega) (by omega), nm_r (tg_u (by omega)) (nm_r (nI_1 c) (ih (c + 1) _ (by omega) (tb_o k0 (by omega) (by omega) (by omega)) (tb_s k1 a1 a2) (tb_Fu k2 (Nat.le_refl q))))⟩
theorem xw_b {post : SX → Prop} {p q : Nat} {A B : Nat → Nat} (hp : p ≤ 9) (hq : q < p) (hA : tb_N ds p A 64) (hB : tb_N ds q B 64) (h : ∀ ds', tb_N ds' q (tb_c A B) 64 → tb_F q ds ds' → post (nT, eT, xlv, xpc, xqc, xcc, xec, mc, lw, rc, xla, xpr, xed, sN, sE, sL, sP, sD, pva, pwa, pam, pdi, plo, phi, ptk, pco, pex, tr, ds', ch, ar, rN, rM, s1, s2, s3, s4, s5)) : wpX_measureBoth post (nT, eT, xlv, xpc, xqc, xcc, xec, mc, lw, rc, xla, xpr, xed, sN, sE, sL, sP, sD, pva, pwa, pam, pdi, plo, phi, ptk, pco, pex, tr, ds, ch, ar, rN, rM, s1, s2, s3, s4, s5) (nI (p * 64)) (nI (q * 64)) := by
  have K : ∀ d c ds', c + d = 64 → tb_N ds' (p + 1) (tb_c A B) c → tb_F (p + 1) ds ds' → wX_measureBoth_8 post (nI (p * 64)) (nI (q * 64)) (nI ((p + 1) * 64)) nT eT xlv xpc xqc xcc xec mc lw rc (d + 1) (nI c) xla xpr xed sN sE sL sP sD pva pwa pam pdi plo phi ptk pco pex tr ds' ch ar rN rM s1 s2 s3 s4 s5 := by
    intro d
    induction d with
    | zero =>
      intro c ds' hd k1 k2
      have z : c = 64 := by omega
      subst z
      exact br_t (nI_le (a := 64) (by omega) (by omega)) ⟨65, xw_b113 hp hq (fun ds'' j1 j2 => h ds'' j1 (fun j hj => (j2 j hj).trans (k2 j (by omega)))) 64 0 ds' (by omega) k1 (fun k hk => absurd hk (Nat.not_lt_zero k)) (tb_Fr q ds')⟩
    | succ d ih =>
      intro c ds' hd k1 k2
      obtain ⟨e1, e2⟩ := tg_d8 (c := c) (by omega)
      refine br_f (nI_ge (b := 64) (by omega) (by decide)) ⟨by decide, nm_r e1 ⟨by decide, nm_r e2 ⟨9, xw_b36 hp hq (by omega) (tb_NF hA k2 (by omega) (Nat.le_refl 64)) (tb_NF hB k2 (by omega) (Nat.le_refl 64)) (ih (c + 1) _ (by omega) (tb_s k1 rfl (tb_c1_le A B c 8)) (tb_Fu k2 (Nat.le_refl _))) 8 0 (by omega)⟩⟩⟩
  refine nm_r (show _ = nI ((p + 1) * 64) from ?_) ⟨65, K 64 0 ds (by omega) (fun k hk => absurd hk (Nat.not_lt_zero k)) (tb_Fr _ ds)⟩
  have : nI (p * 64) + 64 = nI (p * 64 + 64) := nI_add _ 64
  rw [this, Nat.add_mul]
/-! either -/
theorem xw_m {post : SX → Prop} {p q : Nat} {A B : Nat → Nat} (hp : p ≤ 9) (hq : q < p) (hA : tb_N ds p A 64) (hB : tb_N ds q B 64) (h : ∀ ds', tb_N ds' q (tb_m A B) 64 → tb_F q ds ds' → post (nT, eT, xlv, xpc, xqc, xcc, xec, mc, lw, rc, xla, xpr, xed, sN, sE, sL, sP, sD, pva, pwa, pam, pdi, plo, phi, ptk, pco, pex, tr, ds', ch, ar, rN, rM, s1, s2, s3, s4, s5)) : wpX_measureEither post (nT, eT, xlv, xpc, xqc, xcc, xec, mc, lw, rc, xla, xpr, xed, sN, sE, sL, sP, sD, pva, pwa, pam, pdi, plo, phi, ptk, pco, pex, tr, ds, ch, ar, rN, rM, s1, s2, s3, s4, s5) (nI (p * 64)) (nI (q * 64)) := by
  have K : ∀ d c ds', c + d = 64 → tb_N ds' p A 64 → tb_N ds' q (fun k => if k < c then tb_m A B k else B k) 64 → tb_F q ds ds' → wX_measureEither_2 post (nI (p * 64)) (nI (q * 64)) nT eT xlv xpc xqc xcc xec mc lw rc (d + 1) (nI c) xla xpr xed sN sE sL sP sD pva pwa pam pdi plo phi ptk pco pex tr ds' ch ar rN rM s1 s2 s3 s4 s5 := by
    intro d
    induction d with
    | zero =>
      intro c ds' hd k0 k1 k2
      have z : c = 64 := by omega
      subst z
      exact br_t (nI_le (a := 64) (by omega) (by omega)) (h ds' (tb_c0 k1 (fun k hk => (if_pos hk).symm)) k2)
    | succ d ih =>
      intro c ds' hd k0 k1 k2
      obtain ⟨a1, a2⟩ := k0 c (by omega)
      obtain ⟨b1, b2⟩ := k1 c (by omega)
      dsimp only at b1 b2
      rw [if_neg (Nat.lt_irrefl c)] at b1 b2
      refine br_f (nI_ge (b := 64) (by omega) (by decide)) ?_
      rw [nI_add, nI_add, nI_clamp (show p * 64 + c < 2 ^ 31 by omega), nI_clamp (show q * 64 + c < 2 ^ 31 by omega), a1, b1]
      have w1 : vp_in (nI (p * 64 + c)) 704 := vp_in_nI (by omega) (by omega)
      have w2 : vp_in (nI (q * 64 + c)) 704 := vp_in_nI (by omega) (by omega)
      refine ⟨w1, w2, ?_⟩
      by_cases z : A c < B c
      · refine br_f (nI_ge z (by omega)) ⟨w1, w2, nm_e (nm_r (nI_1 c) (ih (c + 1) _ (by omega) (tb_o k0 (by omega) (by omega) (by omega)) (tb_c0 (tb_u k1 (c := c) (v := A c) (by omega)) (fun k hk => ?_)) (tb_Fu k2 (Nat.le_refl q))))⟩
        by_cases y : k = c
        · subst y; rw [if_pos (by omega), if_pos rfl]; exact if_pos z
        · rw [if_neg y]
          by_cases x : k < c
          · rw [if_pos x, if_pos (by omega)]
          · rw [if_neg x, if_neg (by omega)]
      · refine br_t (nI_le (by omega) (by omega)) (nm_r (nI_1 c) (ih (c + 1) ds' (by omega) k0 (tb_c0 k1 (fun k hk => ?_)) k2))
        by_cases y : k = c
        · subst y; rw [if_pos (by omega), if_neg (by omega)]; exact if_neg z
        · by_cases x : k < c
          · rw [if_pos x, if_pos (by omega)]
          · rw [if_neg x, if_neg (by omega)]
  exact ⟨65, K 64 0 ds (by omega) hA (tb_c0 hB (fun k hk => if_neg (Nat.not_lt_zero k))) (tb_Fr q ds)⟩
/-! repeats, times -/
theorem xw_r {post : SX → Prop} {b : Nat} {A : Nat → Nat} (hb : b ≤ 9) (hA : tb_N ds b A 64) (h : ∀ ds', tb_N ds' b (tb_w A) 64 → tb_F b ds ds' → post (nT, eT, xlv, xpc, xqc, xcc, xec, mc, lw, rc, xla, xpr, xed, sN, sE, sL, sP, sD, pva, pwa, pam, pdi, plo, phi, ptk, pco, pex, tr, ds', ch, ar, rN, rM, s1, s2, s3, s4, s5)) : wpX_allowRepeats post (nT, eT, xlv, xpc, xqc, xcc, xec, mc, lw, rc, xla, xpr, xed, sN, sE, sL, sP, sD, pva, pwa, pam, pdi, plo, phi, ptk, pco, pex, tr, ds, ch, ar, rN, rM, s1, s2, s3, s4, s5) (nI (b * 64)) := by
  have K1 : ∀ (J : _) m, m < 8 → ∀ d c ds', c + d = 64 → (∀ ds', tb_N ds' b (tb_q A (64 * m + 64)) 64 → tb_F b ds ds' → J (nI (m + 1)) xla xpr xed sN sE sL sP sD pva pwa pam pdi plo phi ptk pco pex tr ds' ch ar rN rM s1 s2 s3 s4 s5) → tb_N ds' b (tb_q A (64 * m + c)) 64 → tb_F b ds ds' → wX_allowRepeats_10 post J (nI (b * 64)) (nI m) nT eT xlv xpc xqc xcc xec mc lw rc (d + 1) (nI c) xla xpr xed sN sE sL sP sD pva pwa pam pdi plo phi ptk pco pex tr ds' ch ar rN rM s1 s2 s3 s4 s5 := by
    intro J m hm d
    induction d with
    | zero =>
      intro c ds' hd hJ k1 k2
      have z : c = 64 := by omega
      subst z
      exact br_t (nI_le (a := 64) (by omega) (by omega)) (nm_r (nI_1 m) (hJ ds' k1 k2))
    | succ d ih =>
      intro c ds' hd hJ k1 k2
      obtain ⟨e1, e2⟩ := tg_d8 (c := c) (by omega)
      have q := tb_q_s A (m := m) (c := c) (by omega)
      generalize tb_q A (64 * m + c) = B at k1 q
      obtain ⟨a1, a2⟩ := k1 (c / 8 * 8 + m) (by omega)
      obtain ⟨b1, b2⟩ := k1 (8 * m + c % 8) (by omega)
      obtain ⟨c1, c2⟩ := k1 c (by omega)
      have e3 : nI (b * 64) + nI m * 8 + nI (c % 8) = nI (b * 64 + (8 * m + c % 8)) := by rw [tg_ia, Nat.mul_comm m 8]
      have w : vp_in (nI (b * 64 + c)) 704 := vp_in_nI (by omega) (by omega)
      refine br_f (nI_ge (b := 64) (by omega) (by decide)) ?_
      rw [e2, e1, tg_ia, e3, nI_add, nI_clamp (show b * 64 + (c / 8 * 8 + m) < 2 ^ 31 by omega), nI_clamp (show b * 64 + (8 * m + c % 8) < 2 ^ 31 by omega), nI_clamp (show b * 64 + c < 2 ^ 31 by omega), a1, b1, c1]
      refine ⟨by decide, vp_in_nI (by omega) (by omega), nm_e ⟨by decide, vp_in_nI (by omega) (by omega), nm_e ⟨w, ?_⟩⟩⟩
      rw [nI_add]
      by_cases z : B (c / 8 * 8 + m) + B (8 * m + c % 8) < B c
      · refine br_f (nI_ge z (by omega)) ⟨w, nm_e (nm_r (nI_1 c) (ih (c + 1) _ (by omega) hJ (tb_c0 (tb_u k1 (c := c) (v := B (c / 8 * 8 + m) + B (8 * m + c % 8)) (by omega)) (fun k hk => ?_)) (tb_Fu k2 (Nat.le_refl b))))⟩
        rw [q k]
        by_cases y : k = c
        · rw [if_pos y, if_pos y]; exact if_pos z
        · rw [if_neg y, if_neg y]
      · refine br_t (nI_le (by omega) (by omega)) (nm_r (nI_1 c) (ih (c + 1) ds' (by omega) hJ (tb_c0 k1 (fun k hk => ?_)) k2))
        rw [q k]
        by_cases y : k = c
        · rw [if_pos y, y]; exact if_neg z
        · rw [if_neg y]
  have K2 : ∀ d m ds', m + d = 8 → tb_N ds' b (tb_q A (64 * m)) 64 → tb_F b ds ds' → wX_allowRepeats_2 post (nI (b * 64)) nT eT xlv xpc xqc xcc xec mc lw rc (d + 1) (nI m) xla xpr xed sN sE sL sP sD pva pwa pam pdi plo phi ptk pco pex tr ds' ch ar rN rM s1 s2 s3 s4 s5 := by
    intro d
    induction d with
    | zero =>
      intro m ds' hd k1 k2
      have z : m = 8 := by omega
      subst z
      exact br_t (nI_le (a := 8) (by omega) (by omega)) (h ds' k1 k2)
    | succ d ih =>
      intro m ds' hd k1 k2
      exact br_f (nI_ge (b := 8) (by omega) (by decide)) ⟨65, K1 _ m (by omega) 64 0 ds' (by omega) (fun ds'' j1 j2 => ih (m + 1) ds'' (by omega) j1 j2) k1 k2⟩
  exact ⟨9, K2 8 0 ds (by omega) hA (tb_Fr b ds)⟩
theorem tb_z9 {ds : Nat → Int32} {b i : Nat} {A : Nat → Nat} (hi : i < 8) (h : tb_N ds b (fun k => if k / 8 = k % 8 ∧ k < 9 * i then 0 else A k) 64) : tb_N (upd ds (b * 64 + 9 * i) (nI 0)) b (fun k => if k / 8 = k % 8 ∧ k < 9 * (i + 1) then 0 else A k) 64 := by
  refine tb_c0 (tb_u h (c := 9 * i) (v := 0) (by omega)) (fun k hk => ?_)
  by_cases y : k = 9 * i
  · rw [if_pos y, if_pos (by omega)]
  · rw [if_neg y]
    by_cases x : k / 8 = k % 8 ∧ k < 9 * i
    · rw [if_pos x, if_pos (by omega)]
    · rw [if_neg x, if_neg (by omega)]
theorem xw_z {post : SX → Prop} {b : Nat} {A : Nat → Nat} (hb : b ≤ 9) (hA : tb_N ds b A 64) (h : ∀ ds', tb_N ds' b (tb_z A) 64 → tb_F b ds ds' → post (nT, eT, xlv, xpc, xqc, xcc, xec, mc, lw, rc, xla, xpr, xed, sN, sE, sL, sP, sD, pva, pwa, pam, pdi, plo, phi, ptk, pco, pex, tr, ds', ch, ar, rN, rM, s1, s2, s3, s4, s5)) : ∃ n, wX_measureTimes_19 post (nI (b * 64)) nT eT xlv xpc xqc xcc xec mc lw rc n 0 xla xpr xed sN sE sL sP sD pva pwa pam pdi plo phi ptk pco pex tr ds ch ar rN rM s1 s2 s3 s4 s5 := by
  have K : ∀ d i ds', i + d = 8 → tb_N ds' b (fun k => if k / 8 = k % 8 ∧ k < 9 * i then 0 else A k) 64 → tb_F b ds ds' → wX_measureTimes_19 post (nI (b * 64)) nT eT xlv xpc xqc xcc xec mc lw rc (d + 1) (nI i) xla xpr xed sN sE sL sP sD pva pwa pam pdi plo phi ptk pco pex tr ds' ch ar rN rM s1 s2 s3 s4 s5 := by
    intro d
    induction d with
    | zero =>
      intro i ds' hd k1 k2
      have z : i = 8 := by omega
      subst z
      refine br_t (nI_le (a := 8) (by omega) (by omega)) (h ds' (tb_c0 k1 (fun k hk => ?_)) k2)
      unfold tb_z
      by_cases x : k / 8 = k % 8
      · rw [if_pos x, if_pos (by omega)]
      · rw [if_neg x, if_neg (by omega)]
    | succ d ih =>
      intro i ds' hd k1 k2
      refine br_f (nI_ge (b := 8) (by omega) (by decide)) ?_
      rw [tg_ia, show i * 8 + i = 9 * i from by omega]
      exact ⟨vp_in_nI (by omega) (by omega), nm_r (tg_u (by omega)) (nm_r (nI_1 i) (ih (i + 1) _ (by omega) (tb_z9 (by omega) k1) (tb_Fu k2 (Nat.le_refl b))))⟩
  exact ⟨9, K 8 0 ds (by omega) (tb_c0 hA (fun k hk => if_neg (by omega))) (tb_Fr b ds)⟩
def tb_t (t : Nat) (A : Nat → Nat) : Nat → Nat := if t = 12 then tb_z (tb_w A) else if t = 13 then tb_w A else tb_z A
theorem xw_t {post : SX → Prop} {b t : Nat} {A : Nat → Nat} (hb : b ≤ 9) (ht : 12 ≤ t) (ht' : t ≤ 14) (hA : tb_N ds b A 64) (h : ∀ ds', tb_N ds' b (tb_t t A) 64 → tb_F b ds ds' → post (nT, eT, xlv, xpc, xqc, xcc, xec, mc, lw, rc, xla, xpr, xed, sN, sE, sL, sP, sD, pva, pwa, pam, pdi, plo, phi, ptk, pco, pex, tr, ds', ch, ar, rN, rM, s1, s2, s3, s4, s5)) : wpX_measureTimes post (nT, eT, xlv, xpc, xqc, xcc, xec, mc, lw, rc, xla, xpr, xed, sN, sE, sL, sP, sD, pva, pwa, pam, pdi, plo, phi, ptk, pco, pex, tr, ds, ch, ar, rN, rM, s1, s2, s3, s4, s5) (nI (b * 64)) (nI t) := by
  have ne : ∀ a, a < 100 → t ≠ a → ¬ nI t = nI a := fun a ha q e => q ((nI_eq (by omega) (by omega)).mp e)
  unfold wpX_measureTimes
  by_cases z : t = 14
  · subst z
    exact br_t rfl (br_f (by decide) (xw_z hb hA h))
  · refine br_f (ne 14 (by omega) z) (xw_r hb hA (fun ds' k1 k2 => ?_))
    by_cases y : t = 13
    · subst y
      exact br_t rfl (h ds' k1 k2)
    · have e : t = 12 := by omega
      subst e
      exact br_f (by decide) (xw_z hb k1 (fun ds'' j1 j2 => h ds'' j1 (tb_Ft k2 j2 (Nat.le_refl b))))
