/-! hop, token -/
theorem qu_am {va wa am di lo h : Nat → Int32} {k : Nat} (q : qu_P va wa am di lo h k) : (am k = 0 ∧ qu_H am h (k + 1) = qu_H am h k) ∨ (¬ am k = 0 ∧ ¬ am k ≤ 0 ∧ ∃ c, h k = nI c ∧ c ≤ 3 ∧ qu_H am h (k + 1) = qu_H am h k + c) := by
  obtain ⟨v, w, t, _, _, ht, _, _, e, f⟩ := q
  rcases Nat.eq_zero_or_pos t with z | z
  · subst z
    have e' : am k = 0 := e
    exact Or.inl ⟨e', by show qu_H am h k + _ = _; rw [if_pos e']; rfl⟩
  · obtain ⟨_, d, l, c, _, _, _, hc, _, _, e2⟩ := f z
    have n0 : ¬ am k = 0 := by rw [e]; exact nI_ne0 z (by omega)
    refine Or.inr ⟨n0, by rw [e]; exact nI_nle z (by omega), c, e2, hc, ?_⟩
    show qu_H am h k + _ = _
    rw [if_neg n0, e2, nI_clamp (by omega)]
theorem qu_Hm {am h : Nat → Int32} (i d : Nat) : qu_H am h i ≤ qu_H am h (i + d) := by
  induction d with
  | zero => exact Nat.le_refl _
  | succ d ih => exact Nat.le_trans ih (Nat.le_add_right _ _)
/-- the six arguments of a hop that is neither refused nor too long -/
def hp_G (P : Nat) (am h : Nat → Int32) (p0 p1 p2 p3 p4 p5 : Int32) : Prop :=
  0 < P ∧ (∃ t, 1 ≤ t ∧ t ≤ 7 ∧ p0 = nI t) ∧ (∃ d, d < 3 ∧ p1 = nI d) ∧ (∃ l c, 1 ≤ l ∧ l ≤ c ∧ c ≤ 3 ∧ p2 = nI l ∧ p3 = nI c ∧ qu_H am h P + c ≤ 5) ∧ (∃ v, v < 4 ∧ p4 = nI v) ∧ (∃ w, w < 16 ∧ p5 = nI w)
theorem tg_lh {x y : Int32} (h1 : ¬ x < 1) (h2 : ¬ y < x) (h3 : ¬ 3 < y) : ∃ l c, 1 ≤ l ∧ l ≤ c ∧ c ≤ 3 ∧ x = nI l ∧ y = nI c := by
  have h0 : ¬ y < nI 1 := fun z => h1 (Int32.lt_of_le_of_lt (Int32.not_lt.mp h2) z)
  obtain ⟨c, a, b, rfl⟩ := tg_rng 1 3 (by omega) h0 h3 (by omega)
  obtain ⟨l, a', b', rfl⟩ := tg_rng (x := x) 1 3 (by omega) h1 (fun z => h2 (Int32.lt_of_le_of_lt (nI_le (b := 3) b (by omega)) z)) (by omega)
  rw [nI_ltI (by omega) (by omega)] at h2
  exact ⟨l, c, a', by omega, b, rfl, rfl⟩
variable {nT : Int32} {eT : Int32} {xlv : Int32} {xpc : Int32} {xqc : Int32} {xcc : Int32} {xec : Int32} {mc : Int32} {lw : Int32} {rc : Int32} {xla : Nat → Int32} {xpr : Nat → Int64} {xed : Nat → Int32} {sN : Nat → Int32} {sE : Nat → Int32} {sL : Nat → Int32} {sP : Nat → Int64} {sD : Nat → Int32} {pva : Nat → Int32} {pwa : Nat → Int32} {pam : Nat → Int32} {pdi : Nat → Int32} {plo : Nat → Int32} {phi : Nat → Int32} {ptk : Nat → Int32} {pco : Nat → Int32} {pex : Nat → Int32} {tr : Nat → Int32} {ds : Nat → Int32} {ch : Nat → Int32} {ar : Nat → Int32} {rN : Nat → Int32} {rM : Nat → Int32} {s1 : Nat → Int32} {s2 : Nat → Int32} {s3 : Nat → Int32} {s4 : Nat → Int32} {s5 : Nat → Int32}
variable {ylv : Int32} {ypc : Int32} {yqc : Int32} {ycc : Int32} {yec : Int32} {yde : Int32} {yus : Int32} {ywe : Int32} {yfo : Int32} {yli : Int32} {yso : Int32} {ysu : Int64} {yla : Nat → Int32} {ypr : Nat → Int64} {yfr : Nat → Int32} {yto : Nat → Int32} {yty : Nat → Int32} {ywt : Nat → Int32} {yst : Nat → Int32} {ypa : Nat → Int32} {ysp : Nat → Int32} {ypl : Nat → Int32} {ycp : Nat → Int32} {ybo : Nat → Int32} {ytk : Nat → Int32} {yno : Nat → Int32} {ych : Nat → Int32} {yfa : Nat → Int32}
theorem tg_xht {post : Int32 → Prop} {P : Nat} (hP : P ≤ 6) (hp : ∀ k, k < P → qu_P pva pwa pam pdi plo phi k) (h : post (nI (qu_H pam phi P))) : wpX_highsTogether post (nT, eT, xlv, (nI P), xqc, xcc, xec, mc, lw, rc, xla, xpr, xed, sN, sE, sL, sP, sD, pva, pwa, pam, pdi, plo, phi, ptk, pco, pex, tr, ds, ch, ar, rN, rM, s1, s2, s3, s4, s5) := by
  have K : ∀ d i, i + d = P → wX_highsTogether_4 post nT eT xlv (nI P) xqc xcc xec mc lw rc xla xpr xed sN sE sL sP sD pva pwa pam pdi plo phi ptk pco pex tr ds ch ar rN rM s1 s2 s3 s4 s5 (d + 1) (nI (qu_H pam phi i)) (nI i) := by
    intro d
    induction d with
    | zero =>
      intro i hi
      have e : i = P := by omega
      subst e
      exact br_t (nI_le (by omega) (by omega)) h
    | succ d ih =>
      intro i hi
      have w : vp_in (nI i) 6 := vp_in_nI (by omega) (by omega)
      refine br_f (nI_ge (by omega) (by omega)) ⟨w, ?_⟩
      rw [nI_clamp (by omega)]
      rcases qu_am (hp i (by omega)) with ⟨e, e2⟩ | ⟨e, _, c, e3, _, e2⟩
      · refine br_t e (nm_r (nI_1 i) ?_)
        rw [← e2]
        exact ih (i + 1) (by omega)
      · refine br_f e ⟨w, nm_r (by rw [e3, nI_add, ← e2]) (nm_r (nI_1 i) (ih (i + 1) (by omega)))⟩
  exact ⟨P + 1, K P 0 (by omega)⟩
theorem tg_xhB {post : Int32 → SX → Prop} {P : Nat} (hP : P ≤ 6) (hp : ∀ k, k < P → qu_P pva pwa pam pdi plo phi k) (hH : qu_H pam phi P ≤ 5) {p0 p1 p2 p3 p4 p5 : Int32} (hB : ¬ hp_G P pam phi p0 p1 p2 p3 p4 p5) (h : post (-1) (nT, eT, xlv, (nI P), xqc, xcc, xec, mc, lw, rc, xla, xpr, xed, sN, sE, sL, sP, sD, pva, pwa, pam, pdi, plo, phi, ptk, pco, pex, tr, ds, ch, ar, rN, rM, s1, s2, s3, s4, s5)) : wpX_hop post (nT, eT, xlv, (nI P), xqc, xcc, xec, mc, lw, rc, xla, xpr, xed, sN, sE, sL, sP, sD, pva, pwa, pam, pdi, plo, phi, ptk, pco, pex, tr, ds, ch, ar, rN, rM, s1, s2, s3, s4, s5) p0 p1 p2 p3 p4 p5 := by
  unfold wpX_hop
  refine br_c (fun _ => h) (fun c0 => br_c (fun _ => h) (fun c1 => br_c (fun _ => h) (fun c2 => tg_can (fun _ => br_t rfl h) (fun v w hv hw e1 e2 => br_f tg_10 (br_c (fun _ => h) (fun c3 => br_c (fun c4 => br_c (fun _ => h) (fun c5 => br_c (fun _ => h) (fun c6 => br_c (fun _ => h) (fun c7 => tg_xht hP hp (br_c (fun c8 => ?_) (fun _ => h)))))) (fun _ => h)))))))
  exfalso
  obtain ⟨t, t1, t2, et⟩ := tg_rng 1 7 (by omega) c1 c2 (by omega)
  obtain ⟨d, d1, d2, ed⟩ := tg_rng (x := p1) 0 2 (by omega) c3 (Int32.not_lt.mpr c4) (by omega)
  obtain ⟨l, c, l1, l2, l3, el, ec⟩ := tg_lh c5 c6 c7
  refine hB ⟨?_, ⟨t, t1, t2, et⟩, ⟨d, by omega, ed⟩, ⟨l, c, l1, l2, l3, el, ec, ?_⟩, ⟨v, hv, e1⟩, ⟨w, hw, e2⟩⟩
  · rcases Nat.eq_zero_or_pos P with z | z
    · subst z; exact absurd rfl c0
    · exact z
  · rw [ec, nI_add] at c8
    exact (nI_leI (b := 5) (by omega) (by omega)).mp c8
theorem tg_xhG {post : Int32 → SX → Prop} {P : Nat} (hP : P ≤ 6) (hp : ∀ k, k < P → qu_P pva pwa pam pdi plo phi k) (hH : qu_H pam phi P ≤ 5) {p0 p1 p2 p3 p4 p5 : Int32} (hB : hp_G P pam phi p0 p1 p2 p3 p4 p5) (h : P < 6 → post (nI (P + 1)) (nT, eT, xlv, (nI (P + 1)), xqc, xcc, xec, mc, lw, rc, xla, xpr, xed, sN, sE, sL, sP, sD, (upd pva P p4), (upd pwa P p5), (upd pam P p0), (upd pdi P p1), (upd plo P p2), (upd phi P p3), ptk, pco, pex, tr, ds, ch, ar, rN, rM, s1, s2, s3, s4, s5)) (h6 : P = 6 → post (-2) (nT, eT, xlv, (nI P), xqc, xcc, xec, mc, lw, rc, xla, xpr, xed, sN, sE, sL, sP, sD, pva, pwa, pam, pdi, plo, phi, ptk, pco, pex, tr, ds, ch, ar, rN, rM, s1, s2, s3, s4, s5)) : wpX_hop post (nT, eT, xlv, (nI P), xqc, xcc, xec, mc, lw, rc, xla, xpr, xed, sN, sE, sL, sP, sD, pva, pwa, pam, pdi, plo, phi, ptk, pco, pex, tr, ds, ch, ar, rN, rM, s1, s2, s3, s4, s5) p0 p1 p2 p3 p4 p5 := by
  obtain ⟨z, ⟨t, t1, t2, rfl⟩, ⟨d, hd, rfl⟩, ⟨l, c, l1, l2, l3, rfl, rfl, hs⟩, ⟨v, hv, rfl⟩, ⟨w, hw, rfl⟩⟩ := hB
  unfold wpX_hop
  refine br_f (nI_ne0 z (by omega)) (br_f (nI_nlt (b := 1) t1 (by omega)) (br_f (nI_nlt (b := t) (a := 7) t2 (by omega)) (tg_can (fun q => absurd ⟨⟨v, hv, rfl⟩, ⟨w, hw, rfl⟩⟩ q) (fun v' w' hv' hw' e1 e2 => br_f tg_10 (br_f (nI_pos (by omega)) (br_t (nI_le (b := 2) (by omega) (by omega)) (br_f (nI_nlt (b := 1) l1 (by omega)) (br_f (nI_nlt l2 (by omega)) (br_f (nI_nlt (b := c) (a := 3) l3 (by omega)) (tg_xht hP hp (br_t ?_ ?_)))))))))))
  · rw [nI_add]; exact nI_le (b := 5) hs (by omega)
  · by_cases q : P < 6
    · have w : vp_in (nI P) 6 := vp_in_nI q (by decide)
      exact br_t (nI_lt (b := 6) q (by decide)) ⟨w, nm_r (tg_u (by omega)) ⟨w, nm_r (tg_u (by omega)) ⟨w, nm_r (tg_u (by omega)) ⟨w, nm_r (tg_u (by omega)) (tg_xadd q (h q))⟩⟩⟩⟩
    · exact br_f (nI_nlt (a := P) (b := 6) (by omega) (by omega)) (h6 (by omega))
theorem tg_yhl {post : Int32 → SY → Prop} {P : Nat} (hP : P ≤ 6) (hp : ∀ k, k < P → qu_P pva pwa pam pdi plo phi k) {p0 p1 p2 p3 p4 p5 : Int32} (h : wY_hop_7 post p0 p1 p2 p3 p4 p5 ylv (nI P) yqc ycc yec yde yus ywe yfo yli yso ysu yla ypr yfr yto yty ywt pva pwa pam pdi plo phi ptk pco pex yst ypa ysp ypl ycp ybo ytk yno ych yfa 1 (p3 + nI (qu_H pam phi P)) (nI P)) : wpY_hop post (ylv, (nI P), yqc, ycc, yec, yde, yus, ywe, yfo, yli, yso, ysu, yla, ypr, yfr, yto, yty, ywt, pva, pwa, pam, pdi, plo, phi, ptk, pco, pex, yst, ypa, ysp, ypl, ycp, ybo, ytk, yno, ych, yfa) p0 p1 p2 p3 p4 p5 := by
  have K : ∀ d i, i + d = P → wY_hop_7 post p0 p1 p2 p3 p4 p5 ylv (nI P) yqc ycc yec yde yus ywe yfo yli yso ysu yla ypr yfr yto yty ywt pva pwa pam pdi plo phi ptk pco pex yst ypa ysp ypl ycp ybo ytk yno ych yfa (d + 1) (p3 + nI (qu_H pam phi i)) (nI i) := by
    intro d
    induction d with
    | zero =>
      intro i hi
      have e : i = P := by omega
      subst e
      exact h
    | succ d ih =>
      intro i hi
      have w : vp_in (nI i) 6 := vp_in_nI (by omega) (by omega)
      refine br_f (nI_ge (by omega) (by omega)) ⟨w, ?_⟩
      rw [nI_clamp (by omega)]
      rcases qu_am (hp i (by omega)) with ⟨e, e2⟩ | ⟨_, e, c, e3, _, e2⟩
      · refine br_t (by rw [e]; decide) (nm_r (nI_1 i) ?_)
        rw [← e2]
        exact ih (i + 1) (by omega)
      · refine br_f e ⟨w, nm_r (by rw [e3, Int32.add_assoc, nI_add, ← e2]) (nm_r (nI_1 i) (ih (i + 1) (by omega)))⟩
  refine ⟨P + 1, ?_⟩
  have := K P 0 (by omega)
  rw [show p3 + nI (qu_H pam phi 0) = p3 from Int32.add_zero p3] at this
  exact this
theorem tg_yhB {post : Int32 → SY → Prop} {P : Nat} (hP : P ≤ 6) (hp : ∀ k, k < P → qu_P pva pwa pam pdi plo phi k) (hH : qu_H pam phi P ≤ 5) {p0 p1 p2 p3 p4 p5 : Int32} (hB : ¬ hp_G P pam phi p0 p1 p2 p3 p4 p5) (h : post (-1) (ylv, (nI P), yqc, ycc, yec, yde, yus, ywe, yfo, yli, yso, ysu, yla, ypr, yfr, yto, yty, ywt, pva, pwa, pam, pdi, plo, phi, ptk, pco, pex, yst, ypa, ysp, ypl, ycp, ybo, ytk, yno, ych, yfa)) : wpY_hop post (ylv, (nI P), yqc, ycc, yec, yde, yus, ywe, yfo, yli, yso, ysu, yla, ypr, yfr, yto, yty, ywt, pva, pwa, pam, pdi, plo, phi, ptk, pco, pex, yst, ypa, ysp, ypl, ycp, ybo, ytk, yno, ych, yfa) p0 p1 p2 p3 p4 p5 := by
  refine tg_yhl hP hp ?_
  have h0 : wY_hop_91 post p0 p1 p2 p3 p4 p5 (p3 + nI (qu_H pam phi P)) ylv (nI P) yqc ycc yec yde yus ywe yfo yli yso ysu yla ypr yfr yto yty ywt pva pwa pam pdi plo phi ptk pco pex yst ypa ysp ypl ycp ybo ytk yno ych yfa := br_t rfl h
  refine br_t (Int32.le_refl _) (br_c (fun _ => h0) (fun c0 => tg_wi 1 7 (by omega) (by omega) (fun _ => br_t rfl h0) (fun t t1 t2 et => br_f tg_10 (tg_wi 0 2 (by omega) (by omega) (fun _ => br_t rfl h0) (fun d d1 d2 ed => br_f tg_10 (br_c (fun _ => h0) (fun c5 => br_c (fun _ => h0) (fun c6 => br_c (fun _ => h0) (fun c7 => ?_)))))))))
  refine br_f tg_10 (tg_wi 0 3 (by omega) (by omega) (fun _ => br_t rfl h) (fun v _ hv e1 => br_f tg_10 (tg_wi 0 15 (by omega) (by omega) (fun _ => br_t rfl h) (fun w _ hw e2 => br_f tg_10 (br_c (fun c8 => ?_) (fun _ => h))))))
  exfalso
  obtain ⟨l, c, l1, l2, l3, el, ec⟩ := tg_lh c5 c6 c7
  refine hB ⟨?_, ⟨t, t1, t2, et⟩, ⟨d, by omega, ed⟩, ⟨l, c, l1, l2, l3, el, ec, ?_⟩, ⟨v, by omega, e1⟩, ⟨w, by omega, e2⟩⟩
  · rcases Nat.eq_zero_or_pos P with z | z
    · subst z; exact absurd (by decide) c0
    · exact z
  · rw [ec, nI_add] at c8
    have := (nI_leI (b := 5) (by omega) (by omega)).mp c8
    omega
theorem tg_yhG {post : Int32 → SY → Prop} {P : Nat} (hP : P ≤ 6) (hp : ∀ k, k < P → qu_P pva pwa pam pdi plo phi k) (hH : qu_H pam phi P ≤ 5) {p0 p1 p2 p3 p4 p5 : Int32} (hB : hp_G P pam phi p0 p1 p2 p3 p4 p5) (h : P < 6 → post (nI (P + 1)) (ylv, (nI (P + 1)), yqc, ycc, yec, yde, yus, ywe, yfo, yli, yso, ysu, yla, ypr, yfr, yto, yty, ywt, (upd pva P p4), (upd pwa P p5), (upd pam P p0), (upd pdi P p1), (upd plo P p2), (upd phi P p3), ptk, pco, pex, yst, ypa, ysp, ypl, ycp, ybo, ytk, yno, ych, yfa)) (h6 : P = 6 → post (-2) (ylv, (nI P), yqc, ycc, yec, yde, yus, ywe, yfo, yli, yso, ysu, yla, ypr, yfr, yto, yty, ywt, pva, pwa, pam, pdi, plo, phi, ptk, pco, pex, yst, ypa, ysp, ypl, ycp, ybo, ytk, yno, ych, yfa)) : wpY_hop post (ylv, (nI P), yqc, ycc, yec, yde, yus, ywe, yfo, yli, yso, ysu, yla, ypr, yfr, yto, yty, ywt, pva, pwa, pam, pdi, plo, phi, ptk, pco, pex, yst, ypa, ysp, ypl, ycp, ybo, ytk, yno, ych, yfa) p0 p1 p2 p3 p4 p5 := by
  obtain ⟨z, ⟨t, t1, t2, rfl⟩, ⟨d, hd, rfl⟩, ⟨l, c, l1, l2, l3, rfl, rfl, hs⟩, ⟨v, hv, rfl⟩, ⟨w, hw, rfl⟩⟩ := hB
  refine tg_yhl hP hp ?_
  have W : ∀ {post : Int32 → Prop} {j : Nat} (a b : Nat) (hb : b < 2 ^ 30), a ≤ j → j ≤ b → post 1 → wpY_within post (nI j) (nI a) (nI b) := fun a b hb h1 h2 hq => br_f (nI_nlt h1 (by omega)) (br_f (nI_nlt h2 (by omega)) hq)
  refine br_t (Int32.le_refl _) (br_f (nI_nle z (by omega)) (W 1 7 (by omega) t1 t2 (br_f tg_10 (W 0 2 (by omega) (by omega) (by omega) (br_f tg_10 (br_f (nI_nlt (b := 1) l1 (by omega)) (br_f (nI_nlt l2 (by omega)) (br_f (nI_nlt (b := c) (a := 3) l3 (by omega)) (br_f tg_10 (W 0 3 (by omega) (by omega) (by omega) (br_f tg_10 (W 0 15 (by omega) (by omega) (by omega) (br_f tg_10 (br_t ?_ ?_))))))))))))))
  · rw [nI_add]; exact nI_le (b := 5) (by omega) (by omega)
  · by_cases q : P < 6
    · have w : vp_in (nI P) 6 := vp_in_nI q (by decide)
      exact br_f (fun e => by have := (nI_eq (b := 6) (by omega) (by omega)).mp e; omega) ⟨w, nm_r (tg_u (by omega)) ⟨w, nm_r (tg_u (by omega)) ⟨w, nm_r (tg_u (by omega)) (tg_yadd q (h q))⟩⟩⟩
    · have e : P = 6 := by omega
      subst e
      exact br_t rfl (h6 rfl)
theorem i_vc_hop {k : Nat} {u : SX} {v : SY} (I : i_Rel k u v) (hk : k + 7 ≤ 3584) (v1 : Int32) (v2 : Int32) (v3 : Int32) (v4 : Int32) (v5 : Int32) (v6 : Int32) : wpX_hop (fun r u' => wpY_hop (fun r' v' => r' = r ∧ i_Rel (k + 7) u' v') v v1 v2 v3 v4 v5 v6) u v1 v2 v3 v4 v5 v6 := by
  obtain ⟨nT, eT, xlv, xpc, xqc, xcc, xec, mc, lw, rc, xla, xpr, xed, sN, sE, sL, sP, sD, pva, pwa, pam, pdi, plo, phi, ptk, pco, pex, tr, ds, ch, ar, rN, rM, s1, s2, s3, s4, s5⟩ := u
  obtain ⟨ylv, ypc, yqc, ycc, yec, yde, yus, ywe, yfo, yli, yso, ysu, yla, ypr, yfr, yto, yty, ywt, qpva, qpwa, qpam, qpdi, qplo, qphi, qptk, qpco, qpex, yst, ypa, ysp, ypl, ycp, ybo, ytk, yno, ych, yfa⟩ := v
  obtain ⟨⟨rfl, rfl, rfl, rfl, rfl, rfl, rfl, rfl, rfl⟩, hG, hQ, hT, hC, hE⟩ := I
  obtain ⟨P, hP, rfl, rfl, hp, hH⟩ := hQ
  have J := rl_mk (k + 7) (mc := mc) (lw := lw) (rc := rc) (tr := tr) (ds := ds) (ch := ch) (ar := ar) (rN := rN) (rM := rM) (s1 := s1) (s2 := s2) (s3 := s3) (s4 := s4) (s5 := s5) (yde := yde) (yus := yus) (ywe := ywe) (yfo := yfo) (yli := yli) (yso := yso) (ysu := ysu) (yst := yst) (ypa := ypa) (ysp := ysp) (ypl := ypl) (ycp := ycp) (ybo := ybo) (ytk := ytk) (yno := yno) (ych := ych) (yfa := yfa) hG ⟨P, hP, rfl, rfl, hp, hH⟩ hT hC hE
  by_cases g : hp_G P pam phi v1 v2 v3 v4 v5 v6
  · refine tg_xhG hP hp hH g (fun z => tg_yhG hP hp hH g (fun _ => ⟨rfl, ?_⟩) (fun e => absurd e (by omega))) (fun e => tg_yhG hP hp hH g (fun z => absurd z (by omega)) (fun _ => ⟨rfl, J⟩))
    obtain ⟨z0, ⟨t, t1, t2, rfl⟩, ⟨d, hd, rfl⟩, ⟨l, c, l1, l2, l3, rfl, rfl, hs⟩, ⟨v, hv, rfl⟩, ⟨w, hw, rfl⟩⟩ := g
    refine rl_mk _ hG ⟨P + 1, by omega, rfl, rfl, fun j hj => ?_, ?_⟩ hT (rl_Cs z hC) hE
    · by_cases q : j = P
      · subst q
        exact ⟨v, w, t, hv, hw, by omega, pk_us, pk_us, pk_us, fun _ => ⟨z0, d, l, c, hd, l1, l2, l3, pk_us, pk_us, pk_us⟩⟩
      · exact qu_Pc (hp j (by omega)) (pk_un q) (pk_un q) (pk_un q) (pk_un q) (pk_un q) (pk_un q)
    · show qu_H _ _ P + _ ≤ 5
      rw [qu_Hc P (fun j hj => ⟨pk_un (by omega), pk_un (by omega)⟩), pk_us, pk_us, if_neg (nI_ne0 t1 (by omega)), nI_clamp (by omega)]
      exact hs
  · exact tg_xhB hP hp hH g (tg_yhB hP hp hH g ⟨rfl, J⟩)
/-! token -/
theorem tg_xtok {post : Int32 → SX → Prop} {x : Int32} (hv : (∃ t, qu_T t ∧ x = nI t) → wX_token_67 post x nT eT xlv xpc xqc xcc xec mc lw rc xla xpr xed sN sE sL sP sD pva pwa pam pdi plo phi ptk pco pex tr ds ch ar rN rM s1 s2 s3 s4 s5) (hn : (¬ ∃ t, qu_T t ∧ x = nI t) → post (-1) (nT, eT, xlv, xpc, xqc, xcc, xec, mc, lw, rc, xla, xpr, xed, sN, sE, sL, sP, sD, pva, pwa, pam, pdi, plo, phi, ptk, pco, pex, tr, ds, ch, ar, rN, rM, s1, s2, s3, s4, s5)) : wpX_token post (nT, eT, xlv, xpc, xqc, xcc, xec, mc, lw, rc, xla, xpr, xed, sN, sE, sL, sP, sD, pva, pwa, pam, pdi, plo, phi, ptk, pco, pex, tr, ds, ch, ar, rN, rM, s1, s2, s3, s4, s5) x := by
  rcases pk_ix x (n := 11000) (by omega) with c | c | ⟨t, ht, rfl⟩
  · have n : ¬ ∃ t, qu_T t ∧ x = nI t := fun ⟨t, ht, e⟩ => absurd c (by rw [e]; exact nI_pos (by unfold qu_T at ht; omega))
    exact br_t c (br_t (Int32.lt_trans c (by decide)) (br_t (Int32.lt_trans c (by decide)) (br_t rfl (br_t rfl (br_t rfl (hn n))))))
  · obtain ⟨c0, c1, c2⟩ := tg_hi 10999 (by omega) c
    have n : ¬ ∃ t, qu_T t ∧ x = nI t := fun ⟨t, ht, e⟩ => absurd c (by rw [e]; exact nI_ge (by unfold qu_T at ht; omega) (by omega))
    have lt : ∀ a, a ≤ 10999 → nI a < x := fun a ha => Int32.lt_of_le_of_lt (nI_le ha (by omega)) c2
    have nl : ∀ a, a ≤ 10999 → ¬ x < nI a := fun a ha z => Int32.lt_irrefl (Int32.lt_trans z (lt a ha))
    exact br_f c0 (br_t (lt 5 (by omega)) (br_f (nl 10 (by omega)) (br_t (lt 16 (by omega)) (br_f (nl 1000 (by omega)) (br_t (lt 10999 (by omega)) (br_t rfl (br_t rfl (br_t rfl (hn n)))))))))
  · have p0 : ¬ nI t < 0 := nI_pos (by omega)
    have L : ∀ a, t < a → a < 20000 → nI t < nI a := fun a h1 h2 => nI_lt h1 (by omega)
    have N : ∀ a, a ≤ t → ¬ nI t < nI a := fun a h1 => nI_nlt h1 (by omega)
    have G : ∀ a, a < t → nI a < nI t := fun a h1 => nI_lt h1 (by omega)
    have M : ∀ a, t ≤ a → a < 20000 → ¬ nI a < nI t := fun a h1 h2 => nI_nlt h1 (by omega)
    have nn : ¬ qu_T t → post (-1) (nT, eT, xlv, xpc, xqc, xcc, xec, mc, lw, rc, xla, xpr, xed, sN, sE, sL, sP, sD, pva, pwa, pam, pdi, plo, phi, ptk, pco, pex, tr, ds, ch, ar, rN, rM, s1, s2, s3, s4, s5) := fun q => hn (fun ⟨s, hs, e⟩ => q (by rw [(nI_eq (by omega) (by unfold qu_T at hs; omega)).mp e]; exact hs))
    by_cases a1 : t ≤ 5
    · exact br_f p0 (br_f (M 5 a1 (by omega)) (br_t (L 10 (by omega) (by omega)) (br_t (L 1000 (by omega) (by omega)) (br_f tg_10 (hv ⟨t, Or.inl a1, rfl⟩)))))
    by_cases a2 : t < 10
    · exact br_f p0 (br_t (G 5 (by omega)) (br_t (L 10 (by omega) (by omega)) (br_t (L 1000 (by omega) (by omega)) (br_t rfl (br_t rfl (br_t rfl (nn (by unfold qu_T; omega))))))))
    by_cases a3 : t ≤ 16
    · exact br_f p0 (br_t (G 5 (by omega)) (br_f (N 10 (by omega)) (br_f (M 16 a3 (by omega)) (br_t (L 1000 (by omega) (by omega)) (br_t rfl (br_f tg_10 (hv ⟨t, Or.inr (Or.inl ⟨by omega, a3⟩), rfl⟩)))))))
    by_cases a4 : t < 1000
    · exact br_f p0 (br_t (G 5 (by omega)) (br_f (N 10 (by omega)) (br_t (G 16 (by omega)) (br_t (L 1000 (by omega) (by omega)) (br_t rfl (br_t rfl (br_t rfl (nn (by unfold qu_T; omega)))))))))
    · exact br_f p0 (br_t (G 5 (by omega)) (br_f (N 10 (by omega)) (br_t (G 16 (by omega)) (br_f (N 1000 (by omega)) (br_f (M 10999 (by omega) (by omega)) (br_t rfl (br_t rfl (br_f tg_10 (hv ⟨t, Or.inr (Or.inr ⟨by omega, by omega⟩), rfl⟩)))))))))
theorem tg_ytok {post : Int32 → SY → Prop} {x : Int32} (hv : (∃ t, qu_T t ∧ x = nI t) → wY_token_33 post x ylv ypc yqc ycc yec yde yus ywe yfo yli yso ysu yla ypr yfr yto yty ywt pva pwa pam pdi plo phi ptk pco pex yst ypa ysp ypl ycp ybo ytk yno ych yfa) (hn : (¬ ∃ t, qu_T t ∧ x = nI t) → post (-1) (ylv, ypc, yqc, ycc, yec, yde, yus, ywe, yfo, yli, yso, ysu, yla, ypr, yfr, yto, yty, ywt, pva, pwa, pam, pdi, plo, phi, ptk, pco, pex, yst, ypa, ysp, ypl, ycp, ybo, ytk, yno, ych, yfa)) : wpY_token post (ylv, ypc, yqc, ycc, yec, yde, yus, ywe, yfo, yli, yso, ysu, yla, ypr, yfr, yto, yty, ywt, pva, pwa, pam, pdi, plo, phi, ptk, pco, pex, yst, ypa, ysp, ypl, ycp, ybo, ytk, yno, ych, yfa) x := by
  unfold wpY_token
  refine tg_wi 0 5 (by omega) (by omega) (fun n1 => br_t rfl ?_) (fun j _ h e => br_f tg_10 (hv ⟨j, Or.inl h, e⟩))
  refine tg_wi 10 16 (by omega) (by omega) (fun n2 => br_t rfl ?_) (fun j h0 h e => br_f tg_10 (hv ⟨j, Or.inr (Or.inl ⟨h0, h⟩), e⟩))
  refine tg_wi 1000 10999 (by omega) (by omega) (fun n3 => br_t rfl (hn ?_)) (fun j h0 h e => br_f tg_10 (hv ⟨j, Or.inr (Or.inr ⟨h0, h⟩), e⟩))
  rintro ⟨t, q | q | q, e⟩
  · exact tg_nr (by omega) n1 ⟨t, by omega, q, e⟩
  · exact tg_nr (by omega) n2 ⟨t, q.1, q.2, e⟩
  · exact tg_nr (by omega) n3 ⟨t, q.1, q.2, e⟩
theorem i_vc_token {k : Nat} {u : SX} {v : SY} (I : i_Rel k u v) (hk : k + 7 ≤ 3584) (v1 : Int32) : wpX_token (fun r u' => wpY_token (fun r' v' => r' = r ∧ i_Rel (k + 7) u' v') v v1) u v1 := by
  obtain ⟨nT, eT, xlv, xpc, xqc, xcc, xec, mc, lw, rc, xla, xpr, xed, sN, sE, sL, sP, sD, pva, pwa, pam, pdi, plo, phi, ptk, pco, pex, tr, ds, ch, ar, rN, rM, s1, s2, s3, s4, s5⟩ := u
  obtain ⟨ylv, ypc, yqc, ycc, yec, yde, yus, ywe, yfo, yli, yso, ysu, yla, ypr, yfr, yto, yty, ywt, qpva, qpwa, qpam, qpdi, qplo, qphi, qptk, qpco, qpex, yst, ypa, ysp, ypl, ycp, ybo, ytk, yno, ych, yfa⟩ := v
  obtain ⟨⟨rfl, rfl, rfl, rfl, rfl, rfl, rfl, rfl, rfl⟩, hG, hQ, hT, hC, hE⟩ := I
  obtain ⟨n, hn, rfl, rfl, ht⟩ := hT
  have J := rl_mk (k + 7) (mc := mc) (lw := lw) (rc := rc) (tr := tr) (ds := ds) (ch := ch) (ar := ar) (rN := rN) (rM := rM) (s1 := s1) (s2 := s2) (s3 := s3) (s4 := s4) (s5 := s5) (yde := yde) (yus := yus) (ywe := ywe) (yfo := yfo) (yli := yli) (yso := yso) (ysu := ysu) (yst := yst) (ypa := ypa) (ysp := ysp) (ypl := ypl) (ycp := ycp) (ybo := ybo) (ytk := ytk) (yno := yno) (ych := ych) (yfa := yfa) hG hQ ⟨n, hn, rfl, rfl, ht⟩ hC hE
  refine tg_xtok (fun q => ?_) (fun q => tg_ytok (fun q' => absurd q' q) (fun _ => ⟨rfl, J⟩))
  by_cases z : n < 12
  · have w : vp_in (nI n) 12 := vp_in_nI z (by decide)
    refine br_t (nI_lt (b := 12) z (by decide)) ⟨w, nm_r (tg_u (by omega)) (nm_r (nI_1 n) (tg_ytok (fun _ => br_f (fun e => by have := (nI_eq (b := 12) (by omega) (by omega)).mp e; omega) (nm_r (nI_1 n) ⟨w, nm_r (tg_u (by omega)) ⟨rfl, ?_⟩⟩)) (fun q' => absurd q q')))⟩
    refine rl_mk _ hG hQ ⟨n + 1, by omega, rfl, rfl, fun j hj => ?_⟩ hC hE
    by_cases e : j = n
    · subst e
      rw [pk_us]
      exact q
    · rw [pk_un e]
      exact ht j (by omega)
  · have e : n = 12 := by omega
    subst e
    exact br_f (by decide) (tg_ytok (fun _ => br_t rfl ⟨rfl, J⟩) (fun q' => absurd q q'))
