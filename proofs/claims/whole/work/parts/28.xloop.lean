/-! X's depth-first loop over the edges -/
theorem nI_m1 {q : Nat} (h : q < 2 ^ 31) : ¬ nI q = -1 := fun e => by
  have := nI_pos h
  rw [e] at this
  exact this (by decide)
theorem tg_d2 {j : Nat} (h : j < 2 ^ 30) : nI j / 2 = nI (j / 2) ∧ nI j - nI j / 2 * 2 = nI (j % 2) := ⟨pk_div (d := 2) (by omega) (by omega) (by omega), pk_rem (d := 2) (by omega) (by omega) (by omega)⟩
variable {nT : Int32} {eT : Int32} {xlv : Int32} {xpc : Int32} {xqc : Int32} {xcc : Int32} {xec : Int32} {mc : Int32} {lw : Int32} {rc : Int32} {xla : Nat → Int32} {xpr : Nat → Int64} {xed : Nat → Int32} {sN : Nat → Int32} {sE : Nat → Int32} {sL : Nat → Int32} {sP : Nat → Int64} {sD : Nat → Int32} {pva : Nat → Int32} {pwa : Nat → Int32} {pam : Nat → Int32} {pdi : Nat → Int32} {plo : Nat → Int32} {phi : Nat → Int32} {ptk : Nat → Int32} {pco : Nat → Int32} {pex : Nat → Int32} {tr : Nat → Int32} {ds : Nat → Int32} {ch : Nat → Int32} {ar : Nat → Int32} {rN : Nat → Int32} {rM : Nat → Int32} {s1 : Nat → Int32} {s2 : Nat → Int32} {s3 : Nat → Int32} {s4 : Nat → Int32} {s5 : Nat → Int32}
variable {ylv : Int32} {ypc : Int32} {yqc : Int32} {ycc : Int32} {yec : Int32} {yde : Int32} {yus : Int32} {ywe : Int32} {yfo : Int32} {yli : Int32} {yso : Int32} {ysu : Int64} {yla : Nat → Int32} {ypr : Nat → Int64} {yfr : Nat → Int32} {yto : Nat → Int32} {yty : Nat → Int32} {ywt : Nat → Int32} {yst : Nat → Int32} {ypa : Nat → Int32} {ysp : Nat → Int32} {ypl : Nat → Int32} {ycp : Nat → Int32} {ybo : Nat → Int32} {ytk : Nat → Int32} {yno : Nat → Int32} {ych : Nat → Int32} {yfa : Nat → Int32}
/-- the step's frame d as the arrays hold it -/
def fr_ (s1 s2 s3 s4 s5 : Nat → Int32) (d k n p : Nat) (u : Int32) (j : Nat) : Prop := s1 d = nI k ∧ s2 d = nI n ∧ s3 d = nI p ∧ s4 d = u ∧ s5 d = nI j
def ag_ (d : Nat) (s1 s2 s3 s4 s5 a1 a2 a3 a4 a5 : Nat → Int32) : Prop := ∀ i, i < d → a1 i = s1 i ∧ a2 i = s2 i ∧ a3 i = s3 i ∧ a4 i = s4 i ∧ a5 i = s5 i
theorem xm_in {post : SX → Prop} {P : Nat} {sg : Nat → Nat} (hP : P ≤ 6) (hp : ∀ k, k < P → qu_P pva pwa pam pdi plo phi k) (hR : gr_R nT eT xla xpr xed yla ypr yfr yto yty ywt) (hsg : ∀ v, v < 4 → ch v = nI (sg v) ∧ sg v < 8)
    {T0 : Nat} (hx : 1000 < T0 → ∀ lw (s1 s2 s3 s4 s5 : Nat → Int32), post (nT, eT, xlv, (nI P), xqc, xcc, xec, (nI 1001), lw, rc, xla, xpr, xed, sN, sE, sL, sP, sD, pva, pwa, pam, pdi, plo, phi, ptk, pco, pex, tr, ds, ch, ar, rN, rM, s1, s2, s3, s4, s5)) {f d : Nat} (hd : d < 5) (hf : d = 4 → f = 0)
    (hch : d < 4 → ∀ k' n' p' u', k' < P → ¬ pam k' = 0 → n' < Vf phi k' → p' < 8 → us_ eT u' → ∀ t m l (s1 s2 s3 s4 s5 : Nat → Int32), fr_ s1 s2 s3 s4 s5 (d + 1) k' n' p' u' 0 → m ≤ 1000 → l ≤ 1000000 → t + cf f ≤ 10000000 → m + (mt_X P (Vf pva) (Vf plo) (Vf phi) (fe_ eT yfr yto yty pam pdi) (nx_ pam P) sg f k' n' p' u').length ≤ T0 →
      (∀ t' (a1 a2 a3 a4 a5 : Nat → Int32), t' ≤ t + cf f → ag_ (d + 1) s1 s2 s3 s4 s5 a1 a2 a3 a4 a5 → m + (mt_X P (Vf pva) (Vf plo) (Vf phi) (fe_ eT yfr yto yty pam pdi) (nx_ pam P) sg f k' n' p' u').length ≤ 1000 →
        wX_findTrails_46 post (10000001 - t') (nI d) (nI t') nT eT xlv (nI P) xqc xcc xec (nI (m + (mt_X P (Vf pva) (Vf plo) (Vf phi) (fe_ eT yfr yto yty pam pdi) (nx_ pam P) sg f k' n' p' u').length)) (nI (lm_ (ws_ ywt) l (mt_X P (Vf pva) (Vf plo) (Vf phi) (fe_ eT yfr yto yty pam pdi) (nx_ pam P) sg f k' n' p' u'))) rc xla xpr xed sN sE sL sP sD pva pwa pam pdi plo phi ptk pco pex tr ds ch ar rN rM a1 a2 a3 a4 a5) →
      wX_findTrails_46 post (10000001 - t) (nI (d + 1)) (nI t) nT eT xlv (nI P) xqc xcc xec (nI m) (nI l) rc xla xpr xed sN sE sL sP sD pva pwa pam pdi plo phi ptk pco pex tr ds ch ar rN rM s1 s2 s3 s4 s5)
    {k n p : Nat} {u : Int32} (hk : k < P) (ha : ¬ pam k = 0) (hn : n < Vf phi k) (hp8 : p < 8) (hu : us_ eT u) :
    ∀ r j t m l (s1 s2 s3 s4 s5 : Nat → Int32), j + r = 24 → fr_ s1 s2 s3 s4 s5 d k n p u j → m ≤ 1000 → l ≤ 1000000 → t + r * (1 + cf f) + 1 ≤ 10000000 → m + (fm (mt_B P (Vf pva) (Vf plo) (Vf phi) (fe_ eT yfr yto yty pam pdi) (nx_ pam P) sg f k n p u) r j).length ≤ T0 →
    (∀ t' (a1 a2 a3 a4 a5 : Nat → Int32), t' ≤ t + r * (1 + cf f) + 1 → ag_ d s1 s2 s3 s4 s5 a1 a2 a3 a4 a5 → m + (fm (mt_B P (Vf pva) (Vf plo) (Vf phi) (fe_ eT yfr yto yty pam pdi) (nx_ pam P) sg f k n p u) r j).length ≤ 1000 →
      wX_findTrails_46 post (10000001 - t') (nI d + (-1)) (nI t') nT eT xlv (nI P) xqc xcc xec (nI (m + (fm (mt_B P (Vf pva) (Vf plo) (Vf phi) (fe_ eT yfr yto yty pam pdi) (nx_ pam P) sg f k n p u) r j).length)) (nI (lm_ (ws_ ywt) l (fm (mt_B P (Vf pva) (Vf plo) (Vf phi) (fe_ eT yfr yto yty pam pdi) (nx_ pam P) sg f k n p u) r j))) rc xla xpr xed sN sE sL sP sD pva pwa pam pdi plo phi ptk pco pex tr ds ch ar rN rM a1 a2 a3 a4 a5) →
    wX_findTrails_46 post (10000001 - t) (nI d) (nI t) nT eT xlv (nI P) xqc xcc xec (nI m) (nI l) rc xla xpr xed sN sE sL sP sD pva pwa pam pdi plo phi ptk pco pex tr ds ch ar rN rM s1 s2 s3 s4 s5 := by
  have w : vp_in (nI d) 5 := vp_in_nI hd (by omega)
  have cd : (nI d).toNatClampNeg = d := nI_clamp (by omega)
  obtain ⟨_, _, _, v3⟩ := q_f (hp k hk)
  obtain ⟨_, _, _, v7, _, v5, v6⟩ := v3 ha
  intro r
  induction r with
  | zero =>
    intro j t m l s1 s2 s3 s4 s5 hj hfr hm hl ht hT hnx
    have e : j = 24 := by omega
    subst e
    obtain ⟨f1, f2, f3, f4, f5⟩ := hfr
    rw [show 10000001 - t = 10000001 - (t + 1) + 1 from by omega]
    refine br_f (nI_ge (b := 10000000) (by omega) (by omega)) (br_f (nI_pos (by omega)) (br_f (nI_nlt (b := m) (a := 1000) hm (by omega)) ⟨w, nm_r (show _ = nI 24 from by rw [cd, f5]) ⟨w, nm_r (show _ = upd s5 d (nI 25) from by rw [cd, nI_1]) (br_f (by decide) (nm_e (nm_r (nI_1 t) ?_)))⟩⟩))
    exact hnx (t + 1) s1 s2 s3 s4 (upd s5 d (nI 25)) (by omega) (fun i hi => ⟨rfl, rfl, rfl, rfl, pk_un (by omega)⟩) hm
  | succ r ih =>
    intro j t m l s1 s2 s3 s4 s5 hj hfr hm hl ht hT hnx
    obtain ⟨f1, f2, f3, f4, f5⟩ := hfr
    have eF : fm (mt_B P (Vf pva) (Vf plo) (Vf phi) (fe_ eT yfr yto yty pam pdi) (nx_ pam P) sg f k n p u) (r + 1) j = (mt_B P (Vf pva) (Vf plo) (Vf phi) (fe_ eT yfr yto yty pam pdi) (nx_ pam P) sg f k n p u j) ++ (fm (mt_B P (Vf pva) (Vf plo) (Vf phi) (fe_ eT yfr yto yty pam pdi) (nx_ pam P) sg f k n p u) r (j + 1)) := rfl
    rw [eF] at hnx hT
    rw [List.length_append] at hT
    have hr : (r + 1) * (1 + cf f) = r * (1 + cf f) + (1 + cf f) := Nat.succ_mul _ _
    have res : ∀ t' m' l' (a1 a2 a3 a4 a5 : Nat → Int32), t' ≤ t + 1 + cf f → fr_ a1 a2 a3 a4 a5 d k n p u (j + 1) → ag_ d s1 s2 s3 s4 s5 a1 a2 a3 a4 a5 → m' = m + (mt_B P (Vf pva) (Vf plo) (Vf phi) (fe_ eT yfr yto yty pam pdi) (nx_ pam P) sg f k n p u j).length → l' = lm_ (ws_ ywt) l (mt_B P (Vf pva) (Vf plo) (Vf phi) (fe_ eT yfr yto yty pam pdi) (nx_ pam P) sg f k n p u j) → m' ≤ 1001 → wX_findTrails_46 post (10000001 - t') (nI d) (nI t') nT eT xlv (nI P) xqc xcc xec (nI m') (nI l') rc xla xpr xed sN sE sL sP sD pva pwa pam pdi plo phi ptk pco pex tr ds ch ar rN rM a1 a2 a3 a4 a5 := by
      intro t' m' l' a1 a2 a3 a4 a5 h1 h2 h3 h4 h5 h6
      by_cases z : m' ≤ 1000
      · have ll := lm_le (ws_ ywt) (mt_B P (Vf pva) (Vf plo) (Vf phi) (fe_ eT yfr yto yty pam pdi) (nx_ pam P) sg f k n p u j) l
        refine ih (j + 1) t' m' l' a1 a2 a3 a4 a5 (by omega) h2 z (by omega) (by omega) (by omega) (fun t'' b1 b2 b3 b4 b5 g1 g2 g3 => ?_)
        have := hnx t'' b1 b2 b3 b4 b5 (by omega) (fun i hi => ⟨(g2 i hi).1.trans (h3 i hi).1, (g2 i hi).2.1.trans (h3 i hi).2.1, (g2 i hi).2.2.1.trans (h3 i hi).2.2.1, (g2 i hi).2.2.2.1.trans (h3 i hi).2.2.2.1, (g2 i hi).2.2.2.2.trans (h3 i hi).2.2.2.2⟩) (by rw [List.length_append]; omega)
        rw [List.length_append, lm_app, ← h5, ← Nat.add_assoc, ← h4] at this
        exact this
      · have e : m' = 1001 := by omega
        rw [e, show 10000001 - t' = 10000001 - (t' + 1) + 1 from by omega]
        exact br_f (nI_ge (b := 10000000) (by omega) (by omega)) (br_f (nI_pos (by omega)) (br_t (by decide) (hx (by omega) _ _ _ _ _ _)))
    have ag0 : ag_ d s1 s2 s3 s4 s5 s1 s2 s3 s4 (upd s5 d (nI (j + 1))) := fun i hi => ⟨rfl, rfl, rfl, rfl, pk_un (by omega)⟩
    have fr0 : fr_ s1 s2 s3 s4 (upd s5 d (nI (j + 1))) d k n p u (j + 1) := ⟨f1, f2, f3, f4, pk_us⟩
    have skip : (mt_B P (Vf pva) (Vf plo) (Vf phi) (fe_ eT yfr yto yty pam pdi) (nx_ pam P) sg f k n p u j) = [] → wX_findTrails_46 post (10000001 - (t + 1)) (nI d) (nI (t + 1)) nT eT xlv (nI P) xqc xcc xec (nI m) (nI l) rc xla xpr xed sN sE sL sP sD pva pwa pam pdi plo phi ptk pco pex tr ds ch ar rN rM s1 s2 s3 s4 (upd s5 d (nI (j + 1))) := fun q => res (t + 1) m l s1 s2 s3 s4 _ (by omega) fr0 ag0 (by rw [q]; rfl) (by rw [q]; rfl) (by omega)
    obtain ⟨e1, e2⟩ := tg_d2 (j := j) (by omega)
    rw [show 10000001 - t = 10000001 - (t + 1) + 1 from by omega]
    refine br_f (nI_ge (b := 10000000) (by omega) (by omega)) (br_f (nI_pos (by omega)) (br_f (nI_nlt (b := m) (a := 1000) hm (by omega)) ⟨w, nm_r (show _ = nI j from by rw [cd, f5]) ⟨w, nm_r (show _ = upd s5 d (nI (j + 1)) from by rw [cd, nI_1]) (br_t (nI_lt (b := 24) (by omega) (by omega)) ⟨by decide, nm_r e1 ⟨w, ?_⟩⟩)⟩⟩))
    rw [cd, f4, f3, f1]
    refine tg_isIn (by omega) (tg_zbr (fun b => ⟨w, w, xm_fe hR (by omega) (by omega) ?_⟩) (fun b => br_t rfl (nm_r (nI_1 t) (skip (mt_B0 (Or.inl b))))))
    cases hq : fe_ eT yfr yto yty pam pdi k (j / 2) p with
    | none => exact br_t rfl (nm_r (nI_1 t) (skip (mt_B0 (Or.inr hq))))
    | some q =>
      obtain ⟨q8, qb, qe⟩ := fe_lt hR hq
      have hu' := us_u hu qe qb
      refine br_f (nI_m1 (by omega)) ⟨by decide, ?_⟩
      rw [e2]
      by_cases par : j % 2 = 0
      · have eB := mt_Bc (P := P) (V := Vf pva) (Lo := Vf plo) (Hi := Vf phi) (nx := nx_ pam P) (sg := sg) (f := f) (n := n) b hq par
        refine br_t (by rw [par]; rfl) (xm_ch hd (by omega) v6 (by omega) f1 f2 f4 v7 (fun z => br_t rfl (nm_r (nI_1 t) (skip ?_))) (fun z y => br_f tg_10 (nm_r (nI_1 d) (nm_r (nI_1 t) ?_))))
        · rw [eB]
          rcases z with z | z
          · rw [if_neg z]
          · rw [hf z]
            split <;> rfl
        · rw [if_pos z] at eB
          refine hch y k (n + 1) q (ub u (j / 2)) hk ha z q8 hu' (t + 1) m l _ _ _ _ _ ⟨pk_us, pk_us, pk_us, pk_us, pk_us⟩ hm hl (by omega) (by rw [← eB]; omega) (fun t' a1 a2 a3 a4 a5 g1 g2 g3 => ?_)
          have g := fun i (hi : i < d + 1) => g2 i hi
          refine res t' _ _ a1 a2 a3 a4 a5 (by omega) ?_ (fun i hi => ?_) (by rw [eB]) (by rw [eB]) (by omega)
          · obtain ⟨x1, x2, x3, x4, x5⟩ := g d (by omega)
            rw [pk_un (by omega)] at x1 x2 x3 x4 x5
            exact ⟨x1.trans f1, x2.trans f2, x3.trans f3, x4.trans f4, x5.trans pk_us⟩
          · obtain ⟨x1, x2, x3, x4, x5⟩ := g i (by omega)
            rw [pk_un (by omega)] at x1 x2 x3 x4 x5
            exact ⟨x1, x2, x3, x4, x5.trans (pk_un (by omega))⟩
      · have eB := mt_Be (P := P) (V := Vf pva) (Lo := Vf plo) (Hi := Vf phi) (nx := nx_ pam P) (sg := sg) (f := f) (n := n) b hq par
        refine br_f (by rw [show j % 2 = 1 from by omega]; decide) (xm_eh hP hp hR hsg hu' hl q8 hd hk ha (by omega) f1 f2 f4 (fun z => br_t rfl (nm_r (nI_1 t) (skip ?_))) (fun z1 z2 z3 => br_t rfl (nm_r (nI_1 t) ?_)) (fun z1 z2 z3 z4 => br_t rfl (nm_r (nI_1 t) (skip ?_))) (fun z1 z2 z3 y => br_f tg_10 (nm_r (nI_1 d) (nm_r (nI_1 t) ?_))))
        · rw [eB, if_neg z]
        · rw [if_pos ⟨z1, z2⟩, if_neg z3] at eB
          exact res (t + 1) _ _ s1 s2 s3 s4 _ (by omega) fr0 ag0 (by rw [eB]; rfl) (by rw [eB]; rfl) (by omega)
        · rw [eB, if_pos ⟨z1, z2⟩, if_pos z3, hf z4]; rfl
        · rw [if_pos ⟨z1, z2⟩, if_pos z3] at eB
          obtain ⟨n1, n2, n3, n4⟩ := nxf_s (am := pam) (P := P) (P - (k + 1)) (k + 1) (by omega)
          have n1' : k + 1 ≤ nx_ pam P k := n1
          have an : ¬ pam (nx_ pam P k) = 0 := n4 z3
          obtain ⟨_, _, _, y3⟩ := q_f (hp (nx_ pam P k) z3)
          obtain ⟨_, _, _, _, y5, y6, _⟩ := y3 an
          obtain ⟨_, b2, _, _⟩ := q_f (hp (nx_ pam P k - 1) (by omega))
          refine hch y (nx_ pam P k) 0 (sg (Vf pva (nx_ pam P k - 1))) (ub u (j / 2)) z3 an (by omega) (hsg _ b2).2 hu' (t + 1) m l _ _ _ _ _ ⟨pk_us, pk_us, pk_us, pk_us, pk_us⟩ hm hl (by omega) (by rw [← eB]; omega) (fun t' a1 a2 a3 a4 a5 g1 g2 g3 => ?_)
          have g := fun i (hi : i < d + 1) => g2 i hi
          refine res t' _ _ a1 a2 a3 a4 a5 (by omega) ?_ (fun i hi => ?_) (by rw [eB]) (by rw [eB]) (by omega)
          · obtain ⟨x1, x2, x3, x4, x5⟩ := g d (by omega)
            rw [pk_un (by omega)] at x1 x2 x3 x4 x5
            exact ⟨x1.trans f1, x2.trans f2, x3.trans f3, x4.trans f4, x5.trans pk_us⟩
          · obtain ⟨x1, x2, x3, x4, x5⟩ := g i (by omega)
            rw [pk_un (by omega)] at x1 x2 x3 x4 x5
            exact ⟨x1, x2, x3, x4, x5.trans (pk_un (by omega))⟩
theorem xm_fr {post : SX → Prop} {P : Nat} {sg : Nat → Nat} (hP : P ≤ 6) (hp : ∀ k, k < P → qu_P pva pwa pam pdi plo phi k) (hR : gr_R nT eT xla xpr xed yla ypr yfr yto yty ywt) (hsg : ∀ v, v < 4 → ch v = nI (sg v) ∧ sg v < 8)
    {T0 : Nat} (hx : 1000 < T0 → ∀ lw (s1 s2 s3 s4 s5 : Nat → Int32), post (nT, eT, xlv, (nI P), xqc, xcc, xec, (nI 1001), lw, rc, xla, xpr, xed, sN, sE, sL, sP, sD, pva, pwa, pam, pdi, plo, phi, ptk, pco, pex, tr, ds, ch, ar, rN, rM, s1, s2, s3, s4, s5)) : ∀ f d, d + (f + 1) = 5 → ∀ k n p u, k < P → ¬ pam k = 0 → n < Vf phi k → p < 8 → us_ eT u →
    ∀ r j t m l (s1 s2 s3 s4 s5 : Nat → Int32), j + r = 24 → fr_ s1 s2 s3 s4 s5 d k n p u j → m ≤ 1000 → l ≤ 1000000 → t + r * (1 + cf f) + 1 ≤ 10000000 → m + (fm (mt_B P (Vf pva) (Vf plo) (Vf phi) (fe_ eT yfr yto yty pam pdi) (nx_ pam P) sg f k n p u) r j).length ≤ T0 →
    (∀ t' (a1 a2 a3 a4 a5 : Nat → Int32), t' ≤ t + r * (1 + cf f) + 1 → ag_ d s1 s2 s3 s4 s5 a1 a2 a3 a4 a5 → m + (fm (mt_B P (Vf pva) (Vf plo) (Vf phi) (fe_ eT yfr yto yty pam pdi) (nx_ pam P) sg f k n p u) r j).length ≤ 1000 →
      wX_findTrails_46 post (10000001 - t') (nI d + (-1)) (nI t') nT eT xlv (nI P) xqc xcc xec (nI (m + (fm (mt_B P (Vf pva) (Vf plo) (Vf phi) (fe_ eT yfr yto yty pam pdi) (nx_ pam P) sg f k n p u) r j).length)) (nI (lm_ (ws_ ywt) l (fm (mt_B P (Vf pva) (Vf plo) (Vf phi) (fe_ eT yfr yto yty pam pdi) (nx_ pam P) sg f k n p u) r j))) rc xla xpr xed sN sE sL sP sD pva pwa pam pdi plo phi ptk pco pex tr ds ch ar rN rM a1 a2 a3 a4 a5) →
    wX_findTrails_46 post (10000001 - t) (nI d) (nI t) nT eT xlv (nI P) xqc xcc xec (nI m) (nI l) rc xla xpr xed sN sE sL sP sD pva pwa pam pdi plo phi ptk pco pex tr ds ch ar rN rM s1 s2 s3 s4 s5 := by
  intro f
  induction f with
  | zero =>
    intro d hd k n p u hk ha hn hp8 hu
    exact xm_in hP hp hR hsg hx (by omega) (fun _ => rfl) (fun q => absurd q (by omega)) hk ha hn hp8 hu
  | succ f ihf =>
    intro d hd k n p u hk ha hn hp8 hu
    refine xm_in hP hp hR hsg hx (by omega) (fun q => absurd q (by omega)) (fun _ k' n' p' u' hk' ha' hn' hp' hu' t m l s1 s2 s3 s4 s5 hfr hm hl ht hT hnx => ?_) hk ha hn hp8 hu
    refine ihf (d + 1) (by omega) k' n' p' u' hk' ha' hn' hp' hu' 24 0 t m l s1 s2 s3 s4 s5 rfl hfr hm hl ht hT (fun t' a1 a2 a3 a4 a5 g1 g2 g3 => ?_)
    rw [pk_m1]
    exact hnx t' a1 a2 a3 a4 a5 g1 g2 g3
