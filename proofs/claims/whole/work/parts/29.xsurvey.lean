/-! findTrails, arrivals, candidates -/
theorem rk_lt {fe : Nat → Nat → Nat → Option Nat} {k : Nat} (hf : ∀ e p q, fe k e p = some q → q < 8) : ∀ m p r, p < 8 → rk_ fe k m p r → r < 8
  | 0, p, r, hp, h => by
    have h : r = p := h
    omega
  | m + 1, p, r, hp, h => by
    obtain ⟨e, q, _, h1, h2⟩ := h
    exact rk_lt hf m q r (hf e p q h1) h2
theorem rk_app {fe : Nat → Nat → Nat → Option Nat} {k : Nat} : ∀ m p r, rk_ fe k (m + 1) p r → ∃ p' e, rk_ fe k m p p' ∧ e < 12 ∧ fe k e p' = some r
  | 0, p, r, h => by
    obtain ⟨e, q, h0, h1, h2⟩ := h
    have h2 : r = q := h2
    exact ⟨p, e, rfl, h0, by rw [h2]; exact h1⟩
  | m + 1, p, r, h => by
    obtain ⟨e, q, h0, h1, h2⟩ := h
    obtain ⟨p', e', a, b, c⟩ := rk_app m q r h2
    exact ⟨p', e', ⟨e, q, h0, h1, a⟩, b, c⟩
theorem cf_4 : 24 * (1 + cf 4) + 1 = 8655025 := by decide +kernel
variable {nT : Int32} {eT : Int32} {xlv : Int32} {xpc : Int32} {xqc : Int32} {xcc : Int32} {xec : Int32} {mc : Int32} {lw : Int32} {rc : Int32} {xla : Nat → Int32} {xpr : Nat → Int64} {xed : Nat → Int32} {sN : Nat → Int32} {sE : Nat → Int32} {sL : Nat → Int32} {sP : Nat → Int64} {sD : Nat → Int32} {pva : Nat → Int32} {pwa : Nat → Int32} {pam : Nat → Int32} {pdi : Nat → Int32} {plo : Nat → Int32} {phi : Nat → Int32} {ptk : Nat → Int32} {pco : Nat → Int32} {pex : Nat → Int32} {tr : Nat → Int32} {ds : Nat → Int32} {ch : Nat → Int32} {ar : Nat → Int32} {rN : Nat → Int32} {rM : Nat → Int32} {s1 : Nat → Int32} {s2 : Nat → Int32} {s3 : Nat → Int32} {s4 : Nat → Int32} {s5 : Nat → Int32}
variable {ylv : Int32} {ypc : Int32} {yqc : Int32} {ycc : Int32} {yec : Int32} {yde : Int32} {yus : Int32} {ywe : Int32} {yfo : Int32} {yli : Int32} {yso : Int32} {ysu : Int64} {yla : Nat → Int32} {ypr : Nat → Int64} {yfr : Nat → Int32} {yto : Nat → Int32} {yty : Nat → Int32} {ywt : Nat → Int32} {yst : Nat → Int32} {ypa : Nat → Int32} {ysp : Nat → Int32} {ypl : Nat → Int32} {ycp : Nat → Int32} {ybo : Nat → Int32} {ytk : Nat → Int32} {yno : Nat → Int32} {ych : Nat → Int32} {yfa : Nat → Int32}
theorem xm_ft {post : SX → Prop} {P m l : Nat} {sg : Nat → Nat} (hP : P ≤ 6) (hP0 : 0 < P) (hp : ∀ k, k < P → qu_P pva pwa pam pdi plo phi k) (hR : gr_R nT eT xla xpr xed yla ypr yfr yto yty ywt) (hsg : ∀ v, v < 4 → ch v = nI (sg v) ∧ sg v < 8) (hm : m ≤ 1000) (hl : l ≤ 1000000)
    (hx : 1000 < m + (fl_ P (Vf pva) (Vf plo) (Vf phi) (fe_ eT yfr yto yty pam pdi) (nx_ pam P) sg).length → ∀ lw (s1 s2 s3 s4 s5 : Nat → Int32), post (nT, eT, xlv, (nI P), xqc, xcc, xec, (nI 1001), lw, rc, xla, xpr, xed, sN, sE, sL, sP, sD, pva, pwa, pam, pdi, plo, phi, ptk, pco, pex, tr, ds, ch, ar, rN, rM, s1, s2, s3, s4, s5))
    (h : m + (fl_ P (Vf pva) (Vf plo) (Vf phi) (fe_ eT yfr yto yty pam pdi) (nx_ pam P) sg).length ≤ 1000 → ∀ (s1 s2 s3 s4 s5 : Nat → Int32), post (nT, eT, xlv, (nI P), xqc, xcc, xec, (nI (m + (fl_ P (Vf pva) (Vf plo) (Vf phi) (fe_ eT yfr yto yty pam pdi) (nx_ pam P) sg).length)), (nI (lm_ (ws_ ywt) l (fl_ P (Vf pva) (Vf plo) (Vf phi) (fe_ eT yfr yto yty pam pdi) (nx_ pam P) sg))), rc, xla, xpr, xed, sN, sE, sL, sP, sD, pva, pwa, pam, pdi, plo, phi, ptk, pco, pex, tr, ds, ch, ar, rN, rM, s1, s2, s3, s4, s5)) :
    wpX_findTrails post (nT, eT, xlv, (nI P), xqc, xcc, xec, (nI m), (nI l), rc, xla, xpr, xed, sN, sE, sL, sP, sD, pva, pwa, pam, pdi, plo, phi, ptk, pco, pex, tr, ds, ch, ar, rN, rM, s1, s2, s3, s4, s5) := by
  unfold fl_ at h hx
  unfold wpX_findTrails
  refine xm_nx (k := 0) hP hP0 ?_
  obtain ⟨n1, n2, n3, n4⟩ := nxf_s (am := pam) (P := P) (P - (0 + 1)) (0 + 1) (by omega)
  have n1' : 0 + 1 ≤ nx_ pam P 0 := n1
  have n2' : nx_ pam P 0 ≤ P := n2
  by_cases x : nx_ pam P 0 < P
  · have an : ¬ pam (nx_ pam P 0) = 0 := n4 x
    have e1 : nI (nx_ pam P 0) - 1 = nI (nx_ pam P 0 - 1) := pk_sub (b := 1) (by omega)
    obtain ⟨b1, b2, _, _⟩ := q_f (hp (nx_ pam P 0 - 1) (by omega))
    obtain ⟨b3, b4⟩ := hsg _ b2
    obtain ⟨_, _, _, y3⟩ := q_f (hp (nx_ pam P 0) x)
    obtain ⟨_, _, _, _, y5, y6, _⟩ := y3 an
    rw [if_pos x] at h hx
    refine br_t (nI_lt x (by omega)) ?_
    rw [e1, nI_clamp (show nx_ pam P 0 - 1 < 2 ^ 31 by omega), b1, nI_clamp (show Vf pva (nx_ pam P 0 - 1) < 2 ^ 31 by omega), b3]
    refine ⟨vp_in_nI (by omega) (by omega), vp_in_nI b2 (by omega), xm_os (d := 0) (by omega) ⟨10000001, ?_⟩⟩
    have c4 := cf_4
    have K := xm_fr (post := post) (sg := sg) (nT := nT) (xla := xla) (xpr := xpr) (xed := xed) hP hp hR hsg hx 4 0 rfl (nx_ pam P 0) 0 (sg (Vf pva (nx_ pam P 0 - 1))) 0 x an (by omega) b4 (us_0 eT) 24 0 0 m l (upd s1 0 (nI (nx_ pam P 0))) (upd s2 0 0) (upd s3 0 (nI (sg (Vf pva (nx_ pam P 0 - 1))))) (upd s4 0 0) (upd s5 0 0) rfl ⟨pk_us, pk_us, pk_us, pk_us, pk_us⟩ hm hl (by omega) (Nat.le_refl _) (fun t' a1 a2 a3 a4 a5 g1 g2 g3 => ?_)
    · exact K
    · rw [show 10000001 - t' = 10000001 - (t' + 1) + 1 from by omega]
      exact br_f (nI_ge (b := 10000000) (by omega) (by omega)) (br_t (by decide) (h g3 a1 a2 a3 a4 a5))
  · rw [if_neg x] at h hx
    refine br_f (nI_nlt (by omega) (by omega)) (xm_am hR (us_0 eT) hl ?_)
    by_cases z : m = 1000
    · subst z
      exact hx (by show 1000 < 1000 + 1; omega) _ _ _ _ _ _
    · exact h (by show m + 1 ≤ 1000; omega) s1 s2 s3 s4 s5
theorem xm_oe {post : Int32 → Prop} {x : Int32} {k : Nat} (hk : k < 6) (hR : gr_R nT eT xla xpr xed yla ypr yfr yto yty ywt) (h : ∀ r, (∀ p e q, p < 8 → bt x p = true → e < 12 → fe_ eT yfr yto yty pam pdi k e p = some q → bt r q = true) → post r) : wpX_oneEdgeOn post (nT, eT, xlv, xpc, xqc, xcc, xec, mc, lw, rc, xla, xpr, xed, sN, sE, sL, sP, sD, pva, pwa, pam, pdi, plo, phi, ptk, pco, pex, tr, ds, ch, ar, rN, rM, s1, s2, s3, s4, s5) x (nI k) := by
  have K1 : ∀ (J : Int32 → Int32 → Prop) p, p < 8 → bt x p = true → ∀ r0 : Int32, (∀ r, (∀ q, bt r0 q = true → bt r q = true) → (∀ e q, e < 12 → fe_ eT yfr yto yty pam pdi k e p = some q → bt r q = true) → J r (nI (p + 1))) → ∀ d e r, e + d = 12 → (∀ q, bt r0 q = true → bt r q = true) → (∀ e' q, e' < e → fe_ eT yfr yto yty pam pdi k e' p = some q → bt r q = true) → wX_oneEdgeOn_15 post J x (nI k) (nI p) nT eT xlv xpc xqc xcc xec mc lw rc xla xpr xed sN sE sL sP sD pva pwa pam pdi plo phi ptk pco pex tr ds ch ar rN rM s1 s2 s3 s4 s5 (d + 1) r (nI e) := by
    intro J p hp hb r0 hJ d
    induction d with
    | zero =>
      intro e r he h1 h2
      have z : e = 12 := by omega
      subst z
      exact br_t (nI_le (a := 12) (by omega) (by omega)) (nm_r (nI_1 p) (hJ r h1 h2))
    | succ d ih =>
      intro e r he h1 h2
      refine br_f (nI_ge (b := 12) (by omega) (by decide)) (tg_isIn (by omega) ?_)
      rw [hb]
      refine br_f tg_10 (xm_fe hR (by omega) hk ?_)
      cases hq : fe_ eT yfr yto yty pam pdi k e p with
      | none =>
        refine br_t rfl (nm_r (nI_1 e) (ih (e + 1) r (by omega) h1 (fun e' q he' hq' => ?_)))
        by_cases z : e' = e
        · rw [z, hq] at hq'; exact absurd hq' (by simp)
        · exact h2 e' q (by omega) hq'
      | some q0 =>
        obtain ⟨q8, _, _⟩ := fe_lt hR hq
        refine br_f (nI_m1 (by omega)) (nm_r (show _ = r ||| ((1 : Int32) <<< (nI q0 &&& 31)) from rfl) (nm_r (nI_1 e) (ih (e + 1) _ (by omega) (fun q hq' => ?_) (fun e' q he' hq' => ?_))))
        · rw [tg_or r (by omega), h1 q hq']; rfl
        · rw [tg_or r (by omega)]
          by_cases z : e' = e
          · rw [z, hq] at hq'; cases hq'; simp
          · rw [h2 e' q (by omega) hq']; rfl
  have K2 : ∀ d p r, p + d = 8 → (∀ p' e q, p' < p → bt x p' = true → e < 12 → fe_ eT yfr yto yty pam pdi k e p' = some q → bt r q = true) → wX_oneEdgeOn_5 post x (nI k) nT eT xlv xpc xqc xcc xec mc lw rc xla xpr xed sN sE sL sP sD pva pwa pam pdi plo phi ptk pco pex tr ds ch ar rN rM s1 s2 s3 s4 s5 (d + 1) r (nI p) := by
    intro d
    induction d with
    | zero =>
      intro p r hp h1
      have z : p = 8 := by omega
      subst z
      exact br_t (nI_le (a := 8) (by omega) (by omega)) (h r h1)
    | succ d ih =>
      intro p r hp h1
      refine br_f (nI_ge (b := 8) (by omega) (by decide)) ⟨13, ?_⟩
      cases b : bt x p
      · refine br_f (by decide) (tg_isIn (by omega) ?_)
        rw [b]
        refine br_t rfl (nm_r (nI_1 p) (ih (p + 1) r (by omega) (fun p' e q hp' hb' he hq => ?_)))
        by_cases z : p' = p
        · rw [z, b] at hb'; exact absurd hb' (by decide)
        · exact h1 p' e q (by omega) hb' he hq
      · refine K1 _ p (by omega) b r (fun r' g1 g2 => ih (p + 1) r' (by omega) (fun p' e q hp' hb' he hq => ?_)) 12 0 r (by omega) (fun q hq => hq) (fun e' q he' => absurd he' (Nat.not_lt_zero e'))
        by_cases z : p' = p
        · rw [z] at hq; exact g2 e q he hq
        · exact g1 q (h1 p' e q (by omega) hb' he hq)
  exact ⟨9, K2 8 0 0 (by omega) (fun p' e q hp' => absurd hp' (Nat.not_lt_zero p'))⟩
/-- arrivals as far as they are known: for the hops below k, and below node p at hop k -/
def ar_ (am lo h : Nat → Int32) (fe : Nat → Nat → Nat → Option Nat) (ar : Nat → Int32) (k : Nat) : Prop := ∀ p m q, p < 8 → Vf lo k ≤ m → m ≤ Vf h k → rk_ fe k m p q → bt (ar (k * 8 + p)) q = true
theorem xm_fa {post : SX → Prop} {P : Nat} (hP : P ≤ 6) (hp : ∀ k, k < P → qu_P pva pwa pam pdi plo phi k) (hR : gr_R nT eT xla xpr xed yla ypr yfr yto yty ywt) (h : ∀ ar, (∀ k, k < P → ¬ pam k = 0 → ar_ pam plo phi (fe_ eT yfr yto yty pam pdi) ar k) → post (nT, eT, xlv, (nI P), xqc, xcc, xec, mc, lw, rc, xla, xpr, xed, sN, sE, sL, sP, sD, pva, pwa, pam, pdi, plo, phi, ptk, pco, pex, tr, ds, ch, ar, rN, rM, s1, s2, s3, s4, s5)) : wpX_findArrivals post (nT, eT, xlv, (nI P), xqc, xcc, xec, mc, lw, rc, xla, xpr, xed, sN, sE, sL, sP, sD, pva, pwa, pam, pdi, plo, phi, ptk, pco, pex, tr, ds, ch, ar, rN, rM, s1, s2, s3, s4, s5) := by
  have K1 : ∀ (J2 J : _) k p, k < P → p < 8 → ¬ pam k = 0 → ∀ ar : Nat → Int32, (∀ y, (∀ m q, Vf plo k ≤ m → m ≤ Vf phi k → rk_ (fe_ eT yfr yto yty pam pdi) k m p q → bt y q = true) → J (nI (p + 1)) xla xpr xed sN sE sL sP sD pva pwa pam pdi plo phi ptk pco pex tr ds ch (upd ar (k * 8 + p) y) rN rM s1 s2 s3 s4 s5) → ∀ d i x y, i + d = Vf phi k → (∀ q, rk_ (fe_ eT yfr yto yty pam pdi) k i p q → bt x q = true) → (∀ m q, Vf plo k ≤ m → m ≤ i → rk_ (fe_ eT yfr yto yty pam pdi) k m p q → bt y q = true) → wX_findArrivals_37 post J2 J (nI k) (nI p) nT eT xlv (nI P) xqc xcc xec mc lw rc xla xpr xed sN sE sL sP sD pva pwa pam pdi plo phi ptk pco pex tr ds ch ar rN rM s1 s2 s3 s4 s5 (d + 1) x y (nI (i + 1)) := by
    intro J2 J k p hk hp8 ha ar hJ d
    obtain ⟨_, _, _, v3⟩ := q_f (hp k hk)
    obtain ⟨_, _, v4, v7, v8, v5, v6⟩ := v3 ha
    have wk : vp_in (nI k) 6 := vp_in_nI (by omega) (by omega)
    have ck : (nI k).toNatClampNeg = k := nI_clamp (by omega)
    induction d with
    | zero =>
      intro i x y hi h1 h2
      have e1 : nI k * 8 + nI p = nI (k * 8 + p) := tg_ix
      refine ⟨wk, ?_⟩
      rw [ck, v7, e1]
      exact br_t (nI_lt (by omega) (by omega)) ⟨vp_in_nI (by omega) (by omega), nm_r (tg_u (by omega)) (nm_r (nI_1 p) (hJ y (fun m q m1 m2 => h2 m q m1 (by omega))))⟩
    | succ d ih =>
      intro i x y hi h1 h2
      refine ⟨wk, ?_⟩
      rw [ck, v7, v4]
      refine br_f (nI_nlt (by omega) (by omega)) (xm_oe (by omega) hR (fun r hr => ⟨wk, ?_⟩))
      have hr' : ∀ q, rk_ (fe_ eT yfr yto yty pam pdi) k (i + 1) p q → bt r q = true := fun q hq => by
        obtain ⟨p', e, g1, g2, g3⟩ := rk_app i p q hq
        exact hr p' e q (rk_lt (fun e p q hq => (fe_lt hR hq).1) i p p' hp8 g1) (h1 p' g1) g2 g3
      by_cases z : i + 1 < Vf plo k
      · exact br_t (nI_lt z (by omega)) (nm_r (nI_1 _) (ih (i + 1) r y (by omega) hr' (fun m q m1 m2 => by omega)))
      · refine br_f (nI_nlt (by omega) (by omega)) (nm_e (nm_r (nI_1 _) (ih (i + 1) r _ (by omega) hr' (fun m q m1 m2 hq => ?_))))
        rw [b_or]
        by_cases w : m = i + 1
        · rw [hr' q (by rw [← w]; exact hq)]; simp
        · rw [h2 m q m1 (by omega) hq]; rfl
  have K2 : ∀ (J : _) k, k < P → ∀ d p (ar : Nat → Int32), p + d = 8 → (∀ ar' : Nat → Int32, (∀ j, (j < k * 8 ∨ k * 8 + 8 ≤ j) → ar' j = ar j) → (¬ pam k = 0 → ar_ pam plo phi (fe_ eT yfr yto yty pam pdi) ar' k) → J (nI (k + 1)) xla xpr xed sN sE sL sP sD pva pwa pam pdi plo phi ptk pco pex tr ds ch ar' rN rM s1 s2 s3 s4 s5) → ∀ ar' : Nat → Int32, (∀ j, (j < k * 8 ∨ k * 8 + 8 ≤ j) → ar' j = ar j) → (¬ pam k = 0 → ∀ p' m q, p' < p → Vf plo k ≤ m → m ≤ Vf phi k → rk_ (fe_ eT yfr yto yty pam pdi) k m p' q → bt (ar' (k * 8 + p')) q = true) → wX_findArrivals_12 post J (nI k) nT eT xlv (nI P) xqc xcc xec mc lw rc (d + 1) (nI p) xla xpr xed sN sE sL sP sD pva pwa pam pdi plo phi ptk pco pex tr ds ch ar' rN rM s1 s2 s3 s4 s5 := by
    intro J k hk d
    have wk : vp_in (nI k) 6 := vp_in_nI (by omega) (by omega)
    have ck : (nI k).toNatClampNeg = k := nI_clamp (by omega)
    induction d with
    | zero =>
      intro p ar hp8 hJ ar' g1 g2
      have z : p = 8 := by omega
      subst z
      exact br_t (nI_le (a := 8) (by omega) (by omega)) (nm_r (nI_1 k) (hJ ar' g1 (fun ha p' m q a b c e => g2 ha p' m q a b c e)))
    | succ d ih =>
      intro p ar hp8 hJ ar' g1 g2
      refine br_f (nI_ge (b := 8) (by omega) (by decide)) ⟨wk, ?_⟩
      rw [ck]
      refine br_c (fun z => nm_r (nI_1 k) (hJ ar' g1 (fun w => absurd z w))) (fun z => nm_e ⟨Vf phi k + 1, ?_⟩)
      refine K1 _ _ k p hk (by omega) z ar' (fun y hy => ih (p + 1) ar (by omega) hJ _ (fun j hj => ?_) (fun _ p' m q a b c e => ?_)) (Vf phi k) 0 _ 0 (by omega) (fun q hq => ?_) (fun m q m1 m2 => ?_)
      · rw [pk_un (by omega)]; exact g1 j hj
      · by_cases w : p' = p
        · rw [w, pk_us]; rw [w] at e; exact hy m q b c e
        · rw [pk_un (by omega)]; exact g2 z p' m q (by omega) b c e
      · have hq : q = p := hq
        rw [hq, tg_sh (by omega)]; simp
      · obtain ⟨_, _, _, v3⟩ := q_f (hp k hk)
        obtain ⟨_, _, _, _, v8, _, _⟩ := v3 z
        omega
  have K3 : ∀ d k ar, k + d = P → (∀ k', k' < k → ¬ pam k' = 0 → ar_ pam plo phi (fe_ eT yfr yto yty pam pdi) ar k') → wX_findArrivals_2 post nT eT xlv (nI P) xqc xcc xec mc lw rc (d + 1) (nI k) xla xpr xed sN sE sL sP sD pva pwa pam pdi plo phi ptk pco pex tr ds ch ar rN rM s1 s2 s3 s4 s5 := by
    intro d
    induction d with
    | zero =>
      intro k ar hk g
      have z : k = P := by omega
      subst z
      exact br_t (nI_le (by omega) (by omega)) (h ar g)
    | succ d ih =>
      intro k ar hk g
      refine br_f (nI_ge (by omega) (by omega)) ⟨9, K2 _ k (by omega) 8 0 ar (by omega) (fun ar' g1 g2 => ih (k + 1) ar' (by omega) (fun k' hk' ha' => ?_)) ar (fun j hj => rfl) (fun _ p' m q a => absurd a (Nat.not_lt_zero p'))⟩
      by_cases z : k' = k
      · rw [z]; rw [z] at ha'; exact g2 ha'
      · intro p m q a b c e
        rw [g1 _ (by omega)]
        exact g k' (by omega) ha' p m q a b c e
  exact ⟨P + 1, K3 P 0 ar (by omega) (fun k' hk' => absurd hk' (Nat.not_lt_zero k'))⟩
