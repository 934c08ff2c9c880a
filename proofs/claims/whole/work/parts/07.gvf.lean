/-! there, begin, commit, rollback -/
theorem tg_sh8 {n i : Nat} (hn : n < 12) : bt ((256 : Int32) <<< (nI n &&& 31)) i = decide (i = n + 8) := by
  rcases Nat.lt_or_ge i 32 with h | h
  · rw [b_shl n (by omega) 256 h]
    have q : ∀ j, j < 32 → bt 256 j = decide (j = 8) := by decide +kernel
    by_cases z : n ≤ i
    · rw [q (i - n) (by omega), decide_eq_true z, Bool.true_and, decide_eq_decide]; omega
    · rw [decide_eq_false z, Bool.false_and, eq_comm, decide_eq_false_iff_not]; omega
  · rw [b_big h, decide_eq_false (by omega)]
variable {nT : Int32} {eT : Int32} {xlv : Int32} {xpc : Int32} {xqc : Int32} {xcc : Int32} {xec : Int32} {mc : Int32} {lw : Int32} {rc : Int32} {xla : Nat → Int32} {xpr : Nat → Int64} {xed : Nat → Int32} {sN : Nat → Int32} {sE : Nat → Int32} {sL : Nat → Int32} {sP : Nat → Int64} {sD : Nat → Int32} {pva : Nat → Int32} {pwa : Nat → Int32} {pam : Nat → Int32} {pdi : Nat → Int32} {plo : Nat → Int32} {phi : Nat → Int32} {ptk : Nat → Int32} {pco : Nat → Int32} {pex : Nat → Int32} {tr : Nat → Int32} {ds : Nat → Int32} {ch : Nat → Int32} {ar : Nat → Int32} {rN : Nat → Int32} {rM : Nat → Int32} {s1 : Nat → Int32} {s2 : Nat → Int32} {s3 : Nat → Int32} {s4 : Nat → Int32} {s5 : Nat → Int32}
variable {ylv : Int32} {ypc : Int32} {yqc : Int32} {ycc : Int32} {yec : Int32} {yde : Int32} {yus : Int32} {ywe : Int32} {yfo : Int32} {yli : Int32} {yso : Int32} {ysu : Int64} {yla : Nat → Int32} {ypr : Nat → Int64} {yfr : Nat → Int32} {yto : Nat → Int32} {yty : Nat → Int32} {ywt : Nat → Int32} {yst : Nat → Int32} {ypa : Nat → Int32} {ysp : Nat → Int32} {ypl : Nat → Int32} {ycp : Nat → Int32} {ybo : Nat → Int32} {ytk : Nat → Int32} {yno : Nat → Int32} {ych : Nat → Int32} {yfa : Nat → Int32}
theorem tg_yth2 {post : Int32 → Prop} (hR : gr_R nT eT xla xpr xed yla ypr yfr yto yty ywt) {s : Int32} (h : ∀ x, (∀ b, bt x b = (bt s b || (decide (8 ≤ b) && bt eT (b - 8)))) → post x) : ∀ d i x, i + d = 12 → (∀ b, bt x b = (bt s b || (decide (8 ≤ b ∧ b < i + 8) && bt eT (b - 8)))) → wY_there_38 post ylv ypc yqc ycc yec yde yus ywe yfo yli yso ysu yla ypr yfr yto yty ywt pva pwa pam pdi plo phi ptk pco pex yst ypa ysp ypl ycp ybo ytk yno ych yfa (d + 1) x (nI i) := by
  intro d
  induction d with
  | zero =>
    intro i x hi hx
    refine br_t (nI_le (a := 12) (by omega) (by omega)) (h x (fun b => ?_))
    rw [hx b]
    by_cases z : b < i + 8
    · rw [show decide (8 ≤ b ∧ b < i + 8) = decide (8 ≤ b) from by simp only [decide_eq_decide]; omega]
    · rw [hR.2.1 (b - 8) (by omega)]; simp
  | succ d ih =>
    intro i x hi hx
    refine br_f (nI_ge (b := 12) (by omega) (by decide)) (tg_yie (by omega) hR (tg_zbr (fun e => nm_r (nI_1 i) (ih (i + 1) x (by omega) (fun b => ?_))) (fun e => nm_e (nm_r (nI_1 i) (ih (i + 1) _ (by omega) (fun b => ?_))))))
    · rw [hx b]
      by_cases z : b = i + 8
      · subst z; rw [show i + 8 - 8 = i from by omega, e]; simp
      · rw [show decide (8 ≤ b ∧ b < i + 1 + 8) = decide (8 ≤ b ∧ b < i + 8) from by simp only [decide_eq_decide]; omega]
    · rw [b_or, tg_sh8 (by omega), hx b]
      by_cases z : b = i + 8
      · subst z; rw [show i + 8 - 8 = i from by omega, e]; simp
      · rw [show decide (8 ≤ b ∧ b < i + 1 + 8) = decide (8 ≤ b ∧ b < i + 8) from by simp only [decide_eq_decide]; omega, decide_eq_false z, Bool.or_false]
theorem tg_yth1 {post : Int32 → Prop} (hR : gr_R nT eT xla xpr xed yla ypr yfr yto yty ywt) {s : Int32} (h : ∀ x, (∀ b, bt x b = ((bt s b || bt nT b) || (decide (8 ≤ b) && bt eT (b - 8)))) → post x) : ∀ d i x, i + d = 8 → (∀ b, bt x b = (bt s b || (decide (b < i) && bt nT b))) → wY_there_10 post ylv ypc yqc ycc yec yde yus ywe yfo yli yso ysu yla ypr yfr yto yty ywt pva pwa pam pdi plo phi ptk pco pex yst ypa ysp ypl ycp ybo ytk yno ych yfa (d + 1) x (nI i) := by
  intro d
  induction d with
  | zero =>
    intro i x hi hx
    refine br_t (nI_le (a := 8) (by omega) (by omega)) ⟨13, tg_yth2 hR (s := x) (fun y hy => h y (fun b => ?_)) 12 0 x (by omega) (fun b => ?_)⟩
    · rw [hy b, hx b]
      by_cases z : b < i
      · rw [decide_eq_true z, Bool.true_and]
      · rw [hR.1 b (by omega)]; simp
    · rw [decide_eq_false (by omega), Bool.false_and, Bool.or_false]
  | succ d ih =>
    intro i x hi hx
    refine br_f (nI_ge (b := 8) (by omega) (by decide)) (tg_yin (by omega) hR (tg_zbr (fun e => nm_r (nI_1 i) (ih (i + 1) x (by omega) (fun b => ?_))) (fun e => nm_e (nm_r (nI_1 i) (ih (i + 1) _ (by omega) (fun b => ?_))))))
    · rw [hx b]
      by_cases z : b = i
      · subst z; rw [e]; simp
      · rw [show decide (b < i + 1) = decide (b < i) from by simp only [decide_eq_decide]; omega]
    · rw [tg_or x (by omega), hx b]
      by_cases z : b = i
      · subst z; rw [e]; simp
      · rw [show decide (b < i + 1) = decide (b < i) from by simp only [decide_eq_decide]; omega, decide_eq_false z, Bool.or_false]
theorem i_vc_there {k : Nat} {u : SX} {v : SY} (I : i_Rel k u v) (hk : k + 7 ≤ 3584) : wpX_there (fun r => wpY_there (fun r' => r' = r ∧ i_Rel (k + 7) u v) v) u := by
  obtain ⟨nT, eT, xlv, xpc, xqc, xcc, xec, mc, lw, rc, xla, xpr, xed, sN, sE, sL, sP, sD, pva, pwa, pam, pdi, plo, phi, ptk, pco, pex, tr, ds, ch, ar, rN, rM, s1, s2, s3, s4, s5⟩ := u
  obtain ⟨ylv, ypc, yqc, ycc, yec, yde, yus, ywe, yfo, yli, yso, ysu, yla, ypr, yfr, yto, yty, ywt, qpva, qpwa, qpam, qpdi, qplo, qphi, qptk, qpco, qpex, yst, ypa, ysp, ypl, ycp, ybo, ytk, yno, ych, yfa⟩ := v
  obtain ⟨⟨rfl, rfl, rfl, rfl, rfl, rfl, rfl, rfl, rfl⟩, hG, hQ, hT, hC, hE⟩ := I
  obtain ⟨hR, L, hL, rfl, rfl, hS⟩ := hG
  have J := rl_mk (k + 7) (mc := mc) (lw := lw) (rc := rc) (tr := tr) (ds := ds) (ch := ch) (ar := ar) (rN := rN) (rM := rM) (s1 := s1) (s2 := s2) (s3 := s3) (s4 := s4) (s5 := s5) (yde := yde) (yus := yus) (ywe := ywe) (yfo := yfo) (yli := yli) (yso := yso) (ysu := ysu) (yst := yst) (ypa := ypa) (ysp := ysp) (ypl := ypl) (ycp := ycp) (ybo := ybo) (ytk := ytk) (yno := yno) (ych := ych) (yfa := yfa) ⟨hR, L, hL, rfl, rfl, hS⟩ hQ hT hC hE
  unfold wpX_there wpY_there
  refine nm_e ⟨9, tg_yth1 hR (s := nI L <<< ((20 : Int32) &&& 31)) (fun x hx => ⟨?_, J⟩) 8 0 _ (by omega) (fun b => by simp)⟩
  apply b_ext
  intro i hi
  rw [hx i, b_or, b_or, b_shl8 eT hi]
  cases bt (nI L <<< ((20 : Int32) &&& 31)) i <;> cases bt nT i <;> simp
/-! begin, commit, rollback -/
theorem tg_ix {p i w : Nat} : nI p * nI w + nI i = nI (p * w + i) := by rw [pk_mul, nI_add]
theorem tg_iy {p i w : Nat} : nI w * nI p + nI i = nI (w * p + i) := by rw [pk_mul, nI_add]
theorem tg_xsv2 {post : SX → Prop} {p : Nat} (hp : p < 4) (h : ∀ sD', (∀ e, e < 12 → sD' (p * 12 + e) = xed e) → (∀ j, (j < p * 12 ∨ p * 12 + 12 ≤ j) → sD' j = sD j) → post (nT, eT, xlv, xpc, xqc, xcc, xec, mc, lw, rc, xla, xpr, xed, sN, sE, sL, sP, sD', pva, pwa, pam, pdi, plo, phi, ptk, pco, pex, tr, ds, ch, ar, rN, rM, s1, s2, s3, s4, s5)) : ∀ d i sD', i + d = 12 → (∀ e, e < i → sD' (p * 12 + e) = xed e) → (∀ j, (j < p * 12 ∨ p * 12 + i ≤ j) → sD' j = sD j) → wX_saveGraph_70 post (nI p) nT eT xlv xpc xqc xcc xec mc lw rc (d + 1) (nI i) xla xpr xed sN sE sL sP sD' pva pwa pam pdi plo phi ptk pco pex tr ds ch ar rN rM s1 s2 s3 s4 s5 := by
  intro d
  induction d with
  | zero =>
    intro i s hi k1 k2
    have e : i = 12 := by omega
    subst e
    exact br_t (nI_le (a := 12) (by omega) (by omega)) (h s k1 k2)
  | succ d ih =>
    intro i s hi k1 k2
    have e1 : nI p * 12 + nI i = nI (p * 12 + i) := tg_ix
    refine br_f (nI_ge (b := 12) (by omega) (by decide)) ⟨vp_in_nI (by omega) (by omega), ?_⟩
    rw [e1, nI_clamp (show i < 2 ^ 31 by omega)]
    refine ⟨vp_in_nI (by omega) (by omega), nm_r (tg_u (by omega)) (nm_r (nI_1 i) (ih (i + 1) _ (by omega) (fun e he => ?_) (fun j hj => ?_)))⟩
    · by_cases q : e = i
      · subst q; exact pk_us
      · rw [pk_un (by omega)]; exact k1 e (by omega)
    · rw [pk_un (by omega)]; exact k2 j (by omega)
theorem tg_xsv1 {post : SX → Prop} {p : Nat} (hp : p < 4) (h : ∀ (sL' : Nat → Int32) (sP' : Nat → Int64) (sD' : Nat → Int32), (∀ n, n < 8 → sL' (p * 8 + n) = xla n ∧ sP' (p * 8 + n) = xpr n) → (∀ j, (j < p * 8 ∨ p * 8 + 8 ≤ j) → sL' j = sL j ∧ sP' j = sP j) → (∀ e, e < 12 → sD' (p * 12 + e) = xed e) → (∀ j, (j < p * 12 ∨ p * 12 + 12 ≤ j) → sD' j = sD j) → post (nT, eT, xlv, xpc, xqc, xcc, xec, mc, lw, rc, xla, xpr, xed, sN, sE, sL', sP', sD', pva, pwa, pam, pdi, plo, phi, ptk, pco, pex, tr, ds, ch, ar, rN, rM, s1, s2, s3, s4, s5)) : ∀ d i (sL' : Nat → Int32) (sP' : Nat → Int64), i + d = 8 → (∀ n, n < i → sL' (p * 8 + n) = xla n ∧ sP' (p * 8 + n) = xpr n) → (∀ j, (j < p * 8 ∨ p * 8 + i ≤ j) → sL' j = sL j ∧ sP' j = sP j) → wX_saveGraph_22 post (nI p) nT eT xlv xpc xqc xcc xec mc lw rc (d + 1) (nI i) xla xpr xed sN sE sL' sP' sD pva pwa pam pdi plo phi ptk pco pex tr ds ch ar rN rM s1 s2 s3 s4 s5 := by
  intro d
  induction d with
  | zero =>
    intro i a b hi k1 k2
    have e : i = 8 := by omega
    subst e
    exact br_t (nI_le (a := 8) (by omega) (by omega)) ⟨13, tg_xsv2 hp (fun sD' q1 q2 => h a b sD' k1 k2 q1 q2) 12 0 sD (by omega) (fun e he => absurd he (Nat.not_lt_zero e)) (fun j hj => rfl)⟩
  | succ d ih =>
    intro i a b hi k1 k2
    have e1 : nI p * 8 + nI i = nI (p * 8 + i) := tg_ix
    refine br_f (nI_ge (b := 8) (by omega) (by decide)) ⟨vp_in_nI (by omega) (by omega), ?_⟩
    rw [e1, nI_clamp (show i < 2 ^ 31 by omega)]
    have w : vp_in (nI (p * 8 + i)) 32 := vp_in_nI (by omega) (by omega)
    refine ⟨w, nm_r (tg_u (by omega)) ⟨vp_in_nI (by omega) (by omega), w, nm_r (tg_uL (by omega)) (nm_r (nI_1 i) (ih (i + 1) _ _ (by omega) (fun e he => ?_) (fun j hj => ?_)))⟩⟩
    · by_cases q : e = i
      · subst q; exact ⟨pk_us, pk_uLs⟩
      · rw [pk_un (by omega), pk_uLn (by omega)]; exact k1 e (by omega)
    · rw [pk_un (by omega), pk_uLn (by omega)]; exact k2 j (by omega)
theorem tg_xsv {post : SX → Prop} {p : Nat} (hp : p < 4) (h : ∀ (sL' : Nat → Int32) (sP' : Nat → Int64) (sD' : Nat → Int32), (∀ n, n < 8 → sL' (p * 8 + n) = xla n ∧ sP' (p * 8 + n) = xpr n) → (∀ j, (j < p * 8 ∨ p * 8 + 8 ≤ j) → sL' j = sL j ∧ sP' j = sP j) → (∀ e, e < 12 → sD' (p * 12 + e) = xed e) → (∀ j, (j < p * 12 ∨ p * 12 + 12 ≤ j) → sD' j = sD j) → post (nT, eT, xlv, xpc, xqc, xcc, xec, mc, lw, rc, xla, xpr, xed, (upd sN p nT), (upd sE p eT), sL', sP', sD', pva, pwa, pam, pdi, plo, phi, ptk, pco, pex, tr, ds, ch, ar, rN, rM, s1, s2, s3, s4, s5)) : wpX_saveGraph post (nT, eT, xlv, xpc, xqc, xcc, xec, mc, lw, rc, xla, xpr, xed, sN, sE, sL, sP, sD, pva, pwa, pam, pdi, plo, phi, ptk, pco, pex, tr, ds, ch, ar, rN, rM, s1, s2, s3, s4, s5) (nI p) :=
  ⟨vp_in_nI hp (by decide), nm_r (tg_u (by omega)) ⟨vp_in_nI hp (by decide), nm_r (tg_u (by omega)) ⟨9, tg_xsv1 hp h 8 0 sL sP (by omega) (fun e he => absurd he (Nat.not_lt_zero e)) (fun j hj => ⟨rfl, rfl⟩)⟩⟩⟩
theorem tg_xrs2 {post : SX → Prop} {p : Nat} (hp : p < 4) (h : ∀ ed', (∀ e, e < 12 → ed' e = sD (p * 12 + e)) → post (nT, eT, xlv, xpc, xqc, xcc, xec, mc, lw, rc, xla, xpr, ed', sN, sE, sL, sP, sD, pva, pwa, pam, pdi, plo, phi, ptk, pco, pex, tr, ds, ch, ar, rN, rM, s1, s2, s3, s4, s5)) : ∀ d i ed', i + d = 12 → (∀ e, e < i → ed' e = sD (p * 12 + e)) → wX_restoreGraph_70 post (nI p) nT eT xlv xpc xqc xcc xec mc lw rc (d + 1) (nI i) xla xpr ed' sN sE sL sP sD pva pwa pam pdi plo phi ptk pco pex tr ds ch ar rN rM s1 s2 s3 s4 s5 := by
  intro d
  induction d with
  | zero =>
    intro i s hi k1
    have e : i = 12 := by omega
    subst e
    exact br_t (nI_le (a := 12) (by omega) (by omega)) (h s k1)
  | succ d ih =>
    intro i s hi k1
    have e1 : nI p * 12 + nI i = nI (p * 12 + i) := tg_ix
    refine br_f (nI_ge (b := 12) (by omega) (by decide)) ?_
    rw [e1, nI_clamp (show p * 12 + i < 2 ^ 31 by omega)]
    refine ⟨vp_in_nI (by omega) (by omega), vp_in_nI (by omega) (by omega), nm_r (tg_u (by omega)) (nm_r (nI_1 i) (ih (i + 1) _ (by omega) (fun e he => ?_)))⟩
    by_cases q : e = i
    · subst q; exact pk_us
    · rw [pk_un (by omega)]; exact k1 e (by omega)
theorem tg_xrs1 {post : SX → Prop} {p : Nat} (hp : p < 4) (h : ∀ (la' : Nat → Int32) (pr' : Nat → Int64) (ed' : Nat → Int32), (∀ n, n < 8 → la' n = sL (p * 8 + n) ∧ pr' n = sP (p * 8 + n)) → (∀ e, e < 12 → ed' e = sD (p * 12 + e)) → post (nT, eT, xlv, xpc, xqc, xcc, xec, mc, lw, rc, la', pr', ed', sN, sE, sL, sP, sD, pva, pwa, pam, pdi, plo, phi, ptk, pco, pex, tr, ds, ch, ar, rN, rM, s1, s2, s3, s4, s5)) : ∀ d i (la' : Nat → Int32) (pr' : Nat → Int64), i + d = 8 → (∀ n, n < i → la' n = sL (p * 8 + n) ∧ pr' n = sP (p * 8 + n)) → wX_restoreGraph_22 post (nI p) nT eT xlv xpc xqc xcc xec mc lw rc (d + 1) (nI i) la' pr' xed sN sE sL sP sD pva pwa pam pdi plo phi ptk pco pex tr ds ch ar rN rM s1 s2 s3 s4 s5 := by
  intro d
  induction d with
  | zero =>
    intro i a b hi k1
    have e : i = 8 := by omega
    subst e
    exact br_t (nI_le (a := 8) (by omega) (by omega)) ⟨13, tg_xrs2 hp (fun ed' q1 => h a b ed' k1 q1) 12 0 xed (by omega) (fun e he => absurd he (Nat.not_lt_zero e))⟩
  | succ d ih =>
    intro i a b hi k1
    have e1 : nI p * 8 + nI i = nI (p * 8 + i) := tg_ix
    refine br_f (nI_ge (b := 8) (by omega) (by decide)) ?_
    rw [e1, nI_clamp (show p * 8 + i < 2 ^ 31 by omega)]
    have w : vp_in (nI (p * 8 + i)) 32 := vp_in_nI (by omega) (by omega)
    have w2 : vp_in (nI i) 8 := vp_in_nI (by omega) (by omega)
    refine ⟨w, w2, nm_r (tg_u (by omega)) ⟨w, w2, nm_r (tg_uL (by omega)) (nm_r (nI_1 i) (ih (i + 1) _ _ (by omega) (fun e he => ?_)))⟩⟩
    by_cases q : e = i
    · subst q; exact ⟨pk_us, pk_uLs⟩
    · rw [pk_un (by omega), pk_uLn (by omega)]; exact k1 e (by omega)
theorem tg_xrs {post : SX → Prop} {p : Nat} (hp : p < 4) (h : ∀ (la' : Nat → Int32) (pr' : Nat → Int64) (ed' : Nat → Int32), (∀ n, n < 8 → la' n = sL (p * 8 + n) ∧ pr' n = sP (p * 8 + n)) → (∀ e, e < 12 → ed' e = sD (p * 12 + e)) → post ((sN p), (sE p), xlv, xpc, xqc, xcc, xec, mc, lw, rc, la', pr', ed', sN, sE, sL, sP, sD, pva, pwa, pam, pdi, plo, phi, ptk, pco, pex, tr, ds, ch, ar, rN, rM, s1, s2, s3, s4, s5)) : wpX_restoreGraph post (nT, eT, xlv, xpc, xqc, xcc, xec, mc, lw, rc, xla, xpr, xed, sN, sE, sL, sP, sD, pva, pwa, pam, pdi, plo, phi, ptk, pco, pex, tr, ds, ch, ar, rN, rM, s1, s2, s3, s4, s5) (nI p) :=
  ⟨vp_in_nI hp (by decide), nm_r (by rw [nI_clamp (by omega)]) ⟨vp_in_nI hp (by decide), nm_r (by rw [nI_clamp (by omega)]) ⟨9, tg_xrs1 hp h 8 0 xla xpr (by omega) (fun e he => absurd he (Nat.not_lt_zero e))⟩⟩⟩
/-- what Y's copy from level a to level b leaves: the cells from w * b on hold those from w * a on, for the first i of them -/
def cp_I {α : Type} (w a b i : Nat) (f f' : Nat → α) : Prop := (∀ n, n < i → f' (w * b + n) = f (w * a + n)) ∧ ∀ j, (j < w * b ∨ w * b + i ≤ j) → f' j = f j
theorem cp_0 {α : Type} (w a b : Nat) (f : Nat → α) : cp_I w a b 0 f f := ⟨fun n h => absurd h (Nat.not_lt_zero n), fun _ _ => rfl⟩
theorem cp_s {w a b i : Nat} {f f' : Nat → Int32} (h : cp_I w a b i f f') (hi : i < w) (hab : a < b ∨ b < a) : cp_I w a b (i + 1) f (upd f' (w * b + i) (f' (w * a + i))) := by
  have hw : w * a + w ≤ w * b ∨ w * b + w ≤ w * a := by
    rcases hab with h | h
    · left; rw [← Nat.mul_succ]; exact Nat.mul_le_mul_left w h
    · right; rw [← Nat.mul_succ]; exact Nat.mul_le_mul_left w h
  have e : f' (w * a + i) = f (w * a + i) := h.2 _ (by omega)
  rw [e]
  refine ⟨fun n hn => ?_, fun j hj => ?_⟩
  · by_cases q : n = i
    · subst q; exact pk_us
    · rw [pk_un (by omega)]; exact h.1 n (by omega)
  · rw [pk_un (by omega)]; exact h.2 j (by omega)
theorem cp_sL {w a b i : Nat} {f f' : Nat → Int64} (h : cp_I w a b i f f') (hi : i < w) (hab : a < b ∨ b < a) : cp_I w a b (i + 1) f (vp_updL f' (w * b + i) (f' (w * a + i))) := by
  have hw : w * a + w ≤ w * b ∨ w * b + w ≤ w * a := by
    rcases hab with h | h
    · left; rw [← Nat.mul_succ]; exact Nat.mul_le_mul_left w h
    · right; rw [← Nat.mul_succ]; exact Nat.mul_le_mul_left w h
  have e : f' (w * a + i) = f (w * a + i) := h.2 _ (by omega)
  rw [e]
  refine ⟨fun n hn => ?_, fun j hj => ?_⟩
  · by_cases q : n = i
    · subst q; exact pk_uLs
    · rw [pk_uLn (by omega)]; exact h.1 n (by omega)
  · rw [pk_uLn (by omega)]; exact h.2 j (by omega)
theorem tg_ycp2 {post : SY → Prop} {a b : Nat} (ha : a < 5) (hb : b < 5) (hab : a < b ∨ b < a) (h : ∀ f1 f2 f3 f4, cp_I 12 a b 12 yfr f1 → cp_I 12 a b 12 yto f2 → cp_I 12 a b 12 yty f3 → cp_I 12 a b 12 ywt f4 → post (ylv, ypc, yqc, ycc, yec, yde, yus, ywe, yfo, yli, yso, ysu, yla, ypr, f1, f2, f3, f4, pva, pwa, pam, pdi, plo, phi, ptk, pco, pex, yst, ypa, ysp, ypl, ycp, ybo, ytk, yno, ych, yfa)) : ∀ d i f1 f2 f3 f4, i + d = 12 → cp_I 12 a b i yfr f1 → cp_I 12 a b i yto f2 → cp_I 12 a b i yty f3 → cp_I 12 a b i ywt f4 → wY_copy_60 post (nI a) (nI b) ylv ypc yqc ycc yec yde yus ywe yfo yli yso ysu (d + 1) (nI i) yla ypr f1 f2 f3 f4 pva pwa pam pdi plo phi ptk pco pex yst ypa ysp ypl ycp ybo ytk yno ych yfa := by
  intro d
  induction d with
  | zero =>
    intro i f1 f2 f3 f4 hi c1 c2 c3 c4
    have e : i = 12 := by omega
    subst e
    exact br_t (nI_le (a := 12) (by omega) (by omega)) (h f1 f2 f3 f4 c1 c2 c3 c4)
  | succ d ih =>
    intro i f1 f2 f3 f4 hi c1 c2 c3 c4
    have e1 : 12 * nI a + nI i = nI (12 * a + i) := tg_iy
    have e2 : 12 * nI b + nI i = nI (12 * b + i) := tg_iy
    refine br_f (nI_ge (b := 12) (by omega) (by decide)) ?_
    rw [e1, e2, nI_clamp (show 12 * a + i < 2 ^ 31 by omega)]
    have w1 : vp_in (nI (12 * a + i)) 60 := vp_in_nI (by omega) (by omega)
    have w2 : vp_in (nI (12 * b + i)) 60 := vp_in_nI (by omega) (by omega)
    exact ⟨w1, w2, nm_r (tg_u (by omega)) ⟨w1, w2, nm_r (tg_u (by omega)) ⟨w1, w2, nm_r (tg_u (by omega)) ⟨w1, w2, nm_r (tg_u (by omega)) (nm_r (nI_1 i) (ih (i + 1) _ _ _ _ (by omega) (cp_s c1 (by omega) hab) (cp_s c2 (by omega) hab) (cp_s c3 (by omega) hab) (cp_s c4 (by omega) hab)))⟩⟩⟩⟩
theorem tg_ycp1 {post : SY → Prop} {a b : Nat} (ha : a < 5) (hb : b < 5) (hab : a < b ∨ b < a) (h : ∀ (g1 : Nat → Int32) (g2 : Nat → Int64) f1 f2 f3 f4, cp_I 8 a b 8 yla g1 → cp_I 8 a b 8 ypr g2 → cp_I 12 a b 12 yfr f1 → cp_I 12 a b 12 yto f2 → cp_I 12 a b 12 yty f3 → cp_I 12 a b 12 ywt f4 → post (ylv, ypc, yqc, ycc, yec, yde, yus, ywe, yfo, yli, yso, ysu, g1, g2, f1, f2, f3, f4, pva, pwa, pam, pdi, plo, phi, ptk, pco, pex, yst, ypa, ysp, ypl, ycp, ybo, ytk, yno, ych, yfa)) : ∀ d i (g1 : Nat → Int32) (g2 : Nat → Int64), i + d = 8 → cp_I 8 a b i yla g1 → cp_I 8 a b i ypr g2 → wY_copy_2 post (nI a) (nI b) ylv ypc yqc ycc yec yde yus ywe yfo yli yso ysu (d + 1) (nI i) g1 g2 yfr yto yty ywt pva pwa pam pdi plo phi ptk pco pex yst ypa ysp ypl ycp ybo ytk yno ych yfa := by
  intro d
  induction d with
  | zero =>
    intro i g1 g2 hi c1 c2
    have e : i = 8 := by omega
    subst e
    exact br_t (nI_le (a := 8) (by omega) (by omega)) ⟨13, tg_ycp2 ha hb hab (fun f1 f2 f3 f4 q1 q2 q3 q4 => h g1 g2 f1 f2 f3 f4 c1 c2 q1 q2 q3 q4) 12 0 yfr yto yty ywt (by omega) (cp_0 _ _ _ _) (cp_0 _ _ _ _) (cp_0 _ _ _ _) (cp_0 _ _ _ _)⟩
  | succ d ih =>
    intro i g1 g2 hi c1 c2
    have e1 : 8 * nI a + nI i = nI (8 * a + i) := tg_iy
    have e2 : 8 * nI b + nI i = nI (8 * b + i) := tg_iy
    refine br_f (nI_ge (b := 8) (by omega) (by decide)) ?_
    rw [e1, e2, nI_clamp (show 8 * a + i < 2 ^ 31 by omega)]
    have w1 : vp_in (nI (8 * a + i)) 40 := vp_in_nI (by omega) (by omega)
    have w2 : vp_in (nI (8 * b + i)) 40 := vp_in_nI (by omega) (by omega)
    exact ⟨w1, w2, nm_r (tg_u (by omega)) ⟨w1, w2, nm_r (tg_uL (by omega)) (nm_r (nI_1 i) (ih (i + 1) _ _ (by omega) (cp_s c1 (by omega) hab) (cp_sL c2 (by omega) hab)))⟩⟩
theorem tg_ycp {post : SY → Prop} {a b : Nat} (ha : a < 5) (hb : b < 5) (hab : a < b ∨ b < a) (h : ∀ (g1 : Nat → Int32) (g2 : Nat → Int64) f1 f2 f3 f4, cp_I 8 a b 8 yla g1 → cp_I 8 a b 8 ypr g2 → cp_I 12 a b 12 yfr f1 → cp_I 12 a b 12 yto f2 → cp_I 12 a b 12 yty f3 → cp_I 12 a b 12 ywt f4 → post (ylv, ypc, yqc, ycc, yec, yde, yus, ywe, yfo, yli, yso, ysu, g1, g2, f1, f2, f3, f4, pva, pwa, pam, pdi, plo, phi, ptk, pco, pex, yst, ypa, ysp, ypl, ycp, ybo, ytk, yno, ych, yfa)) : wpY_copy post (ylv, ypc, yqc, ycc, yec, yde, yus, ywe, yfo, yli, yso, ysu, yla, ypr, yfr, yto, yty, ywt, pva, pwa, pam, pdi, plo, phi, ptk, pco, pex, yst, ypa, ysp, ypl, ycp, ybo, ytk, yno, ych, yfa) (nI a) (nI b) :=
  ⟨9, tg_ycp1 ha hb hab h 8 0 yla ypr (by omega) (cp_0 _ _ _ _) (cp_0 _ _ _ _)⟩
