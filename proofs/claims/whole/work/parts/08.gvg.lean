/-! begin, commit, rollback -/
variable {nT : Int32} {eT : Int32} {xlv : Int32} {xpc : Int32} {xqc : Int32} {xcc : Int32} {xec : Int32} {mc : Int32} {lw : Int32} {rc : Int32} {xla : Nat → Int32} {xpr : Nat → Int64} {xed : Nat → Int32} {sN : Nat → Int32} {sE : Nat → Int32} {sL : Nat → Int32} {sP : Nat → Int64} {sD : Nat → Int32} {pva : Nat → Int32} {pwa : Nat → Int32} {pam : Nat → Int32} {pdi : Nat → Int32} {plo : Nat → Int32} {phi : Nat → Int32} {ptk : Nat → Int32} {pco : Nat → Int32} {pex : Nat → Int32} {tr : Nat → Int32} {ds : Nat → Int32} {ch : Nat → Int32} {ar : Nat → Int32} {rN : Nat → Int32} {rM : Nat → Int32} {s1 : Nat → Int32} {s2 : Nat → Int32} {s3 : Nat → Int32} {s4 : Nat → Int32} {s5 : Nat → Int32}
variable {ylv : Int32} {ypc : Int32} {yqc : Int32} {ycc : Int32} {yec : Int32} {yde : Int32} {yus : Int32} {ywe : Int32} {yfo : Int32} {yli : Int32} {yso : Int32} {ysu : Int64} {yla : Nat → Int32} {ypr : Nat → Int64} {yfr : Nat → Int32} {yto : Nat → Int32} {yty : Nat → Int32} {ywt : Nat → Int32} {yst : Nat → Int32} {ypa : Nat → Int32} {ysp : Nat → Int32} {ypl : Nat → Int32} {ycp : Nat → Int32} {ybo : Nat → Int32} {ytk : Nat → Int32} {yno : Nat → Int32} {ych : Nat → Int32} {yfa : Nat → Int32}
theorem gr_push {L : Nat} {sL' : Nat → Int32} {sP' : Nat → Int64} {sD' g1 : Nat → Int32} {g2 : Nat → Int64} {f1 f2 f3 f4 : Nat → Int32} (hR : gr_R nT eT xla xpr xed yla ypr yfr yto yty ywt) (hS : gr_S L sN sE sL sP sD yla ypr yfr yto yty ywt)
    (q1 : ∀ n, n < 8 → sL' (L * 8 + n) = xla n ∧ sP' (L * 8 + n) = xpr n) (q2 : ∀ j, (j < L * 8 ∨ L * 8 + 8 ≤ j) → sL' j = sL j ∧ sP' j = sP j) (q3 : ∀ e, e < 12 → sD' (L * 12 + e) = xed e) (q4 : ∀ j, (j < L * 12 ∨ L * 12 + 12 ≤ j) → sD' j = sD j)
    (c1 : cp_I 8 0 (L + 1) 8 yla g1) (c2 : cp_I 8 0 (L + 1) 8 ypr g2) (c3 : cp_I 12 0 (L + 1) 12 yfr f1) (c4 : cp_I 12 0 (L + 1) 12 yto f2) (c5 : cp_I 12 0 (L + 1) 12 yty f3) (c6 : cp_I 12 0 (L + 1) 12 ywt f4) :
    gr_R nT eT xla xpr xed g1 g2 f1 f2 f3 f4 ∧ gr_S (L + 1) (upd sN L nT) (upd sE L eT) sL' sP' sD' g1 g2 f1 f2 f3 f4 := by
  refine ⟨gr_cong hR (fun n hn => ⟨rfl, rfl, c1.2 n (by omega), c2.2 n (by omega)⟩) (fun e he => ⟨rfl, c3.2 e (by omega), c4.2 e (by omega), c5.2 e (by omega), c6.2 e (by omega)⟩), fun b hb => ?_⟩
  by_cases z : b = L
  · subst z
    rw [pk_us, pk_us]
    refine gr_cong hR (fun n hn => ⟨(q1 n hn).1, (q1 n hn).2, ?_, ?_⟩) (fun e he => ⟨q3 e he, ?_, ?_, ?_, ?_⟩)
    · have := c1.1 n hn; rw [show 8 * 0 + n = n from by omega] at this; exact this
    · have := c2.1 n hn; rw [show 8 * 0 + n = n from by omega] at this; exact this
    · have := c3.1 e he; rw [show 12 * 0 + e = e from by omega] at this; exact this
    · have := c4.1 e he; rw [show 12 * 0 + e = e from by omega] at this; exact this
    · have := c5.1 e he; rw [show 12 * 0 + e = e from by omega] at this; exact this
    · have := c6.1 e he; rw [show 12 * 0 + e = e from by omega] at this; exact this
  · rw [pk_un z, pk_un z]
    exact gr_cong (hS b (by omega)) (fun n hn => ⟨(q2 _ (by omega)).1, (q2 _ (by omega)).2, c1.2 _ (by omega), c2.2 _ (by omega)⟩) (fun e he => ⟨q4 _ (by omega), c3.2 _ (by omega), c4.2 _ (by omega), c5.2 _ (by omega), c6.2 _ (by omega)⟩)
theorem gr_pop {M : Nat} {la' : Nat → Int32} {pr' : Nat → Int64} {ed' g1 : Nat → Int32} {g2 : Nat → Int64} {f1 f2 f3 f4 : Nat → Int32} (hS : gr_S (M + 1) sN sE sL sP sD yla ypr yfr yto yty ywt)
    (q1 : ∀ n, n < 8 → la' n = sL (M * 8 + n) ∧ pr' n = sP (M * 8 + n)) (q3 : ∀ e, e < 12 → ed' e = sD (M * 12 + e))
    (c1 : cp_I 8 (M + 1) 0 8 yla g1) (c2 : cp_I 8 (M + 1) 0 8 ypr g2) (c3 : cp_I 12 (M + 1) 0 12 yfr f1) (c4 : cp_I 12 (M + 1) 0 12 yto f2) (c5 : cp_I 12 (M + 1) 0 12 yty f3) (c6 : cp_I 12 (M + 1) 0 12 ywt f4) :
    gr_R (sN M) (sE M) la' pr' ed' g1 g2 f1 f2 f3 f4 ∧ gr_S M sN sE sL sP sD g1 g2 f1 f2 f3 f4 := by
  refine ⟨gr_cong (hS M (by omega)) (fun n hn => ⟨(q1 n hn).1, (q1 n hn).2, ?_, ?_⟩) (fun e he => ⟨q3 e he, ?_, ?_, ?_, ?_⟩), ?_⟩
  · have := c1.1 n hn; rw [show 8 * 0 + n = n from by omega] at this; exact this
  · have := c2.1 n hn; rw [show 8 * 0 + n = n from by omega] at this; exact this
  · have := c3.1 e he; rw [show 12 * 0 + e = e from by omega] at this; exact this
  · have := c4.1 e he; rw [show 12 * 0 + e = e from by omega] at this; exact this
  · have := c5.1 e he; rw [show 12 * 0 + e = e from by omega] at this; exact this
  · have := c6.1 e he; rw [show 12 * 0 + e = e from by omega] at this; exact this
  · exact gr_keep (fun b hb => hS b (by omega)) (fun j hj => ⟨c1.2 j (by omega), c2.2 j (by omega)⟩) (fun j hj => ⟨c3.2 j (by omega), c4.2 j (by omega), c5.2 j (by omega), c6.2 j (by omega)⟩)
theorem i_vc_begin {k : Nat} {u : SX} {v : SY} (I : i_Rel k u v) (hk : k + 7 ≤ 3584) : wpX_begin (fun r u' => wpY_begin (fun r' v' => r' = r ∧ i_Rel (k + 7) u' v') v) u := by
  obtain ⟨nT, eT, xlv, xpc, xqc, xcc, xec, mc, lw, rc, xla, xpr, xed, sN, sE, sL, sP, sD, pva, pwa, pam, pdi, plo, phi, ptk, pco, pex, tr, ds, ch, ar, rN, rM, s1, s2, s3, s4, s5⟩ := u
  obtain ⟨ylv, ypc, yqc, ycc, yec, yde, yus, ywe, yfo, yli, yso, ysu, yla, ypr, yfr, yto, yty, ywt, qpva, qpwa, qpam, qpdi, qplo, qphi, qptk, qpco, qpex, yst, ypa, ysp, ypl, ycp, ybo, ytk, yno, ych, yfa⟩ := v
  obtain ⟨⟨rfl, rfl, rfl, rfl, rfl, rfl, rfl, rfl, rfl⟩, hG, hQ, hT, hC, hE⟩ := I
  obtain ⟨hR, L, hL, rfl, rfl, hS⟩ := hG
  unfold wpX_begin wpY_begin
  by_cases z : L < 4
  · have n4 : ¬ nI L = 4 := fun e => by
      have := (nI_eq (b := 4) (by omega) (by omega)).mp e
      omega
    refine br_t (nI_lt (b := 4) z (by decide)) (tg_xsv z (fun sL' sP' sD' q1 q2 q3 q4 => nm_r (nI_1 L) (br_f n4 (nm_r (nI_1 L) (tg_ycp (a := 0) (b := L + 1) (by omega) (by omega) (by omega) (fun g1 g2 f1 f2 f3 f4 c1 c2 c3 c4 c5 c6 => ⟨rfl, ?_⟩))))))
    have P := gr_push hR hS q1 q2 q3 q4 c1 c2 c3 c4 c5 c6
    exact rl_mk _ ⟨P.1, L + 1, by omega, rfl, rfl, P.2⟩ hQ hT hC hE
  · have e : L = 4 := by omega
    subst e
    exact br_f (by decide) (br_t rfl ⟨rfl, rl_mk _ ⟨hR, 4, hL, rfl, rfl, hS⟩ hQ hT hC hE⟩)
theorem i_vc_commit {k : Nat} {u : SX} {v : SY} (I : i_Rel k u v) (hk : k + 7 ≤ 3584) : wpX_commit (fun r u' => wpY_commit (fun r' v' => r' = r ∧ i_Rel (k + 7) u' v') v) u := by
  obtain ⟨nT, eT, xlv, xpc, xqc, xcc, xec, mc, lw, rc, xla, xpr, xed, sN, sE, sL, sP, sD, pva, pwa, pam, pdi, plo, phi, ptk, pco, pex, tr, ds, ch, ar, rN, rM, s1, s2, s3, s4, s5⟩ := u
  obtain ⟨ylv, ypc, yqc, ycc, yec, yde, yus, ywe, yfo, yli, yso, ysu, yla, ypr, yfr, yto, yty, ywt, qpva, qpwa, qpam, qpdi, qplo, qphi, qptk, qpco, qpex, yst, ypa, ysp, ypl, ycp, ybo, ytk, yno, ych, yfa⟩ := v
  obtain ⟨⟨rfl, rfl, rfl, rfl, rfl, rfl, rfl, rfl, rfl⟩, hG, hQ, hT, hC, hE⟩ := I
  obtain ⟨hR, L, hL, rfl, rfl, hS⟩ := hG
  unfold wpX_commit wpY_commit
  cases L with
  | zero => exact br_f (by decide) (br_t rfl ⟨rfl, rl_mk _ ⟨hR, 0, hL, rfl, rfl, hS⟩ hQ hT hC hE⟩)
  | succ M =>
    exact br_t (nI_lt (a := 0) (by omega) (by omega)) (nm_r (nI_pred M) (br_f (nI_ne0 (by omega) (by omega)) (nm_r (nI_pred M) ⟨nI_pred M, rl_mk _ ⟨hR, M, by omega, rfl, rfl, fun b hb => hS b (by omega)⟩ hQ hT hC hE⟩)))
theorem i_vc_rollback {k : Nat} {u : SX} {v : SY} (I : i_Rel k u v) (hk : k + 7 ≤ 3584) : wpX_rollback (fun r u' => wpY_rollback (fun r' v' => r' = r ∧ i_Rel (k + 7) u' v') v) u := by
  obtain ⟨nT, eT, xlv, xpc, xqc, xcc, xec, mc, lw, rc, xla, xpr, xed, sN, sE, sL, sP, sD, pva, pwa, pam, pdi, plo, phi, ptk, pco, pex, tr, ds, ch, ar, rN, rM, s1, s2, s3, s4, s5⟩ := u
  obtain ⟨ylv, ypc, yqc, ycc, yec, yde, yus, ywe, yfo, yli, yso, ysu, yla, ypr, yfr, yto, yty, ywt, qpva, qpwa, qpam, qpdi, qplo, qphi, qptk, qpco, qpex, yst, ypa, ysp, ypl, ycp, ybo, ytk, yno, ych, yfa⟩ := v
  obtain ⟨⟨rfl, rfl, rfl, rfl, rfl, rfl, rfl, rfl, rfl⟩, hG, hQ, hT, hC, hE⟩ := I
  obtain ⟨hR, L, hL, rfl, rfl, hS⟩ := hG
  unfold wpX_rollback wpY_rollback
  cases L with
  | zero => exact br_f (by decide) (br_t rfl ⟨rfl, rl_mk _ ⟨hR, 0, hL, rfl, rfl, hS⟩ hQ hT hC hE⟩)
  | succ M =>
    refine br_t (nI_lt (a := 0) (by omega) (by omega)) (nm_r (nI_pred M) (tg_xrs (by omega) (fun la' pr' ed' q1 q3 => br_f (nI_ne0 (by omega) (by omega)) (tg_ycp (a := M + 1) (b := 0) (by omega) (by omega) (by omega) (fun g1 g2 f1 f2 f3 f4 c1 c2 c3 c4 c5 c6 => nm_r (nI_pred M) ⟨nI_pred M, ?_⟩)))))
    have P := gr_pop hS q1 q3 c1 c2 c3 c4 c5 c6
    exact rl_mk _ ⟨P.1, M, by omega, rfl, rfl, P.2⟩ hQ hT hC hE
