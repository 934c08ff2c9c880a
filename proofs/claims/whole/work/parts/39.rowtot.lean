/-! row -/
variable {nT : Int32} {eT : Int32} {xlv : Int32} {xpc : Int32} {xqc : Int32} {xcc : Int32} {xec : Int32} {mc : Int32} {lw : Int32} {rc : Int32} {xla : Nat → Int32} {xpr : Nat → Int64} {xed : Nat → Int32} {sN : Nat → Int32} {sE : Nat → Int32} {sL : Nat → Int32} {sP : Nat → Int64} {sD : Nat → Int32} {pva : Nat → Int32} {pwa : Nat → Int32} {pam : Nat → Int32} {pdi : Nat → Int32} {plo : Nat → Int32} {phi : Nat → Int32} {ptk : Nat → Int32} {pco : Nat → Int32} {pex : Nat → Int32} {tr : Nat → Int32} {ds : Nat → Int32} {ch : Nat → Int32} {ar : Nat → Int32} {rN : Nat → Int32} {rM : Nat → Int32} {s1 : Nat → Int32} {s2 : Nat → Int32} {s3 : Nat → Int32} {s4 : Nat → Int32} {s5 : Nat → Int32}
variable {ylv : Int32} {ypc : Int32} {yqc : Int32} {ycc : Int32} {yec : Int32} {yde : Int32} {yus : Int32} {ywe : Int32} {yfo : Int32} {yli : Int32} {yso : Int32} {ysu : Int64} {yla : Nat → Int32} {ypr : Nat → Int64} {yfr : Nat → Int32} {yto : Nat → Int32} {yty : Nat → Int32} {ywt : Nat → Int32} {yst : Nat → Int32} {ypa : Nat → Int32} {ysp : Nat → Int32} {ypl : Nat → Int32} {ycp : Nat → Int32} {ybo : Nat → Int32} {ytk : Nat → Int32} {yno : Nat → Int32} {ych : Nat → Int32} {yfa : Nat → Int32}
theorem yr_r {post : Int32 → SY → Prop} {X : Nat → List Int32} {kk v : Nat} (hkk : kk < 2 ^ 31) (hv : v < 4) (hc : ∀ i, i < 4096 → ych i = if X i = [] then 0 else 1) (h1 : ∀ i, i < 4096 → ¬ X i = [] → rr_ X i = kk → post (nI (dg i v)) (ylv, ypc, yqc, ycc, yec, yde, yus, ywe, yfo, yli, yso, ysu, yla, ypr, yfr, yto, yty, ywt, pva, pwa, pam, pdi, plo, phi, ptk, pco, pex, yst, ypa, ysp, ypl, ycp, ybo, ytk, yno, ych, yfa)) (h0 : rr_ X 4096 ≤ kk → post (-1) (ylv, ypc, yqc, ycc, yec, yde, yus, ywe, yfo, yli, yso, ysu, yla, ypr, yfr, yto, yty, ywt, pva, pwa, pam, pdi, plo, phi, ptk, pco, pex, yst, ypa, ysp, ypl, ycp, ybo, ytk, yno, ych, yfa)) : ∀ d i, i + d = 4096 → rr_ X i ≤ kk → wY_row_45 post (nI kk) (nI v) ylv ypc yqc ycc yec yde yus ywe yfo yli yso ysu yla ypr yfr yto yty ywt pva pwa pam pdi plo phi ptk pco pex yst ypa ysp ypl ycp ybo ytk yno ych yfa (d + 1) (nI (rr_ X i)) (nI i) := by
  intro d
  induction d with
  | zero =>
    intro i hi hr
    have e : i = 4096 := by omega
    subst e
    exact br_t (nI_le (a := 4096) (by omega) (by omega)) (h0 hr)
  | succ d ih =>
    intro i hi hr
    have nx := ih (i + 1) (by omega)
    have rn := rr_N X i
    refine br_f (nI_ge (b := 4096) (by omega) (by decide)) ⟨vp_in_nI (by omega) (by omega), ?_⟩
    rw [nI_clamp (by omega), hc i (by omega)]
    by_cases z : X i = []
    · rw [rr_n z] at nx
      rw [if_pos z]
      exact br_t rfl (nm_r (nI_1 i) (nx hr))
    · rw [rr_1 z] at nx
      rw [if_neg z]
      refine br_f tg_10 (br_c (fun e => ?_) (fun e => nm_r (nI_1 _) (nm_r (nI_1 i) (nx ?_))))
      · rw [tg_rowy (by omega) hv]
        exact h1 i (by omega) z ((nI_eq (by omega) hkk).mp e)
      · rcases Nat.lt_or_ge (rr_ X i) kk with q | q
        · exact q
        · exact absurd (by rw [show rr_ X i = kk from by omega]) e
theorem ro_ {post : Int32 → SY → Prop} {P nn kk v : Nat} {c cs os : Nat → Nat} {nu : Nat → Prop} (hP : P ≤ 6) (hp : ∀ k, k < P → qu_P pva pwa pam pdi plo phi k) (hH : qu_H pam phi P ≤ 5) (hR : gr_R nT eT xla xpr xed yla ypr yfr yto yty ywt) (hn : nn ≤ 12) (hco : ∀ k, k < nn → pco k = nI (c k)) (hW : nn = 0 ∨ cd_W c (nm_P pva P) nn cs os nu) (hkk : kk < 2 ^ 31) (hv : v < 4) (hnm : ∃ k, k < P ∧ pva k = nI v)
    (hx : 1000 < sm_ (xf_ P nn nT eT xla pva pwa pam pdi plo phi yfr yto yty ypr c cs) 4096 → ∀ yde yus ywe yfo yli yso ysu (yst ypa ysp ypl ycp ybo ytk yno ych : Nat → Int32), post (-1) (ylv, (nI P), yqc, (nI nn), yec, yde, yus, ywe, yfo, yli, yso, ysu, yla, ypr, yfr, yto, yty, ywt, pva, pwa, pam, pdi, plo, phi, ptk, pco, pex, yst, ypa, ysp, ypl, ycp, ybo, ytk, yno, ych, yfa))
    (h0 : sm_ (xf_ P nn nT eT xla pva pwa pam pdi plo phi yfr yto yty ypr c cs) 4096 ≤ 1000 → rr_ (xf_ P nn nT eT xla pva pwa pam pdi plo phi yfr yto yty ypr c cs) 4096 ≤ kk → ∀ yde yus ywe yfo yli yso ysu (yst ypa ysp ypl ycp ybo ytk yno ych : Nat → Int32), post (-1) (ylv, (nI P), yqc, (nI nn), yec, yde, yus, ywe, yfo, yli, yso, ysu, yla, ypr, yfr, yto, yty, ywt, pva, pwa, pam, pdi, plo, phi, ptk, pco, pex, yst, ypa, ysp, ypl, ycp, ybo, ytk, yno, ych, yfa))
    (h1 : sm_ (xf_ P nn nT eT xla pva pwa pam pdi plo phi yfr yto yty ypr c cs) 4096 ≤ 1000 → ∀ i, i < 4096 → ¬ (xf_ P nn nT eT xla pva pwa pam pdi plo phi yfr yto yty ypr c cs) i = [] → rr_ (xf_ P nn nT eT xla pva pwa pam pdi plo phi yfr yto yty ypr c cs) i = kk → ∀ yde yus ywe yfo yli yso ysu (yst ypa ysp ypl ycp ybo ytk yno ych : Nat → Int32), post (nI (dg i v)) (ylv, (nI P), yqc, (nI nn), yec, yde, yus, ywe, yfo, yli, yso, ysu, yla, ypr, yfr, yto, yty, ywt, pva, pwa, pam, pdi, plo, phi, ptk, pco, pex, yst, ypa, ysp, ypl, ycp, ybo, ytk, yno, ych, yfa)) : wpY_row post (ylv, (nI P), yqc, (nI nn), yec, yde, yus, ywe, yfo, yli, yso, ysu, yla, ypr, yfr, yto, yty, ywt, pva, pwa, pam, pdi, plo, phi, ptk, pco, pex, yst, ypa, ysp, ypl, ycp, ybo, ytk, yno, ych, yfa) (nI kk) (nI v) := by
  have W1 : ∀ {post : Int32 → Prop}, post 1 → wpY_within post (nI v) 0 3 := fun hq => br_f (nI_pos (by omega)) (br_f (nI_nlt (b := v) (a := 3) (by omega) (by omega)) hq)
  refine br_f (nI_pos hkk) (W1 (br_f tg_10 (tg_ynm hP (fun _ => br_f tg_10 ?_) (fun q => absurd hnm q))))
  refine ys_ (v := 0) hP hp hH hR hn hco hW (by omega) (fun s q1 q2 yde yus ywe yli yso ysu yst ypa ysp ypl ycp ybo ytk yno ych => br_f (by decide) (hx ?_ _ _ _ _ _ _ _ _ _ _ _ _ _ _ _ _)) (fun s q1 q2 ch0 q3 yde yus ywe yst ypa ysp ypl ycp ybo ytk yno => ?_)
  · rw [(lk_ hP hp hH hR hW q1).1] at q2; exact q2
  · obtain ⟨l1, l2, _, _⟩ := lk_ hP hp hH hR hW q1
    have a : sm_ (xf_ P nn nT eT xla pva pwa pam pdi plo phi yfr yto yty ypr c cs) 4096 ≤ 1000 := by rw [← l1]; exact q2
    refine br_t (nI_le (b := 1000) q2 (by omega)) ⟨4097, yr_r (X := (xf_ P nn nT eT xla pva pwa pam pdi plo phi yfr yto yty ypr c cs)) hkk hv (fun i hi => ?_) (fun i hi hne hr => h1 a i hi hne hr _ _ _ _ _ _ _ _ _ _ _ _ _ _ _ _) (fun hr => h0 a hr _ _ _ _ _ _ _ _ _ _ _ _ _ _ _ _) 4096 0 (by omega) (Nat.zero_le _)⟩
    rw [yc_sel, q3 i hi]
    by_cases z : (xf_ P nn nT eT xla pva pwa pam pdi plo phi yfr yto yty ypr c cs) i = []
    · rw [if_pos z, if_pos ((l2 i hi).mpr z)]
    · rw [if_neg z, if_neg (fun q => z ((l2 i hi).mp q))]
theorem i_vc_row {k : Nat} {u : SX} {v : SY} (I : i_Rel k u v) (hk : k + 7 ≤ 3584) (v1 : Int32) (v2 : Int32) : wpX_row (fun r u' => wpY_row (fun r' v' => r' = r ∧ i_Rel (k + 7) u' v') v v1 v2) u v1 v2 := by
  obtain ⟨nT, eT, xlv, xpc, xqc, xcc, xec, mc, lw, rc, xla, xpr, xed, sN, sE, sL, sP, sD, pva, pwa, pam, pdi, plo, phi, ptk, pco, pex, tr, ds, ch, ar, rN, rM, s1, s2, s3, s4, s5⟩ := u
  obtain ⟨ylv, ypc, yqc, ycc, yec, yde, yus, ywe, yfo, yli, yso, ysu, yla, ypr, yfr, yto, yty, ywt, qpva, qpwa, qpam, qpdi, qplo, qphi, qptk, qpco, qpex, yst, ypa, ysp, ypl, ycp, ybo, ytk, yno, ych, yfa⟩ := v
  obtain ⟨⟨rfl, rfl, rfl, rfl, rfl, rfl, rfl, rfl, rfl⟩, hG, hQ, hT, hC, hE⟩ := I
  obtain ⟨P, hP, rfl, rfl, hp, hH⟩ := hQ
  have hQ : rl_Q (nI P) (nI P) pva pwa pam pdi plo phi := ⟨P, hP, rfl, rfl, hp, hH⟩
  have hC' := hC
  obtain ⟨nn, c, hn, rfl, rfl, hco, hW0⟩ := hC
  obtain ⟨cs, os, nu, hW⟩ := cw_of (pva := pva) hP hW0
  have hR := hG.1
  by_cases c0 : v1 < 0
  · exact br_t c0 (br_t c0 ⟨rfl, rl_mk _ hG hQ hT hC' hE⟩)
  obtain ⟨kk, hkk, rfl⟩ := nI_of c0
  refine br_f c0 (tg_xnm hP (fun hnm => br_f tg_10 ?_) (fun hnm => br_t rfl ?_))
  · obtain ⟨v, hv, rfl⟩ : ∃ v, v < 4 ∧ v2 = nI v := by
      obtain ⟨j, hj, e⟩ := hnm
      obtain ⟨b1, b2, _, _⟩ := q_f (hp j hj)
      exact ⟨Vf pva j, b2, e.symm.trans b1⟩
    refine xs_ hP hp hR hn hco hW (fun z => xf_xl z) (fun z i => xf_0 z i) (fun mc lw rc rN rM tr ch ar s1 s2 s3 s4 s5 hs => ?_)
    rcases hs with ⟨a, rfl, rfl, rfl, hrw⟩ | ⟨a, rfl⟩
    · have rl := rr_l (xf_ P nn nT eT xla pva pwa pam pdi plo phi yfr yto yty ypr c cs) 4096
      refine br_f (nI_nlt (b := sm_ (xf_ P nn nT eT xla pva pwa pam pdi plo phi yfr yto yty ypr c cs) 4096) (a := 1000) a (by omega)) ?_
      by_cases z : kk < rr_ (xf_ P nn nT eT xla pva pwa pam pdi plo phi yfr yto yty ypr c cs) 4096
      · obtain ⟨i, hi, hne, hr⟩ := rr_ex 4096 z
        obtain ⟨e1, _⟩ := hrw i hi hne
        refine br_t (nI_lt z (by omega)) ⟨vp_in_nI (by omega) (by omega), ?_⟩
        rw [nI_clamp hkk, ← hr, e1, tg_rowx hv, hr]
        refine ro_ hP hp hH hR hn hco hW hkk hv hnm (fun q => absurd q (by omega)) (fun _ q => absurd q (by omega)) (fun _ i' hi' hne' hr' yde yus ywe yfo yli yso ysu yst ypa ysp ypl ycp ybo ytk yno ych => ⟨?_, rl_mk _ hG hQ hT hC' hE⟩)
        have : i' = i := by
          rcases Nat.lt_trichotomy i' i with q | q | q
          · have := rr_lt q hne'; omega
          · exact q
          · have := rr_lt q hne; omega
        rw [this]
      · refine br_f (nI_nlt (by omega) (by omega)) (ro_ hP hp hH hR hn hco hW hkk hv hnm (fun q => absurd q (by omega)) (fun _ _ yde yus ywe yfo yli yso ysu yst ypa ysp ypl ycp ybo ytk yno ych => ⟨rfl, rl_mk _ hG hQ hT hC' hE⟩) (fun _ i' hi' hne' hr' => ?_))
        have := rr_lt hi' hne'
        omega
    · refine br_t (by decide) (ro_ hP hp hH hR hn hco hW hkk hv hnm (fun _ yde yus ywe yfo yli yso ysu yst ypa ysp ypl ycp ybo ytk yno ych => ⟨rfl, rl_mk _ hG hQ hT hC' hE⟩) (fun q => absurd q (by omega)) (fun q => absurd q (by omega)))
  · unfold wpY_row
    refine br_f c0 (tg_wi 0 3 (by omega) (by omega) (fun _ => br_t rfl ⟨rfl, rl_mk _ hG hQ hT hC' hE⟩) (fun _ _ _ _ => br_f tg_10 (tg_ynm hP (fun q => absurd q hnm) (fun _ => br_t rfl ⟨rfl, rl_mk _ hG hQ hT hC' hE⟩))))
/-! total -/
theorem xt_l {post : Int64 → SX → Prop} {X : Nat → List Int32} {v : Nat} (hv : v < 4) (hR : gr_R nT eT xla xpr xed yla ypr yfr yto yty ywt) (ha : sm_ X 4096 ≤ 1000) (hrw : ∀ i, i < 4096 → ¬ X i = [] → rN (rr_ X i) = nI (pkc i) ∧ rM (rr_ X i) = nI (X i).length) (hth : ∀ i, i < 4096 → ¬ X i = [] → bt nT (dg i v) = true)
    (h0 : gb_ ypr v X 4096 = false → post 9000000000000000000 (nT, eT, xlv, xpc, xqc, xcc, xec, mc, lw, (nI (rr_ X 4096)), xla, xpr, xed, sN, sE, sL, sP, sD, pva, pwa, pam, pdi, plo, phi, ptk, pco, pex, tr, ds, ch, ar, rN, rM, s1, s2, s3, s4, s5)) (h1 : gb_ ypr v X 4096 = true → post (gs_ ypr v X 4096) (nT, eT, xlv, xpc, xqc, xcc, xec, mc, lw, (nI (rr_ X 4096)), xla, xpr, xed, sN, sE, sL, sP, sD, pva, pwa, pam, pdi, plo, phi, ptk, pco, pex, tr, ds, ch, ar, rN, rM, s1, s2, s3, s4, s5)) :
    ∀ d i, i + d = 4096 → wX_total_38 post (nI v) nT eT xlv xpc xqc xcc xec mc lw (nI (rr_ X 4096)) xla xpr xed sN sE sL sP sD pva pwa pam pdi plo phi ptk pco pex tr ds ch ar rN rM s1 s2 s3 s4 s5 (rr_ X 4096 - rr_ X i + 1) (gs_ ypr v X i) (tg_z (gb_ ypr v X i)) (nI (rr_ X i)) := by
  have rl := rr_l X 4096
  intro d
  induction d with
  | zero =>
    intro i hi
    have e : i = 4096 := by omega
    subst e
    rw [Nat.sub_self]
    exact br_t (nI_le (by omega) (by omega)) (tg_zbr h0 h1)
  | succ d ih =>
    intro i hi
    have nx := ih (i + 1) (by omega)
    have eg : gs_ ypr v X (i + 1) = gs_ ypr v X i + (if nz_ ypr v i = true then ypr (dg i v) * lN (X i).length else 0) := rfl
    have eb : gb_ ypr v X (i + 1) = (gb_ ypr v X i || (nz_ ypr v i && !decide (X i = []))) := rfl
    by_cases z : X i = []
    · rw [rr_n z, eg, eb, z, decide_eq_true rfl] at nx
      have e0 : lN ([] : List Int32).length = 0 := rfl
      rw [e0, Int64.mul_zero, show (if nz_ ypr v i = true then (0 : Int64) else 0) = 0 from by split <;> rfl, Int64.add_zero, Bool.not_true, Bool.and_false, Bool.or_false] at nx
      exact nx
    · have lt := rr_lt (X := X) (i := i) (c := 4096) (by omega) z
      obtain ⟨e1, e2⟩ := hrw i (by omega) z
      have dl := dg_lt i v
      have th := hth i (by omega) z
      have ep : xpr (dg i v) = ypr (dg i v) := by
        rcases hR.2.2.1 _ dl with ⟨_, _, q⟩ | ⟨q, _⟩
        · exact q.symm
        · rw [th] at q; exact absurd q (by decide)
      have ll : (X i).length ≤ sm_ X 4096 := by
        have := sm_m X (i + 1) (4096 - (i + 1))
        rw [show i + 1 + (4096 - (i + 1)) = 4096 from by omega] at this
        have e : sm_ X (i + 1) = sm_ X i + (X i).length := rfl
        omega
      rw [rr_1 z, eg, eb, decide_eq_false z, Bool.not_false, Bool.and_true] at nx
      rw [show rr_ X 4096 - rr_ X i + 1 = (rr_ X 4096 - (rr_ X i + 1) + 1) + 1 from by omega]
      refine br_f (nI_ge lt (by omega)) ⟨vp_in_nI (by omega) (by omega), ?_⟩
      rw [nI_clamp (show rr_ X i < 2 ^ 31 by omega), e1, tg_rowx hv]
      refine ⟨vp_in_nI dl (by omega), nm_r (show _ = ypr (dg i v) from by rw [nI_clamp (by omega), ep]) ?_⟩
      by_cases q : ypr (dg i v) = 9000000000000000000
      · have en : nz_ ypr v i = false := decide_eq_false (fun w => w q)
        rw [en, if_neg (by decide), Int64.add_zero, Bool.or_false] at nx
        exact br_t q (nm_r (nI_1 _) nx)
      · have en : nz_ ypr v i = true := decide_eq_true q
        rw [en, if_pos rfl, Bool.or_true] at nx
        refine br_f q ⟨vp_in_nI (by omega) (by omega), ?_⟩
        rw [e2, nI_l (by omega)]
        exact nm_e (nm_r (nI_1 _) nx)
theorem to_ {post : Int64 → SY → Prop} {P nn v : Nat} {c cs os : Nat → Nat} {nu : Nat → Prop} (hP : P ≤ 6) (hp : ∀ k, k < P → qu_P pva pwa pam pdi plo phi k) (hH : qu_H pam phi P ≤ 5) (hR : gr_R nT eT xla xpr xed yla ypr yfr yto yty ywt) (hn : nn ≤ 12) (hco : ∀ k, k < nn → pco k = nI (c k)) (hW : nn = 0 ∨ cd_W c (nm_P pva P) nn cs os nu) (hv : v < 4) (hnm : ∃ k, k < P ∧ pva k = nI v)
    (hx : 1000 < sm_ (xf_ P nn nT eT xla pva pwa pam pdi plo phi yfr yto yty ypr c cs) 4096 → ∀ yde yus ywe yfo yli yso ysu (yst ypa ysp ypl ycp ybo ytk yno ych : Nat → Int32), post 9000000000000000000 (ylv, (nI P), yqc, (nI nn), yec, yde, yus, ywe, yfo, yli, yso, ysu, yla, ypr, yfr, yto, yty, ywt, pva, pwa, pam, pdi, plo, phi, ptk, pco, pex, yst, ypa, ysp, ypl, ycp, ybo, ytk, yno, ych, yfa))
    (h0 : sm_ (xf_ P nn nT eT xla pva pwa pam pdi plo phi yfr yto yty ypr c cs) 4096 ≤ 1000 → gb_ ypr v (xf_ P nn nT eT xla pva pwa pam pdi plo phi yfr yto yty ypr c cs) 4096 = false → ∀ yde yus ywe yfo yli yso ysu (yst ypa ysp ypl ycp ybo ytk yno ych : Nat → Int32), post 9000000000000000000 (ylv, (nI P), yqc, (nI nn), yec, yde, yus, ywe, yfo, yli, yso, ysu, yla, ypr, yfr, yto, yty, ywt, pva, pwa, pam, pdi, plo, phi, ptk, pco, pex, yst, ypa, ysp, ypl, ycp, ybo, ytk, yno, ych, yfa))
    (h1 : sm_ (xf_ P nn nT eT xla pva pwa pam pdi plo phi yfr yto yty ypr c cs) 4096 ≤ 1000 → gb_ ypr v (xf_ P nn nT eT xla pva pwa pam pdi plo phi yfr yto yty ypr c cs) 4096 = true → ∀ yde yus ywe yfo yli yso ysu (yst ypa ysp ypl ycp ybo ytk yno ych : Nat → Int32), post (gs_ ypr v (xf_ P nn nT eT xla pva pwa pam pdi plo phi yfr yto yty ypr c cs) 4096) (ylv, (nI P), yqc, (nI nn), yec, yde, yus, ywe, yfo, yli, yso, ysu, yla, ypr, yfr, yto, yty, ywt, pva, pwa, pam, pdi, plo, phi, ptk, pco, pex, yst, ypa, ysp, ypl, ycp, ybo, ytk, yno, ych, yfa)) : wpY_total post (ylv, (nI P), yqc, (nI nn), yec, yde, yus, ywe, yfo, yli, yso, ysu, yla, ypr, yfr, yto, yty, ywt, pva, pwa, pam, pdi, plo, phi, ptk, pco, pex, yst, ypa, ysp, ypl, ycp, ybo, ytk, yno, ych, yfa) (nI v) := by
  have W1 : ∀ {post : Int32 → Prop}, post 1 → wpY_within post (nI v) 0 3 := fun hq => br_f (nI_pos (by omega)) (br_f (nI_nlt (b := v) (a := 3) (by omega) (by omega)) hq)
  unfold wpY_total
  refine W1 (br_f tg_10 (tg_ynm hP (fun _ => br_f tg_10 ?_) (fun q => absurd hnm q)))
  refine ys_ (v := v) hP hp hH hR hn hco hW hv (fun s q1 q2 yde yus ywe yli yso ysu yst ypa ysp ypl ycp ybo ytk yno ych => br_t (by decide) (hx ?_ _ _ _ _ _ _ _ _ _ _ _ _ _ _ _ _)) (fun s q1 q2 ch0 q3 yde yus ywe yst ypa ysp ypl ycp ybo ytk yno => ?_)
  · rw [(lk_ hP hp hH hR hW q1).1] at q2; exact q2
  · obtain ⟨l1, l2, l3, _⟩ := lk_ hP hp hH hR hW q1
    have a : sm_ (xf_ P nn nT eT xla pva pwa pam pdi plo phi yfr yto yty ypr c cs) 4096 ≤ 1000 := by rw [← l1]; exact q2
    have bd := (ly_el (v := v) (nn := nn) (c := c) (cs := cs) hp hR q1).2 hv hnm
    rw [yo_sel hv _ bd, yu_sel hv _ bd, gb_e l2, gs_e l3]
    exact br_f (nI_nlt (b := (ly_ P (Vf pva) (Vf plo) (Vf phi) (stp pam) (ok_ nT yla pwa) (al_ eT yfr yto yty pam pdi) (trp ypr c cs nn) s).length) (a := 1000) q2 (by omega)) (tg_zbr (fun e => h0 a e _ _ _ _ _ _ _ _ _ _ _ _ _ _ _ _) (fun e => h1 a e _ _ _ _ _ _ _ _ _ _ _ _ _ _ _ _))
theorem i_vc_total {k : Nat} {u : SX} {v : SY} (I : i_Rel k u v) (hk : k + 7 ≤ 3584) (v1 : Int32) : wpX_total (fun r u' => wpY_total (fun r' v' => r' = r ∧ i_Rel (k + 7) u' v') v v1) u v1 := by
  obtain ⟨nT, eT, xlv, xpc, xqc, xcc, xec, mc, lw, rc, xla, xpr, xed, sN, sE, sL, sP, sD, pva, pwa, pam, pdi, plo, phi, ptk, pco, pex, tr, ds, ch, ar, rN, rM, s1, s2, s3, s4, s5⟩ := u
  obtain ⟨ylv, ypc, yqc, ycc, yec, yde, yus, ywe, yfo, yli, yso, ysu, yla, ypr, yfr, yto, yty, ywt, qpva, qpwa, qpam, qpdi, qplo, qphi, qptk, qpco, qpex, yst, ypa, ysp, ypl, ycp, ybo, ytk, yno, ych, yfa⟩ := v
  obtain ⟨⟨rfl, rfl, rfl, rfl, rfl, rfl, rfl, rfl, rfl⟩, hG, hQ, hT, hC, hE⟩ := I
  obtain ⟨P, hP, rfl, rfl, hp, hH⟩ := hQ
  have hQ : rl_Q (nI P) (nI P) pva pwa pam pdi plo phi := ⟨P, hP, rfl, rfl, hp, hH⟩
  have hC' := hC
  obtain ⟨nn, c, hn, rfl, rfl, hco, hW0⟩ := hC
  obtain ⟨cs, os, nu, hW⟩ := cw_of (pva := pva) hP hW0
  have hR := hG.1
  unfold wpX_total
  refine tg_xnm hP (fun hnm => br_f tg_10 ?_) (fun hnm => br_t rfl ?_)
  · obtain ⟨v, hv, rfl⟩ : ∃ v, v < 4 ∧ v1 = nI v := by
      obtain ⟨j, hj, e⟩ := hnm
      obtain ⟨b1, b2, _, _⟩ := q_f (hp j hj)
      exact ⟨Vf pva j, b2, e.symm.trans b1⟩
    refine xs_ hP hp hR hn hco hW (fun z => xf_xl z) (fun z i => xf_0 z i) (fun mc lw rc rN rM tr ch ar s1 s2 s3 s4 s5 hs => ?_)
    rcases hs with ⟨a, rfl, rfl, rfl, hrw⟩ | ⟨a, rfl⟩
    · refine br_t (nI_le (b := 1000) a (by omega)) ⟨_, xt_l (X := (xf_ P nn nT eT xla pva pwa pam pdi plo phi yfr yto yty ypr c cs)) hv hR a hrw (fun i hi hne => ?_) (fun e => ?_) (fun e => ?_) 4096 0 (by omega)⟩
      · have hP0 : 0 < P := by
          obtain ⟨j, hj, _⟩ := hnm
          omega
        have pc : pa_ nT xla pva pwa P i := Classical.byContradiction (fun q => hne ((xf_xl hP0 i hi).2 q))
        rcases pc v hv with ⟨_, b, _⟩ | ⟨q, _⟩
        · exact b
        · exact absurd hnm q
      · refine to_ hP hp hH hR hn hco hW hv hnm (fun q => absurd q (by omega)) (fun _ _ yde yus ywe yfo yli yso ysu yst ypa ysp ypl ycp ybo ytk yno ych => ⟨rfl, rl_mk _ hG hQ hT hC' hE⟩) (fun _ q => ?_)
        rw [e] at q; exact absurd q (by decide)
      · refine to_ hP hp hH hR hn hco hW hv hnm (fun q => absurd q (by omega)) (fun _ q => ?_) (fun _ _ yde yus ywe yfo yli yso ysu yst ypa ysp ypl ycp ybo ytk yno ych => ⟨rfl, rl_mk _ hG hQ hT hC' hE⟩)
        rw [e] at q; exact absurd q (by decide)
    · refine br_f (by decide) (to_ hP hp hH hR hn hco hW hv hnm (fun _ yde yus ywe yfo yli yso ysu yst ypa ysp ypl ycp ybo ytk yno ych => ⟨rfl, rl_mk _ hG hQ hT hC' hE⟩) (fun q => absurd q (by omega)) (fun q => absurd q (by omega)))
  · unfold wpY_total
    refine tg_wi 0 3 (by omega) (by omega) (fun _ => br_t rfl ⟨rfl, rl_mk _ hG hQ hT hC' hE⟩) (fun _ _ _ _ => br_f tg_10 (tg_ynm hP (fun q => absurd q hnm) (fun _ => br_t rfl ⟨rfl, rl_mk _ hG hQ hT hC' hE⟩)))
