/-! hopsCanArrive, candidatesFor, tryNodes -/
theorem sh_of {va wa am di lo h : Nat → Int32} {P : Nat} (hp : ∀ k, k < P → qu_P va wa am di lo h k) : sh_ P (Vf lo) (Vf h) (qu_H am h) (nx_ am P) (fun k => decide (am k = 0)) := by
  refine ⟨fun k hk => ?_, fun k hk s => ?_, fun k hk s => ?_⟩
  · obtain ⟨a, b, c, d⟩ := nxf_s (am := am) (P := P) (P - (k + 1)) (k + 1) (by omega)
    have a' : k + 1 ≤ nx_ am P k := a
    exact ⟨by omega, b, fun j j1 j2 => decide_eq_true (c j (by omega) j2), fun q => decide_eq_false (d q)⟩
  · have s : am k = 0 := of_decide_eq_true s
    show qu_H am h k + _ = _
    rw [if_pos s]; rfl
  · have s : ¬ am k = 0 := of_decide_eq_false s
    obtain ⟨_, _, _, v⟩ := q_f (hp k hk)
    obtain ⟨_, _, _, _, v5, v6, _⟩ := v s
    refine ⟨?_, v5, v6⟩
    show qu_H am h k + _ = _
    rw [if_neg s]; rfl
/-- node n may stand for variable v -/
def cn_ (nT : Int32) (xla va wa : Nat → Int32) (P v n : Nat) : Prop := (nm_P va P v ∧ bt nT n = true ∧ ∀ k, k < P → Vf va k = v → (xla n &&& wa k) = wa k) ∨ (¬ nm_P va P v ∧ n = 0)
def pa_ (nT : Int32) (xla va wa : Nat → Int32) (P c : Nat) : Prop := ∀ v, v < 4 → cn_ nT xla va wa P v (dg c v)
def pkc (c : Nat) : Nat := dg c 0 + 8 * dg c 1 + 64 * dg c 2 + 512 * dg c 3
theorem tg_pkc {c : Nat} : (((nI (dg c 0) ||| (nI (dg c 1) <<< ((3 : Int32) &&& 31))) ||| (nI (dg c 2) <<< ((6 : Int32) &&& 31))) ||| (nI (dg c 3) <<< ((9 : Int32) &&& 31))) = nI (pkc c) := by
  have h0 := dg_lt c 0
  have h1 := dg_lt c 1
  have h2 := dg_lt c 2
  have h3 := dg_lt c 3
  unfold pkc
  rw [pk_shlN _ 3 (by decide) (by omega), pk_shlN _ 6 (by decide) (by omega), pk_shlN _ 9 (by decide) (by omega), tg_pk 3 (by omega), tg_pk 6 (by omega), tg_pk 9 (by omega)]
variable {nT : Int32} {eT : Int32} {xlv : Int32} {xpc : Int32} {xqc : Int32} {xcc : Int32} {xec : Int32} {mc : Int32} {lw : Int32} {rc : Int32} {xla : Nat → Int32} {xpr : Nat → Int64} {xed : Nat → Int32} {sN : Nat → Int32} {sE : Nat → Int32} {sL : Nat → Int32} {sP : Nat → Int64} {sD : Nat → Int32} {pva : Nat → Int32} {pwa : Nat → Int32} {pam : Nat → Int32} {pdi : Nat → Int32} {plo : Nat → Int32} {phi : Nat → Int32} {ptk : Nat → Int32} {pco : Nat → Int32} {pex : Nat → Int32} {tr : Nat → Int32} {ds : Nat → Int32} {ch : Nat → Int32} {ar : Nat → Int32} {rN : Nat → Int32} {rM : Nat → Int32} {s1 : Nat → Int32} {s2 : Nat → Int32} {s3 : Nat → Int32} {s4 : Nat → Int32} {s5 : Nat → Int32}
variable {ylv : Int32} {ypc : Int32} {yqc : Int32} {ycc : Int32} {yec : Int32} {yde : Int32} {yus : Int32} {ywe : Int32} {yfo : Int32} {yli : Int32} {yso : Int32} {ysu : Int64} {yla : Nat → Int32} {ypr : Nat → Int64} {yfr : Nat → Int32} {yto : Nat → Int32} {yty : Nat → Int32} {ywt : Nat → Int32} {yst : Nat → Int32} {ypa : Nat → Int32} {ysp : Nat → Int32} {ypl : Nat → Int32} {ycp : Nat → Int32} {ybo : Nat → Int32} {ytk : Nat → Int32} {yno : Nat → Int32} {ych : Nat → Int32} {yfa : Nat → Int32}
theorem xm_ha {post : Int32 → Prop} {P : Nat} {sg : Nat → Nat} (hP : P ≤ 6) (hP0 : 0 < P) (hp : ∀ k, k < P → qu_P pva pwa pam pdi plo phi k) (hsg : ∀ v, v < 4 → ch v = nI (sg v) ∧ sg v < 8) (h1 : post 1) (h0 : (∃ k, 1 ≤ k ∧ k < P ∧ ¬ pam k = 0 ∧ bt (ar (k * 8 + sg (Vf pva (k - 1)))) (sg (Vf pva k)) = false) → post 0) : wpX_hopsCanArrive post (nT, eT, xlv, (nI P), xqc, xcc, xec, mc, lw, rc, xla, xpr, xed, sN, sE, sL, sP, sD, pva, pwa, pam, pdi, plo, phi, ptk, pco, pex, tr, ds, ch, ar, rN, rM, s1, s2, s3, s4, s5) := by
  have K : ∀ d i, 1 ≤ i → i + d = P → wX_hopsCanArrive_2 post nT eT xlv (nI P) xqc xcc xec mc lw rc xla xpr xed sN sE sL sP sD pva pwa pam pdi plo phi ptk pco pex tr ds ch ar rN rM s1 s2 s3 s4 s5 (d + 1) (nI i) := by
    intro d
    induction d with
    | zero =>
      intro i h1i hi
      exact br_t (nI_le (by omega) (by omega)) h1
    | succ d ih =>
      intro i h1i hi
      obtain ⟨a1, a2, _, _⟩ := q_f (hp (i - 1) (by omega))
      obtain ⟨b1, b2, _, _⟩ := q_f (hp i (by omega))
      obtain ⟨a3, a4⟩ := hsg _ a2
      obtain ⟨b3, b4⟩ := hsg _ b2
      have e1 : nI i - 1 = nI (i - 1) := pk_sub (b := 1) (by omega)
      have e2 : nI i * 8 + nI (sg (Vf pva (i - 1))) = nI (i * 8 + sg (Vf pva (i - 1))) := tg_ix
      have wi : vp_in (nI i) 6 := vp_in_nI (by omega) (by omega)
      refine br_f (nI_ge (by omega) (by omega)) ?_
      rw [e1, nI_clamp (show i - 1 < 2 ^ 31 by omega), nI_clamp (show i < 2 ^ 31 by omega), a1, b1, nI_clamp (show Vf pva (i - 1) < 2 ^ 31 by omega), nI_clamp (show Vf pva i < 2 ^ 31 by omega), a3, b3]
      refine ⟨vp_in_nI (by omega) (by omega), vp_in_nI a2 (by omega), nm_e ⟨wi, vp_in_nI b2 (by omega), nm_e ⟨wi, br_c (fun z => nm_r (nI_1 i) (ih (i + 1) (by omega) (by omega))) (fun z => ?_)⟩⟩⟩
      rw [e2, nI_clamp (by omega)]
      exact ⟨vp_in_nI (by omega) (by omega), tg_isIn (by omega) (tg_zbr (fun b => h0 ⟨i, h1i, by omega, z, b⟩) (fun b => nm_r (nI_1 i) (ih (i + 1) (by omega) (by omega))))⟩
  exact ⟨P - 1 + 1, K (P - 1) 1 (Nat.le_refl 1) (by omega)⟩
theorem xm_cd {post : Int32 → Prop} {P v : Nat} (hP : P ≤ 6) (hv : v < 4) (hp : ∀ k, k < P → qu_P pva pwa pam pdi plo phi k) (h : ∀ r, (∀ n, n < 8 → (bt r n = true ↔ cn_ nT xla pva pwa P v n)) → post r) : wpX_candidatesFor post (nT, eT, xlv, (nI P), xqc, xcc, xec, mc, lw, rc, xla, xpr, xed, sN, sE, sL, sP, sD, pva, pwa, pam, pdi, plo, phi, ptk, pco, pex, tr, ds, ch, ar, rN, rM, s1, s2, s3, s4, s5) (nI v) := by
  refine tg_xnm hP (fun hn => br_f tg_10 ?_) (fun hn => br_t rfl (h 1 (fun n hn8 => ?_)))
  · have K1 : ∀ (J : Int32 → Int32 → Prop) k, k < P → (∀ r, (∀ n, n < 8 → (bt r n = true ↔ (bt nT n = true ∧ ∀ k', k' < k + 1 → Vf pva k' = v → (xla n &&& pwa k') = pwa k'))) → J r (nI (k + 1))) → ∀ d i r, i + d = 8 → (∀ n, n < 8 → (bt r n = true ↔ (bt nT n = true ∧ (∀ k', k' < k → Vf pva k' = v → (xla n &&& pwa k') = pwa k') ∧ (n < i → Vf pva k = v → (xla n &&& pwa k) = pwa k)))) → wX_candidatesFor_28 post J (nI v) (nI k) nT eT xlv (nI P) xqc xcc xec mc lw rc xla xpr xed sN sE sL sP sD pva pwa pam pdi plo phi ptk pco pex tr ds ch ar rN rM s1 s2 s3 s4 s5 (d + 1) r (nI i) := by
      intro J k hk hJ d
      have wk : vp_in (nI k) 6 := vp_in_nI (by omega) (by omega)
      have ck : (nI k).toNatClampNeg = k := nI_clamp (by omega)
      obtain ⟨a1, a2, _, _⟩ := q_f (hp k hk)
      induction d with
      | zero =>
        intro i r hi hr
        have z : i = 8 := by omega
        subst z
        refine br_t (nI_le (a := 8) (by omega) (by omega)) (nm_r (nI_1 k) (hJ r (fun n hn8 => ?_)))
        rw [hr n hn8]
        refine ⟨fun q => ⟨q.1, fun k' hk' e => ?_⟩, fun q => ⟨q.1, fun k' hk' e => q.2 k' (by omega) e, fun _ e => q.2 k (by omega) e⟩⟩
        by_cases y : k' = k
        · rw [y]; rw [y] at e; exact q.2.2 hn8 e
        · exact q.2.1 k' (by omega) e
      | succ d ih =>
        intro i r hi hr
        refine br_f (nI_ge (b := 8) (by omega) (by decide)) ⟨wk, ?_⟩
        rw [ck, nI_clamp (show i < 2 ^ 31 by omega)]
        refine br_c (fun e => ⟨vp_in_nI (by omega) (by omega), wk, wk, br_c (fun b => nm_r (nI_1 i) (ih (i + 1) r (by omega) (fun n hn8 => ?_))) (fun b => nm_e (nm_r (nI_1 i) (ih (i + 1) _ (by omega) (fun n hn8 => ?_))))⟩) (fun e => nm_r (nI_1 i) (ih (i + 1) r (by omega) (fun n hn8 => ?_)))
        · rw [hr n hn8]
          refine ⟨fun q => ⟨q.1, q.2.1, fun hh e' => ?_⟩, fun q => ⟨q.1, q.2.1, fun hh e' => q.2.2 (by omega) e'⟩⟩
          by_cases y : n = i
          · rw [y]; exact b
          · exact q.2.2 (by omega) e'
        · have ev : Vf pva k = v := (nI_eq (by omega) (by omega)).mp (a1.symm.trans e)
          rw [tg_andn r (by omega), Bool.and_eq_true, hr n hn8]
          by_cases y : n = i
          · subst y
            refine ⟨fun q => ?_, fun q => absurd (q.2.2 (by omega) ev) b⟩
            have := q.2
            simp at this
          · rw [decide_eq_false y]
            refine ⟨fun q => ⟨q.1.1, q.1.2.1, fun hh e' => q.1.2.2 (by omega) e'⟩, fun q => ⟨⟨q.1, q.2.1, fun hh e' => q.2.2 (by omega) e'⟩, rfl⟩⟩
        · have ev : ¬ Vf pva k = v := fun w => e (by rw [a1, w])
          rw [hr n hn8]
          exact ⟨fun q => ⟨q.1, q.2.1, fun _ e' => absurd e' ev⟩, fun q => ⟨q.1, q.2.1, fun _ e' => absurd e' ev⟩⟩
    have K2 : ∀ d k r, k + d = P → (∀ n, n < 8 → (bt r n = true ↔ (bt nT n = true ∧ ∀ k', k' < k → Vf pva k' = v → (xla n &&& pwa k') = pwa k'))) → wX_candidatesFor_17 post (nI v) nT eT xlv (nI P) xqc xcc xec mc lw rc xla xpr xed sN sE sL sP sD pva pwa pam pdi plo phi ptk pco pex tr ds ch ar rN rM s1 s2 s3 s4 s5 (d + 1) r (nI k) := by
      intro d
      induction d with
      | zero =>
        intro k r hk hr
        have z : k = P := by omega
        subst z
        refine br_t (nI_le (by omega) (by omega)) (h r (fun n hn8 => ?_))
        rw [hr n hn8]
        exact ⟨fun q => Or.inl ⟨hn, q.1, q.2⟩, fun q => q.elim (fun w => ⟨w.2.1, w.2.2⟩) (fun w => absurd hn w.1)⟩
      | succ d ih =>
        intro k r hk hr
        refine br_f (nI_ge (by omega) (by omega)) ⟨9, K1 _ k (by omega) (fun r' hr' => ih (k + 1) r' (by omega) hr') 8 0 r (by omega) (fun n hn8 => ?_)⟩
        rw [hr n hn8]
        exact ⟨fun q => ⟨q.1, q.2, fun w => absurd w (Nat.not_lt_zero n)⟩, fun q => ⟨q.1, q.2.1⟩⟩
    refine ⟨P + 1, K2 P 0 nT (by omega) (fun n hn8 => ?_)⟩
    exact ⟨fun q => ⟨q, fun k' hk' => absurd hk' (Nat.not_lt_zero k')⟩, fun q => q.1⟩
  · rw [tg_b1, decide_eq_true_eq]
    exact ⟨fun q => Or.inr ⟨hn, q⟩, fun q => q.elim (fun w => absurd w.1 hn) (fun w => w.2)⟩
theorem pa_sn {P c : Nat} (hp : pa_ nT xla pva pwa P c) : sn_ nT (nm_P pva P) (fun v => nI (dg c v)) := fun v hv hn => by
  rcases hp v hv with ⟨_, b, _⟩ | ⟨q, _⟩
  · exact ⟨dg c v, dg_lt c v, rfl, b⟩
  · exact absurd hn q
theorem xm_tn {post : SX → Prop} {P n m l R cc : Nat} {c cs os : Nat → Nat} {nu : Nat → Prop} {XL : List Int32} (hP : P ≤ 6) (hP0 : 0 < P) (hp : ∀ k, k < P → qu_P pva pwa pam pdi plo phi k) (h00 : pam 0 = 0) (hR : gr_R nT eT xla xpr xed yla ypr yfr yto yty ywt)
    (hn : n ≤ 12) (hco : ∀ k, k < n → pco k = nI (c k)) (hW : n = 0 ∨ cd_W c (nm_P pva P) n cs os nu) (har : ∀ k, k < P → ¬ pam k = 0 → ar_ pam plo phi (fe_ eT yfr yto yty pam pdi) ar k)
    (hpa : pa_ nT xla pva pwa P cc) (hm : m ≤ 1000) (hl : l ≤ 1000000) (hRr : R ≤ 1000)
    (x1 : cv_ ypr (fun v => nI (dg cc v)) c cs n = true → XL = fl_ P (Vf pva) (Vf plo) (Vf phi) (fe_ eT yfr yto yty pam pdi) (nx_ pam P) (dg cc)) (x0 : cv_ ypr (fun v => nI (dg cc v)) c cs n = false → XL = [])
    (hx : 1000 < m + XL.length → ∀ lw rc (rN rM tr ch s1 s2 s3 s4 s5 : Nat → Int32), post (nT, eT, xlv, (nI P), xqc, (nI n), xec, (nI 1001), lw, rc, xla, xpr, xed, sN, sE, sL, sP, sD, pva, pwa, pam, pdi, plo, phi, ptk, pco, pex, tr, ds, ch, ar, rN, rM, s1, s2, s3, s4, s5))
    (h0 : XL = [] → ∀ (tr ch s1 s2 s3 s4 s5 : Nat → Int32), post (nT, eT, xlv, (nI P), xqc, (nI n), xec, (nI m), (nI l), (nI R), xla, xpr, xed, sN, sE, sL, sP, sD, pva, pwa, pam, pdi, plo, phi, ptk, pco, pex, tr, ds, ch, ar, rN, rM, s1, s2, s3, s4, s5))
    (h1 : ¬ XL = [] → m + XL.length ≤ 1000 → ∀ (tr ch s1 s2 s3 s4 s5 : Nat → Int32), post (nT, eT, xlv, (nI P), xqc, (nI n), xec, (nI (m + XL.length)), (nI (lm_ (ws_ ywt) l XL)), (nI (R + 1)), xla, xpr, xed, sN, sE, sL, sP, sD, pva, pwa, pam, pdi, plo, phi, ptk, pco, pex, tr, ds, ch, ar, (upd rN R (nI (pkc cc))), (upd rM R (nI XL.length)), s1, s2, s3, s4, s5)) :
    wpX_tryNodes post (nT, eT, xlv, (nI P), xqc, (nI n), xec, (nI m), (nI l), (nI R), xla, xpr, xed, sN, sE, sL, sP, sD, pva, pwa, pam, pdi, plo, phi, ptk, pco, pex, tr, ds, ch, ar, rN, rM, s1, s2, s3, s4, s5) (nI (dg cc 0)) (nI (dg cc 1)) (nI (dg cc 2)) (nI (dg cc 3)) := by
  have hsg : ∀ v, v < 4 → upd (upd (upd (upd ch 0 (nI (dg cc 0))) 1 (nI (dg cc 1))) 2 (nI (dg cc 2))) 3 (nI (dg cc 3)) v = nI (dg cc v) ∧ dg cc v < 8 := fun v hv => by
    refine ⟨?_, dg_lt cc v⟩
    have : v = 0 ∨ v = 1 ∨ v = 2 ∨ v = 3 := by omega
    rcases this with rfl | rfl | rfl | rfl
    · rw [pk_un (by omega), pk_un (by omega), pk_un (by omega), pk_us]
    · rw [pk_un (by omega), pk_un (by omega), pk_us]
    · rw [pk_un (by omega), pk_us]
    · rw [pk_us]
  refine nm_e (nm_e (nm_e (nm_e (xm_ha (sg := dg cc) hP hP0 hp hsg (br_f tg_10 ?_) (fun q => br_t rfl ?_)))))
  · refine xc_l (nT := nT) (s := fun v => nI (dg cc v)) hn hco hR hW (pa_sn hpa) (fun v hv => (hsg v hv).1) (fun tr => ?_)
    refine tg_zbr (fun e => h0 (x0 e) _ _ _ _ _ _ _) (fun e => ?_)
    have eX := x1 e
    refine xm_ft (sg := dg cc) hP hP0 hp hR hsg hm hl (fun q lw s1 s2 s3 s4 s5 => ?_) (fun q s1 s2 s3 s4 s5 => ?_)
    · rw [← eX] at q
      refine br_f (nI_ge (by omega) (by omega)) (br_f (nI_ge (b := 1001) (by omega) (by omega)) ⟨vp_in_nI (by omega) (by omega), nm_e ⟨vp_in_nI (by omega) (by omega), nm_e (nm_e (hx q _ _ _ _ _ _ _ _ _ _ _))⟩⟩)
    · rw [← eX] at q ⊢
      by_cases z : XL = []
      · have e0 : XL.length = 0 := by rw [z]; rfl
        rw [e0, Nat.add_zero]
        have e1 : lm_ (ws_ ywt) l XL = l := by rw [z]; rfl
        rw [e1]
        exact br_t (Int32.le_refl _) (h0 z _ _ _ _ _ _ _)
      · have e0 : 0 < XL.length := List.length_pos_iff.mpr z
        refine br_f (nI_ge (by omega) (by omega)) (br_f (nI_ge (b := 1001) (by omega) (by omega)) ⟨vp_in_nI (by omega) (by omega), nm_r (by rw [tg_pkc, nI_clamp (by omega)]) ⟨vp_in_nI (by omega) (by omega), nm_r (by rw [pk_sub (by omega), nI_clamp (by omega), show m + XL.length - m = XL.length from by omega]) (nm_r (nI_1 R) (h1 z q _ _ _ _ _ _ _))⟩⟩)
  · obtain ⟨k, k1, k2, k3, k4⟩ := q
    refine h0 ?_ _ _ _ _ _ _ _
    cases e : cv_ ypr (fun v => nI (dg cc v)) c cs n with
    | false => exact x0 e
    | true =>
      have eX := x1 e
      cases hXL : XL with
      | nil => rfl
      | cons y L =>
        exfalso
        have hy : y ∈ fl_ P (Vf pva) (Vf plo) (Vf phi) (fe_ eT yfr yto yty pam pdi) (nx_ pam P) (dg cc) := by rw [← eX, hXL]; exact List.mem_cons_self
        obtain ⟨mm, m1, m2, m3⟩ := fl_ar (sh_of hp) hP0 (decide_eq_true h00) hy k k2 (decide_eq_false k3)
        have := har k k2 k3 (dg cc (Vf pva (k - 1))) mm (dg cc (Vf pva k)) (dg_lt _ _) m1 m2 m3
        rw [k4] at this
        exact absurd this (by decide)
