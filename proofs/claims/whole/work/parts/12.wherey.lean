/-! where: Y's stack, and the owed statement -/
def tg_w (b : Bool) : Int32 := if b then 1 else 2
def st_I (st : Nat → Int32) (cs os : Nat) (nu : Bool) : Prop := (∀ j, j < cs → st j = 0) ∧ ∀ j, cs ≤ j → j < cs + os → st j = tg_w nu
theorem st_0 {st : Nat → Int32} : st_I (upd st 0 0) 1 0 false := ⟨fun j hj => by rw [show j = 0 from by omega]; exact pk_us, fun j h1 h2 => absurd h1 (by omega)⟩
theorem st_1 {st : Nat → Int32} {cs os : Nat} {nu : Bool} {m : Nat} (h : st_I st cs os nu) (hm : m ≤ cs) (b : Bool) (x : Int32) (hx : x = tg_w b) : st_I (upd st m x) m 1 b :=
  ⟨fun j hj => by rw [pk_un (by omega)]; exact h.1 j (by omega), fun j h1 h2 => by rw [show j = m from by omega, pk_us]; exact hx⟩
theorem st_2 {st : Nat → Int32} {cs os : Nat} {nu : Bool} {m : Nat} (h : st_I st cs os nu) (hm : m ≤ cs) (b : Bool) (x : Int32) (hx : x = tg_w b) : st_I (upd (upd st m x) (m + 1) x) m 2 b :=
  ⟨fun j hj => by rw [pk_un (by omega), pk_un (by omega)]; exact h.1 j (by omega), fun j h1 h2 => by
    by_cases z : j = m + 1
    · rw [z, pk_us]; exact hx
    · rw [pk_un z, show j = m from by omega, pk_us]; exact hx⟩
theorem st_z {st : Nat → Int32} {cs os : Nat} {nu b : Bool} {m : Nat} (h : st_I st cs os nu) (hm : m ≤ cs) : st_I (upd st m 0) (m + 1) 0 b :=
  ⟨fun j hj => by
    by_cases z : j = m
    · rw [z, pk_us]
    · rw [pk_un z]; exact h.1 j (by omega), fun j h1 h2 => absurd h1 (by omega)⟩
theorem st_zz {st : Nat → Int32} {cs os : Nat} {nu b : Bool} {m : Nat} (h : st_I st cs os nu) (hm : m ≤ cs) : st_I (upd (upd st m 0) (m + 1) 0) (m + 2) 0 b :=
  st_z (st_z (b := b) h hm) (Nat.le_refl _)
variable {nT : Int32} {eT : Int32} {xlv : Int32} {xpc : Int32} {xqc : Int32} {xcc : Int32} {xec : Int32} {mc : Int32} {lw : Int32} {rc : Int32} {xla : Nat → Int32} {xpr : Nat → Int64} {xed : Nat → Int32} {sN : Nat → Int32} {sE : Nat → Int32} {sL : Nat → Int32} {sP : Nat → Int64} {sD : Nat → Int32} {pva : Nat → Int32} {pwa : Nat → Int32} {pam : Nat → Int32} {pdi : Nat → Int32} {plo : Nat → Int32} {phi : Nat → Int32} {ptk : Nat → Int32} {pco : Nat → Int32} {pex : Nat → Int32} {tr : Nat → Int32} {ds : Nat → Int32} {ch : Nat → Int32} {ar : Nat → Int32} {rN : Nat → Int32} {rM : Nat → Int32} {s1 : Nat → Int32} {s2 : Nat → Int32} {s3 : Nat → Int32} {s4 : Nat → Int32} {s5 : Nat → Int32}
variable {ylv : Int32} {ypc : Int32} {yqc : Int32} {ycc : Int32} {yec : Int32} {yde : Int32} {yus : Int32} {ywe : Int32} {yfo : Int32} {yli : Int32} {yso : Int32} {ysu : Int64} {yla : Nat → Int32} {ypr : Nat → Int64} {yfr : Nat → Int32} {yto : Nat → Int32} {yty : Nat → Int32} {ywt : Nat → Int32} {yst : Nat → Int32} {ypa : Nat → Int32} {ysp : Nat → Int32} {ypl : Nat → Int32} {ycp : Nat → Int32} {ybo : Nat → Int32} {ytk : Nat → Int32} {yno : Nat → Int32} {ych : Nat → Int32} {yfa : Nat → Int32}
theorem tg_yp1 {post : Int32 → SY → Prop} {J : Int32 → Int32 → (Nat → Int32) → (Nat → Int64) → (Nat → Int32) → (Nat → Int32) → (Nat → Int32) → (Nat → Int32) → (Nat → Int32) → (Nat → Int32) → (Nat → Int32) → (Nat → Int32) → (Nat → Int32) → (Nat → Int32) → (Nat → Int32) → (Nat → Int32) → (Nat → Int32) → (Nat → Int32) → (Nat → Int32) → (Nat → Int32) → (Nat → Int32) → (Nat → Int32) → (Nat → Int32) → (Nat → Int32) → (Nat → Int32) → (Nat → Int32) → (Nat → Int32) → Prop} {x1 z : Int32} {m i t : Nat} (hm : m + 1 < 30) (ht : t < 100) (h1 : (t = 12 ∨ t = 16) → J (nI (m + 1)) (nI (i + 1)) yla ypr yfr yto yty ywt pva pwa pam pdi plo phi ptk pco pex (upd yst m z) ypa ysp ypl ycp ybo ytk yno ych yfa) (h2 : ¬ (t = 12 ∨ t = 16) → J (nI (m + 2)) (nI (i + 1)) yla ypr yfr yto yty ywt pva pwa pam pdi plo phi ptk pco pex (upd (upd yst m z) (m + 1) z) ypa ysp ypl ycp ybo ytk yno ych yfa) : wY_isCondition_136 post J x1 (nI m) (nI i) (nI t) z ylv ypc yqc ycc yec yde yus ywe yfo yli yso ysu yla ypr yfr yto yty ywt pva pwa pam pdi plo phi ptk pco pex yst ypa ysp ypl ycp ybo ytk yno ych yfa := by
  refine nm_r (nI_1 m) ⟨vp_in_nI (by omega) (by omega), nm_r (tg_u (by omega)) ?_⟩
  by_cases a : t = 12
  · exact br_t (by rw [a]; rfl) (nm_r (nI_1 i) (h1 (Or.inl a)))
  refine br_f (fun e => a ((nI_eq (b := 12) (by omega) (by omega)).mp e)) ?_
  by_cases b : t = 16
  · exact br_t (by rw [b]; rfl) (nm_r (nI_1 i) (h1 (Or.inr b)))
  refine br_f (fun e => b ((nI_eq (b := 16) (by omega) (by omega)).mp e)) ?_
  exact nm_r (nI_1 _) ⟨vp_in_nI (by omega) (by omega), nm_r (tg_u (by omega)) (nm_r (nI_1 i) (h2 (by omega)))⟩
theorem tg_yic {post : Int32 → SY → Prop} {P n : Nat} (hP : P ≤ 6) (hn : n ≤ 12) {c : Nat → Nat} (hp : ∀ k, k < P → qu_P pva pwa pam pdi plo phi k) (hc : ∀ k, k < n → ptk k = nI (c k) ∧ qu_T (c k)) (h1 : cd_G (nm_P pva P) c n → ∀ st, post 1 (ylv, (nI P), yqc, ycc, yec, yde, yus, ywe, yfo, yli, yso, ysu, yla, ypr, yfr, yto, yty, ywt, pva, pwa, pam, pdi, plo, phi, ptk, pco, pex, st, ypa, ysp, ypl, ycp, ybo, ytk, yno, ych, yfa)) (h0 : ¬ cd_G (nm_P pva P) c n → ∀ st, post 0 (ylv, (nI P), yqc, ycc, yec, yde, yus, ywe, yfo, yli, yso, ysu, yla, ypr, yfr, yto, yty, ywt, pva, pwa, pam, pdi, plo, phi, ptk, pco, pex, st, ypa, ysp, ypl, ycp, ybo, ytk, yno, ych, yfa)) : ∀ d i st, i + d = n → (∀ k, k < i → cd_ok (nm_P pva P) c k) → st_I st (cd_s c i).1 (cd_s c i).2.1 (cd_s c i).2.2 → wY_isCondition_11 post (nI n) ylv (nI P) yqc ycc yec yde yus ywe yfo yli yso ysu (d + 1) (nI ((cd_s c i).1 + (cd_s c i).2.1)) (nI i) yla ypr yfr yto yty ywt pva pwa pam pdi plo phi ptk pco pex st ypa ysp ypl ycp ybo ytk yno ych yfa := by
  intro d
  induction d with
  | zero =>
    intro i st hi hk hs
    have e : i = n := by omega
    subst e
    have b := cd_bd c i
    refine br_t (nI_le (by omega) (by omega)) ?_
    by_cases z : (cd_s c i).1 + (cd_s c i).2.1 = 0
    · rw [z]
      exact br_t rfl (h1 ⟨hk, by omega, by omega⟩ st)
    · exact br_f (nI_ne0 (by omega) (by omega)) (h0 (fun g => by have := g.2.1; have := g.2.2; omega) st)
  | succ d ih =>
    intro i st hi hk hs
    have b := cd_bd c i
    obtain ⟨et, hT⟩ := hc i (by omega)
    have hT2 : c i < 2 ^ 31 := by unfold qu_T at hT; omega
    have bad : ¬ cd_ok (nm_P pva P) c i → post 0 (ylv, (nI P), yqc, ycc, yec, yde, yus, ywe, yfo, yli, yso, ysu, yla, ypr, yfr, yto, yty, ywt, pva, pwa, pam, pdi, plo, phi, ptk, pco, pex, st, ypa, ysp, ypl, ycp, ybo, ytk, yno, ych, yfa) := fun q => h0 (fun g => q (g.1 i (by omega))) st
    have next : cd_ok (nm_P pva P) c i → ∀ st', st_I st' (cd_s c (i + 1)).1 (cd_s c (i + 1)).2.1 (cd_s c (i + 1)).2.2 → wY_isCondition_11 post (nI n) ylv (nI P) yqc ycc yec yde yus ywe yfo yli yso ysu (d + 1) (nI ((cd_s c (i + 1)).1 + (cd_s c (i + 1)).2.1)) (nI (i + 1)) yla ypr yfr yto yty ywt pva pwa pam pdi plo phi ptk pco pex st' ypa ysp ypl ycp ybo ytk yno ych yfa := fun q st' hs' => ih (i + 1) st' (by omega) (fun k hk' => by
      by_cases z : k = i
      · subst z; exact q
      · exact hk k (by omega)) hs'
    refine br_f (nI_ge (by omega) (by omega)) ?_
    by_cases z : (cd_s c i).1 + (cd_s c i).2.1 = 0
    · rw [z]
      exact br_t rfl (bad (fun q => by unfold cd_ok at q; omega))
    obtain ⟨m, em⟩ : ∃ m, (cd_s c i).1 + (cd_s c i).2.1 = m + 1 := ⟨(cd_s c i).1 + (cd_s c i).2.1 - 1, by omega⟩
    rw [em]
    refine br_f (nI_ne0 (by omega) (by omega)) (nm_r (pk_m1 m) ⟨vp_in_nI (by omega) (by omega), nm_r (show _ = st m from by rw [nI_clamp (by omega)]) ⟨vp_in_nI (by omega) (by omega), nm_r (show _ = nI (c i) from by rw [nI_clamp (by omega), et]) ?_⟩⟩)
    rcases Nat.eq_zero_or_pos (cd_s c i).2.1 with o | o
    · have o' : ¬ 0 < (cd_s c i).2.1 := by omega
      have s0 : st m = 0 := hs.1 m (by omega)
      rw [s0]
      refine br_t rfl (tg_wi 10 16 (by omega) (by omega) (fun q => br_t rfl (bad (fun w => ?_))) (fun t t1 t2 e => ?_))
      · rcases w with ⟨w, _⟩ | ⟨_, _, w1, w2⟩
        · omega
        · exact tg_nr (by omega) q ⟨c i, w1, w2, rfl⟩
      have ec : c i = t := (nI_eq (by omega) (by omega)).mp e
      have ok : cd_ok (nm_P pva P) c i := Or.inr ⟨o, by omega, by omega, by omega⟩
      have nx := next ok
      refine br_f tg_10 (br_t (by decide) ?_)
      by_cases t3 : 13 ≤ c i
      · refine br_t (nI_le (a := 13) t3 (by omega)) ?_
        by_cases t4 : c i = 13
        · refine br_t (by rw [t4]; rfl) (tg_yp1 (by omega) (by omega) (fun q => absurd q (by omega)) (fun _ => ?_))
          have nx' := nx (upd (upd st m 2) (m + 1) 2)
          rw [cd_sc o' (by omega), if_neg (by omega), decide_eq_false (by omega)] at nx'
          have := nx' (by rw [show (cd_s c i).1 - 1 = m from by omega]; exact st_2 hs (by omega) false 2 rfl)
          rw [show (cd_s c i).1 - 1 + 2 = m + 2 from by omega] at this
          exact this
        · refine br_f (fun e => t4 ((nI_eq (b := 13) (by omega) (by omega)).mp e)) (tg_yp1 (by omega) (by omega) (fun q => ?_) (fun q => ?_))
          · have nx' := nx (upd st m 0)
            rw [cd_sn o' (by omega)] at nx'
            have := nx' (by rw [show (cd_s c i).1 = m + 1 from by omega]; exact st_z hs (by omega))
            rw [show (cd_s c i).1 + 0 = m + 1 from by omega] at this
            exact this
          · have nx' := nx (upd (upd st m 0) (m + 1) 0)
            rw [cd_sb o' (by omega)] at nx'
            have := nx' (by rw [show (cd_s c i).1 + 1 = m + 2 from by omega]; exact st_zz hs (by omega))
            rw [show (cd_s c i).1 + 1 + 0 = m + 2 from by omega] at this
            exact this
      · refine br_f (nI_ge (b := 13) (by omega) (by omega)) (tg_yp1 (by omega) (by omega) (fun q => ?_) (fun q => ?_))
        · have nx' := nx (upd st m 1)
          rw [cd_sc o' (by omega), if_pos (by omega), decide_eq_true (by omega)] at nx'
          have := nx' (by rw [show (cd_s c i).1 - 1 = m from by omega]; exact st_1 hs (by omega) true 1 rfl)
          rw [show (cd_s c i).1 - 1 + 1 = m + 1 from by omega] at this
          exact this
        · have nx' := nx (upd (upd st m 1) (m + 1) 1)
          rw [cd_sc o' (by omega), if_neg (by omega), decide_eq_true (by omega)] at nx'
          have := nx' (by rw [show (cd_s c i).1 - 1 = m from by omega]; exact st_2 hs (by omega) true 1 rfl)
          rw [show (cd_s c i).1 - 1 + 2 = m + 2 from by omega] at this
          exact this
    · have s0 : st m = tg_w (cd_s c i).2.2 := hs.2 m (by omega) (by omega)
      have w0 : ∀ b : Bool, ¬ tg_w b = 0 := by decide
      have w1 : ∀ b : Bool, ¬ tg_w b ≤ 0 := by decide
      rw [s0]
      have nx := fun q => next q st
      rw [cd_so o] at nx
      have good : cd_ok (nm_P pva P) c i → wY_isCondition_91 post (wY_isCondition_11 post (nI n) ylv (nI P) yqc ycc yec yde yus ywe yfo yli yso ysu (d + 1)) (nI n) (nI m) (nI i) (tg_w (cd_s c i).2.2) (nI (c i)) ylv (nI P) yqc ycc yec yde yus ywe yfo yli yso ysu yla ypr yfr yto yty ywt pva pwa pam pdi plo phi ptk pco pex st ypa ysp ypl ycp ybo ytk yno ych yfa := fun q => by
        refine br_f tg_10 (br_f (w1 _) (nm_r (nI_1 i) ?_))
        have := nx q ⟨hs.1, fun j h1 h2 => hs.2 j h1 (by dsimp only at h2; omega)⟩
        rw [show (cd_s c i).1 + ((cd_s c i).2.1 - 1) = m from by omega] at this
        exact this
      have no : ¬ cd_ok (nm_P pva P) c i → wY_isCondition_95 post (wY_isCondition_11 post (nI n) ylv (nI P) yqc ycc yec yde yus ywe yfo yli yso ysu (d + 1)) (nI n) (nI m) (nI i) (tg_w (cd_s c i).2.2) (nI (c i)) ylv (nI P) yqc ycc yec yde yus ywe yfo yli yso ysu yla ypr yfr yto yty ywt pva pwa pam pdi plo phi ptk pco pex st ypa ysp ypl ycp ybo ytk yno ych yfa := fun q => br_t rfl (bad q)
      have r77 : ¬ (c i < 4 ∧ nm_P pva P (c i)) → wY_isCondition_77 post (wY_isCondition_11 post (nI n) ylv (nI P) yqc ycc yec yde yus ywe yfo yli yso ysu (d + 1)) (nI n) (nI m) (nI i) (tg_w (cd_s c i).2.2) (nI (c i)) ylv (nI P) yqc ycc yec yde yus ywe yfo yli yso ysu yla ypr yfr yto yty ywt pva pwa pam pdi plo phi ptk pco pex st ypa ysp ypl ycp ybo ytk yno ych yfa := fun q => by
        cases e : (cd_s c i).2.2
        · rw [e] at no
          refine br_f (show ¬ (2 : Int32) = 1 by decide) (no ?_)
          rintro (⟨_, ⟨w, w'⟩ | ⟨w, _⟩⟩ | ⟨w, _⟩)
          · exact q ⟨w, w'⟩
          · rw [e] at w; exact absurd w (by decide)
          · omega
        · rw [e] at no good
          refine br_t rfl ?_
          by_cases t1 : c i < 1000
          · refine br_t (nI_lt (b := 1000) t1 (by omega)) (no ?_)
            rintro (⟨_, ⟨w, w'⟩ | ⟨w, _⟩⟩ | ⟨w, _⟩)
            · exact q ⟨w, w'⟩
            · omega
            · omega
          · exact br_f (nI_nlt (b := 1000) (by omega) (by omega)) (good (Or.inl ⟨o, Or.inr ⟨e, by omega⟩⟩))
      refine br_f (w0 _) (tg_wi 0 3 (by omega) (by omega) (fun q => br_t rfl (r77 (fun w => tg_nr (by omega) q ⟨c i, by omega, by omega, rfl⟩))) (fun t t1 t2 e => br_f tg_10 (tg_ynm hP (fun q => br_f tg_10 (good (Or.inl ⟨o, Or.inl ⟨?_, q⟩⟩))) (fun q => br_t rfl (r77 (fun w => q w.2))))))
      have ec : c i = t := (nI_eq (by omega) (by omega)).mp e
      omega
theorem tg_xwl {post : Int32 → SX → Prop} {n : Nat} (hn : n ≤ 12) (h : post 1 (nT, eT, xlv, xpc, xqc, (nI n), xec, mc, lw, rc, xla, xpr, xed, sN, sE, sL, sP, sD, pva, pwa, pam, pdi, plo, phi, ptk, (cy_f ptk pco n), pex, tr, ds, ch, ar, rN, rM, s1, s2, s3, s4, s5)) : ∀ d i, i + d = n → wX_where_26 post (nI n) nT eT xlv xpc xqc xcc xec mc lw rc (d + 1) (nI i) xla xpr xed sN sE sL sP sD pva pwa pam pdi plo phi ptk (cy_f ptk pco i) pex tr ds ch ar rN rM s1 s2 s3 s4 s5 := by
  intro d
  induction d with
  | zero =>
    intro i hi
    have e : i = n := by omega
    subst e
    exact br_t (nI_le (by omega) (by omega)) h
  | succ d ih =>
    intro i hi
    have w : vp_in (nI i) 12 := vp_in_nI (by omega) (by omega)
    refine br_f (nI_ge (by omega) (by omega)) ⟨w, w, ?_⟩
    rw [nI_clamp (by omega)]
    exact nm_e (nm_r (nI_1 i) (ih (i + 1) (by omega)))
theorem tg_ywl {post : Int32 → SY → Prop} {n : Nat} (hn : n ≤ 12) (h : post 1 (ylv, ypc, yqc, ycc, yec, yde, yus, ywe, yfo, yli, yso, ysu, yla, ypr, yfr, yto, yty, ywt, pva, pwa, pam, pdi, plo, phi, ptk, (cy_f ptk pco n), pex, yst, ypa, ysp, ypl, ycp, ybo, ytk, yno, ych, yfa)) : ∀ d i, i + d = n → wY_where_31 post (nI n) ylv ypc yqc ycc yec yde yus ywe yfo yli yso ysu (d + 1) (nI i) yla ypr yfr yto yty ywt pva pwa pam pdi plo phi ptk (cy_f ptk pco i) pex yst ypa ysp ypl ycp ybo ytk yno ych yfa := by
  intro d
  induction d with
  | zero =>
    intro i hi
    have e : i = n := by omega
    subst e
    exact br_t (nI_le (by omega) (by omega)) h
  | succ d ih =>
    intro i hi
    have w : vp_in (nI i) 12 := vp_in_nI (by omega) (by omega)
    refine br_f (nI_ge (by omega) (by omega)) ⟨w, w, ?_⟩
    rw [nI_clamp (by omega)]
    exact nm_e (nm_r (nI_1 i) (ih (i + 1) (by omega)))
theorem i_vc_where {k : Nat} {u : SX} {v : SY} (I : i_Rel k u v) (hk : k + 7 ≤ 3584) : wpX_where (fun r u' => wpY_where (fun r' v' => r' = r ∧ i_Rel (k + 7) u' v') v) u := by
  obtain ⟨nT, eT, xlv, xpc, xqc, xcc, xec, mc, lw, rc, xla, xpr, xed, sN, sE, sL, sP, sD, pva, pwa, pam, pdi, plo, phi, ptk, pco, pex, tr, ds, ch, ar, rN, rM, s1, s2, s3, s4, s5⟩ := u
  obtain ⟨ylv, ypc, yqc, ycc, yec, yde, yus, ywe, yfo, yli, yso, ysu, yla, ypr, yfr, yto, yty, ywt, qpva, qpwa, qpam, qpdi, qplo, qphi, qptk, qpco, qpex, yst, ypa, ysp, ypl, ycp, ybo, ytk, yno, ych, yfa⟩ := v
  obtain ⟨⟨rfl, rfl, rfl, rfl, rfl, rfl, rfl, rfl, rfl⟩, hG, hQ, hT, hC, hE⟩ := I
  obtain ⟨n, hn, rfl, rfl, ht⟩ := hT
  obtain ⟨P, hP, rfl, rfl, hp, hH⟩ := hQ
  have hQ : rl_Q (nI P) (nI P) pva pwa pam pdi plo phi := ⟨P, hP, rfl, rfl, hp, hH⟩
  have hT0 : rl_T 0 0 ptk := ⟨0, by omega, rfl, rfl, fun b hb => absurd hb (Nat.not_lt_zero b)⟩
  unfold wpX_where wpY_where
  rcases Nat.eq_zero_or_pos n with z | z
  · subst z
    exact br_t (by decide) ⟨1, tg_xwl (n := 0) (by omega) (br_t (by decide) ⟨1, tg_ywl (n := 0) (by omega) ⟨rfl, rl_mk _ hG hQ hT0 rl_C0 hE⟩ 0 0 rfl⟩) 0 0 rfl⟩
  · have hc : ∀ k, k < n → ptk k = nI ((fun k => (ptk k).toNatClampNeg) k) ∧ qu_T ((fun k => (ptk k).toNatClampNeg) k) := fun k hk => by
      obtain ⟨t, h1, h2⟩ := ht k hk
      have : (ptk k).toNatClampNeg = t := by rw [h2, nI_clamp (by unfold qu_T at h1; omega)]
      dsimp only
      rw [this]
      exact ⟨h2, h1⟩
    generalize (fun k => (ptk k).toNatClampNeg) = c at hc
    refine br_f (nI_nle z (by omega)) ⟨n + 1, tg_xic hP hn hp hc (fun g => br_f tg_10 ⟨n + 1, tg_xwl hn (br_f (nI_nle z (by omega)) (nm_e ⟨n + 1, tg_yic hP hn hp hc (fun _ st => br_f tg_10 ⟨n + 1, tg_ywl hn ⟨rfl, ?_⟩ n 0 (by omega)⟩) (fun g' => absurd g g') n 0 _ (by omega) (fun k hk => absurd hk (Nat.not_lt_zero k)) st_0⟩)) n 0 (by omega)⟩) (fun g => br_t rfl (br_f (nI_nle z (by omega)) (nm_e ⟨n + 1, tg_yic hP hn hp hc (fun g' => absurd g' g) (fun _ st => br_t rfl ⟨rfl, rl_mk _ hG hQ hT0 hC hE⟩) n 0 _ (by omega) (fun k hk => absurd hk (Nat.not_lt_zero k)) st_0⟩))) n 0 (by omega) (fun k hk => absurd hk (Nat.not_lt_zero k))⟩
    refine rl_mk _ hG hQ hT0 ⟨n, c, hn, rfl, rfl, fun j hj => by rw [cy_lt hj]; exact (hc j hj).1, Or.inr ⟨_, _, _, cd_mono (cd_GW g (fun j hj => by have := (hc j hj).2; unfold qu_T at this; omega)) ?_⟩⟩ hE
    rintro v ⟨j, hj, e⟩
    exact ⟨j, P, hj, hP, rfl, e⟩
