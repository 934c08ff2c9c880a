/-! walk, reach -/
def tb_Th (nT : Int32) (T : Nat → Nat) : Prop := ∀ i j, i < 8 → j < 8 → T (8 * i + j) < 1000000 → bt nT i = true → bt nT j = true
theorem th_m {nT : Int32} {A B : Nat → Nat} (a : tb_Th nT A) (b : tb_Th nT B) : tb_Th nT (tb_m A B) := fun i j hi hj h => by
  unfold tb_m at h
  split at h
  · exact a i j hi hj h
  · exact b i j hi hj h
theorem th_c {nT : Int32} {A B : Nat → Nat} (a : tb_Th nT A) (b : tb_Th nT B) : tb_Th nT (tb_c A B) := fun i j hi hj h t => by
  unfold tb_c at h
  have ex := tb_c1_ex A B (8 * i + j) 8
  rw [show (8 * i + j) / 8 * 8 = 8 * i from by omega, show (8 * i + j) % 8 = j from by omega] at ex
  rcases ex with q | ⟨m, hm, q⟩
  · omega
  · exact b m j hm hj (by omega) (a i m hi hm (by omega) t)
theorem th_z {nT : Int32} {A : Nat → Nat} (a : tb_Th nT A) : tb_Th nT (tb_z A) := fun i j hi hj h t => by
  rw [tb_zij A hi hj] at h
  by_cases z : i = j
  · rw [← z]; exact t
  · rw [if_neg z] at h; exact a i j hi hj h t
theorem th_w {nT : Int32} {A : Nat → Nat} (a : tb_Th nT A) : tb_Th nT (tb_w A) := by
  have K : ∀ m, m ≤ 8 → ∀ i j, i < 8 → j < 8 → tb_D A m i j < 1000000 → bt nT i = true → bt nT j = true := by
    intro m
    induction m with
    | zero => intro _ i j hi hj h; rw [tb_D0] at h; exact a i j hi hj h
    | succ m ih =>
      intro hm i j hi hj h t
      rw [tb_DH A m i j (by omega) hi hj] at h
      split at h
      · exact ih (by omega) m j (by omega) hj (by omega) (ih (by omega) i m hi (by omega) (by omega) t)
      · exact ih (by omega) i j hi hj h t
  intro i j hi hj h
  rw [tb_wD] at h
  exact K 8 (by omega) i j hi hj h
theorem th_t {nT : Int32} {A : Nat → Nat} (t : Nat) (a : tb_Th nT A) : tb_Th nT (tb_t t A) := by
  unfold tb_t
  split
  · exact th_z (th_w a)
  · split
    · exact th_w a
    · exact th_z a
/-- reach's set: bit i where g i -/
def rb_s (g : Nat → Bool) : Nat → Int32
  | 0 => 0
  | i + 1 => if g i = true then rb_s g i ||| ((1 : Int32) <<< (nI i &&& 31)) else rb_s g i
theorem tb_at {ds : Nat → Int32} {T : Nat → Nat} (h : tb_N ds 0 T 64) {k : Nat} (hk : k < 64) : ds k = nI (T k) ∧ T k ≤ 1000000 := by
  have := h k hk
  rwa [Nat.zero_mul, Nat.zero_add] at this
variable {nT : Int32} {eT : Int32} {xlv : Int32} {xpc : Int32} {xqc : Int32} {xcc : Int32} {xec : Int32} {mc : Int32} {lw : Int32} {rc : Int32} {xla : Nat → Int32} {xpr : Nat → Int64} {xed : Nat → Int32} {sN : Nat → Int32} {sE : Nat → Int32} {sL : Nat → Int32} {sP : Nat → Int64} {sD : Nat → Int32} {pva : Nat → Int32} {pwa : Nat → Int32} {pam : Nat → Int32} {pdi : Nat → Int32} {plo : Nat → Int32} {phi : Nat → Int32} {ptk : Nat → Int32} {pco : Nat → Int32} {pex : Nat → Int32} {tr : Nat → Int32} {ds : Nat → Int32} {ch : Nat → Int32} {ar : Nat → Int32} {rN : Nat → Int32} {rM : Nat → Int32} {s1 : Nat → Int32} {s2 : Nat → Int32} {s3 : Nat → Int32} {s4 : Nat → Int32} {s5 : Nat → Int32}
variable {ylv : Int32} {ypc : Int32} {yqc : Int32} {ycc : Int32} {yec : Int32} {yde : Int32} {yus : Int32} {ywe : Int32} {yfo : Int32} {yli : Int32} {yso : Int32} {ysu : Int64} {yla : Nat → Int32} {ypr : Nat → Int64} {yfr : Nat → Int32} {yto : Nat → Int32} {yty : Nat → Int32} {ywt : Nat → Int32} {yst : Nat → Int32} {ypa : Nat → Int32} {ysp : Nat → Int32} {ypl : Nat → Int32} {ycp : Nat → Int32} {ybo : Nat → Int32} {ytk : Nat → Int32} {yno : Nat → Int32} {ych : Nat → Int32} {yfa : Nat → Int32}
theorem th_ed (hR : gr_R nT eT xla xpr xed yla ypr yfr yto yty ywt) (t : Nat) : ∀ n, n ≤ 12 → tb_Th nT (tb_ed eT yfr yto yty t n) := by
  intro n
  induction n with
  | zero => intro _ i j hi hj h; exact absurd h (Nat.lt_irrefl _)
  | succ e ih =>
    intro hn i j hi hj h q
    by_cases z : bt eT e = true ∧ yty e = nI (t % 3)
    · rw [tb_ed_t z] at h
      by_cases y : 8 * i + j = tb_ix yfr yto t e
      · rcases hR.2.2.2 e (by omega) with ⟨_, f, t', _, _, hf, ht', _, _, bf, bt', _, e1, e2, _, _⟩ | ⟨a, _⟩
        · unfold tb_ix at y
          rw [e1, e2, nI_clamp (by omega), nI_clamp (by omega)] at y
          split at y
          · rw [show j = t' from by omega]; exact bt'
          · rw [show j = f from by omega]; exact bf
        · rw [a] at z; exact absurd z.1 (by decide)
      · rw [if_neg y] at h
        exact ih (by omega) i j hi hj h q
    · rw [tb_ed_f z] at h
      exact ih (by omega) i j hi hj h q
theorem th_ev (hR : gr_R nT eT xla xpr xed yla ypr yfr yto yty ywt) {n : Nat} {c ws : Nat → Nat} (hW : ep_W c n ws) : ∀ d i, i + d = n → ∀ s, s < ws i → tb_Th nT (ev_k (fun t => tb_ed eT yfr yto yty t 12) c ws n i s) := by
  intro d
  induction d with
  | zero =>
    intro i hi s hs
    rw [show i = n from by omega, hW.2.1] at hs
    exact absurd hs (Nat.not_lt_zero s)
  | succ d ih =>
    intro k hk s hs
    have nx := ih (k + 1) (by omega)
    obtain ⟨w0, q⟩ := hW.2.2 k (by omega)
    rw [ev_e (by omega)]
    rcases q with ⟨h5, hw⟩ | ⟨h5, hw⟩ | ⟨h5, h6, hw⟩
    · rw [if_pos h5]
      split
      · exact th_ed hR _ 12 (by omega)
      · exact nx s (by omega)
    · rw [if_neg (by omega)]
      rcases h5 with h5 | h5
      · rw [if_pos h5]
        split
        · exact th_c (nx _ (by omega)) (nx _ (by omega))
        · exact nx s (by omega)
      · rw [if_neg (by omega), if_pos h5]
        split
        · exact th_m (nx _ (by omega)) (nx _ (by omega))
        · exact nx s (by omega)
    · rw [if_neg (by omega), if_neg (by omega), if_neg (by omega)]
      split
      · exact th_t _ (nx _ (by omega))
      · exact nx s (by omega)
theorem yw_wk {post : Int32 → SY → Prop} {f t n : Nat} (hf : f < 8) (ht : t < 8) (e1 : bt nT f = true) (e2 : bt nT t = true) {c ws : Nat → Nat} (hn : n ≤ 10) (z : 0 < n) (hc : ∀ k, k < n → pex k = nI (c k)) (hW : ep_W c n ws) (hR : gr_R nT eT xla xpr xed yla ypr yfr yto yty ywt)
    (h0 : ¬ ev_k (fun t => tb_ed eT yfr yto yty t 12) c ws n 0 0 (8 * f + t) < 1000000 → ∀ d2, post (-1) (ylv, ypc, yqc, ycc, (nI n), yde, yus, ywe, yfo, yli, yso, ysu, yla, ypr, yfr, yto, yty, ywt, pva, pwa, pam, pdi, plo, phi, ptk, pco, pex, yst, ypa, ysp, ypl, ycp, ybo, ytk, yno, ych, d2)) (h1 : ev_k (fun t => tb_ed eT yfr yto yty t 12) c ws n 0 0 (8 * f + t) < 1000000 → ∀ d2, post (nI (ev_k (fun t => tb_ed eT yfr yto yty t 12) c ws n 0 0 (8 * f + t))) (ylv, ypc, yqc, ycc, (nI n), yde, yus, ywe, yfo, yli, yso, ysu, yla, ypr, yfr, yto, yty, ywt, pva, pwa, pam, pdi, plo, phi, ptk, pco, pex, yst, ypa, ysp, ypl, ycp, ybo, ytk, yno, ych, d2)) : wpY_walk post (ylv, ypc, yqc, ycc, (nI n), yde, yus, ywe, yfo, yli, yso, ysu, yla, ypr, yfr, yto, yty, ywt, pva, pwa, pam, pdi, plo, phi, ptk, pco, pex, yst, ypa, ysp, ypl, ycp, ybo, ytk, yno, ych, yfa) (nI f) (nI t) := by
  unfold wpY_walk
  have n0 : ¬ nI n = 0 := nI_ne0 z (by omega)
  have i2 : 8 * nI f + nI t = nI (8 * f + t) := tg_iy
  refine tg_yin hf hR ?_
  rw [e1]
  refine br_f tg_10 (tg_yin ht hR ?_)
  rw [e2]
  refine br_f tg_10 (br_f n0 (yw_w hn hc hW hR (fun d2 k2 => ?_)))
  obtain ⟨a1, a2⟩ := tb_at k2 (k := 8 * f + t) (by omega)
  dsimp only
  rw [i2, nI_clamp (by omega), a1]
  refine ⟨vp_in_nI (by omega) (by omega), ?_⟩
  by_cases q : ev_k (fun t => tb_ed eT yfr yto yty t 12) c ws n 0 0 (8 * f + t) < 1000000
  · exact br_f (nI_ge (b := 1000000) q (by omega)) ⟨vp_in_nI (by omega) (by omega), h1 q d2⟩
  · exact br_t (nI_le (a := 1000000) (by omega) (by omega)) (h0 q d2)
theorem i_vc_walk {k : Nat} {u : SX} {v : SY} (I : i_Rel k u v) (hk : k + 7 ≤ 3584) (v1 : Int32) (v2 : Int32) : wpX_walk (fun r u' => wpY_walk (fun r' v' => r' = r ∧ i_Rel (k + 7) u' v') v v1 v2) u v1 v2 := by
  obtain ⟨nT, eT, xlv, xpc, xqc, xcc, xec, mc, lw, rc, xla, xpr, xed, sN, sE, sL, sP, sD, pva, pwa, pam, pdi, plo, phi, ptk, pco, pex, tr, ds, ch, ar, rN, rM, s1, s2, s3, s4, s5⟩ := u
  obtain ⟨ylv, ypc, yqc, ycc, yec, yde, yus, ywe, yfo, yli, yso, ysu, yla, ypr, yfr, yto, yty, ywt, qpva, qpwa, qpam, qpdi, qplo, qphi, qptk, qpco, qpex, yst, ypa, ysp, ypl, ycp, ybo, ytk, yno, ych, yfa⟩ := v
  obtain ⟨⟨rfl, rfl, rfl, rfl, rfl, rfl, rfl, rfl, rfl⟩, hG, hQ, hT, hC, hE⟩ := I
  have hR := hG.1
  have J := rl_mk (k + 7) (mc := mc) (lw := lw) (rc := rc) (tr := tr) (ds := ds) (ch := ch) (ar := ar) (rN := rN) (rM := rM) (s1 := s1) (s2 := s2) (s3 := s3) (s4 := s4) (s5 := s5) (yde := yde) (yus := yus) (ywe := ywe) (yfo := yfo) (yli := yli) (yso := yso) (ysu := ysu) (yst := yst) (ypa := ypa) (ysp := ysp) (ypl := ypl) (ycp := ycp) (ybo := ybo) (ytk := ytk) (yno := yno) (ych := ych) (yfa := yfa) hG hQ hT hC hE
  unfold wpX_walk
  have K : v1 < 0 ∨ nI 8 ≤ v1 ∨ ∃ j : Nat, j < 8 ∧ v1 = nI j := pk_ix v1 (n := 8) (by omega)
  rw [← or_assoc] at K
  rcases K with c | ⟨f, hf, rfl⟩
  · exact tg_nit0 c (br_t rfl (by unfold wpY_walk; exact tg_yin0 c (br_t rfl ⟨rfl, J⟩)))
  refine tg_nit hf (tg_zbr (fun e1 => ?_) (fun e1 => ?_))
  · unfold wpY_walk
    refine tg_yin hf hR ?_
    rw [e1]
    exact br_t rfl ⟨rfl, J⟩
  have K : v2 < 0 ∨ nI 8 ≤ v2 ∨ ∃ j : Nat, j < 8 ∧ v2 = nI j := pk_ix v2 (n := 8) (by omega)
  rw [← or_assoc] at K
  rcases K with c | ⟨t, ht, rfl⟩
  · refine tg_nit0 c (br_t rfl ?_)
    unfold wpY_walk
    refine tg_yin hf hR ?_
    rw [e1]
    exact br_f tg_10 (tg_yin0 c (br_t rfl ⟨rfl, J⟩))
  refine tg_nit ht (tg_zbr (fun e2 => ?_) (fun e2 => ?_))
  · unfold wpY_walk
    refine tg_yin hf hR ?_
    rw [e1]
    refine br_f tg_10 (tg_yin ht hR ?_)
    rw [e2]
    exact br_t rfl ⟨rfl, J⟩
  obtain ⟨n, c, hn, rfl, rfl, hc, hW⟩ := hE
  rcases Nat.eq_zero_or_pos n with z | z
  · subst z
    refine br_t rfl ?_
    unfold wpY_walk
    refine tg_yin hf hR ?_
    rw [e1]
    refine br_f tg_10 (tg_yin ht hR ?_)
    rw [e2]
    exact br_f tg_10 (br_t rfl ⟨rfl, J⟩)
  obtain ⟨ws, hW⟩ := hW.resolve_left (by omega)
  have n0 : ¬ nI n = 0 := nI_ne0 z (by omega)
  refine br_f n0 (xw_w hn hc hW hR (fun d1 k1 => ?_))
  have i1 : nI f * 8 + nI t = nI (8 * f + t) := by rw [Nat.mul_comm]; exact tg_ix
  obtain ⟨a1, a2⟩ := tb_at k1 (k := 8 * f + t) (by omega)
  have hE : rl_E (nI n) (nI n) pex := ⟨n, c, hn, rfl, rfl, hc, Or.inr ⟨ws, hW⟩⟩
  dsimp only
  rw [i1, nI_clamp (by omega), a1]
  refine ⟨vp_in_nI (by omega) (by omega), nm_e ?_⟩
  by_cases q : ev_k (fun t => tb_ed eT yfr yto yty t 12) c ws n 0 0 (8 * f + t) < 1000000
  · exact br_f (nI_ge (b := 1000000) q (by omega)) (yw_wk hf ht e1 e2 hn z hc hW hR (fun q' => absurd q q') (fun _ d2 => ⟨rfl, rl_mk _ hG hQ hT hC hE⟩))
  · exact br_t (nI_le (a := 1000000) (by omega) (by omega)) (yw_wk hf ht e1 e2 hn z hc hW hR (fun _ d2 => ⟨rfl, rl_mk _ hG hQ hT hC hE⟩) (fun q' => absurd q' q))
theorem xw_rl {post : Int32 → SX → Prop} {f : Nat} (hf : f < 8) {T : Nat → Nat} (hT : tb_N ds 0 T 64) {g : Nat → Bool} (hg : ∀ i, i < 8 → g i = decide (T (8 * f + i) < 1000000)) (h : post (rb_s g 8) (nT, eT, xlv, xpc, xqc, xcc, xec, mc, lw, rc, xla, xpr, xed, sN, sE, sL, sP, sD, pva, pwa, pam, pdi, plo, phi, ptk, pco, pex, tr, ds, ch, ar, rN, rM, s1, s2, s3, s4, s5)) : ∀ d i, i + d = 8 → wX_reach_25 post (nI f) nT eT xlv xpc xqc xcc xec mc lw rc xla xpr xed sN sE sL sP sD pva pwa pam pdi plo phi ptk pco pex tr ds ch ar rN rM s1 s2 s3 s4 s5 (d + 1) (rb_s g i) (nI i) := by
  intro d
  induction d with
  | zero =>
    intro i hi
    have z : i = 8 := by omega
    subst z
    exact br_t (nI_le (a := 8) (by omega) (by omega)) h
  | succ d ih =>
    intro i hi
    have i1 : nI f * 8 + nI i = nI (8 * f + i) := by rw [Nat.mul_comm]; exact tg_ix
    obtain ⟨a1, a2⟩ := tb_at hT (k := 8 * f + i) (by omega)
    have nx := ih (i + 1) (by omega)
    have e : rb_s g (i + 1) = if g i = true then rb_s g i ||| ((1 : Int32) <<< (nI i &&& 31)) else rb_s g i := rfl
    rw [e, hg i (by omega)] at nx
    refine br_f (nI_ge (b := 8) (by omega) (by decide)) ?_
    rw [i1, nI_clamp (by omega), a1]
    refine ⟨vp_in_nI (by omega) (by omega), ?_⟩
    by_cases z : T (8 * f + i) < 1000000
    · rw [decide_eq_true z, if_pos rfl] at nx
      exact br_f (nI_ge (b := 1000000) z (by omega)) (nm_e (nm_r (nI_1 i) nx))
    · rw [decide_eq_false z, if_neg (by decide)] at nx
      exact br_t (nI_le (a := 1000000) (by omega) (by omega)) (nm_r (nI_1 i) nx)
theorem yw_rl {post : Int32 → SY → Prop} {f : Nat} (hf : f < 8) (hR : gr_R nT eT xla xpr xed yla ypr yfr yto yty ywt) {T : Nat → Nat} (hT : tb_N yfa 0 T 64) {g : Nat → Bool} (hg : ∀ i, i < 8 → g i = (bt nT i && decide (T (8 * f + i) < 1000000))) (h : post (rb_s g 8) (ylv, ypc, yqc, ycc, yec, yde, yus, ywe, yfo, yli, yso, ysu, yla, ypr, yfr, yto, yty, ywt, pva, pwa, pam, pdi, plo, phi, ptk, pco, pex, yst, ypa, ysp, ypl, ycp, ybo, ytk, yno, ych, yfa)) : ∀ d i, i + d = 8 → wY_reach_25 post (nI f) ylv ypc yqc ycc yec yde yus ywe yfo yli yso ysu yla ypr yfr yto yty ywt pva pwa pam pdi plo phi ptk pco pex yst ypa ysp ypl ycp ybo ytk yno ych yfa (d + 1) (rb_s g i) (nI i) := by
  intro d
  induction d with
  | zero =>
    intro i hi
    have z : i = 8 := by omega
    subst z
    exact br_t (nI_le (a := 8) (by omega) (by omega)) h
  | succ d ih =>
    intro i hi
    have i1 : 8 * nI f + nI i = nI (8 * f + i) := tg_iy
    obtain ⟨a1, a2⟩ := tb_at hT (k := 8 * f + i) (by omega)
    have nx := ih (i + 1) (by omega)
    have e : rb_s g (i + 1) = if g i = true then rb_s g i ||| ((1 : Int32) <<< (nI i &&& 31)) else rb_s g i := rfl
    rw [e, hg i (by omega)] at nx
    refine br_f (nI_ge (b := 8) (by omega) (by decide)) (tg_yin (by omega) hR (tg_zbr (fun b => ?_) (fun b => ?_)))
    · rw [b, Bool.false_and, if_neg (by decide)] at nx
      exact nm_r (nI_1 i) nx
    · rw [b, Bool.true_and] at nx
      rw [i1, nI_clamp (by omega), a1]
      refine ⟨vp_in_nI (by omega) (by omega), ?_⟩
      by_cases z : T (8 * f + i) < 1000000
      · rw [decide_eq_true z, if_pos rfl] at nx
        exact br_f (nI_ge (b := 1000000) z (by omega)) (nm_e (nm_r (nI_1 i) nx))
      · rw [decide_eq_false z, if_neg (by decide)] at nx
        exact br_t (nI_le (a := 1000000) (by omega) (by omega)) (nm_r (nI_1 i) nx)
theorem i_vc_reach {k : Nat} {u : SX} {v : SY} (I : i_Rel k u v) (hk : k + 7 ≤ 3584) (v1 : Int32) : wpX_reach (fun r u' => wpY_reach (fun r' v' => r' = r ∧ i_Rel (k + 7) u' v') v v1) u v1 := by
  obtain ⟨nT, eT, xlv, xpc, xqc, xcc, xec, mc, lw, rc, xla, xpr, xed, sN, sE, sL, sP, sD, pva, pwa, pam, pdi, plo, phi, ptk, pco, pex, tr, ds, ch, ar, rN, rM, s1, s2, s3, s4, s5⟩ := u
  obtain ⟨ylv, ypc, yqc, ycc, yec, yde, yus, ywe, yfo, yli, yso, ysu, yla, ypr, yfr, yto, yty, ywt, qpva, qpwa, qpam, qpdi, qplo, qphi, qptk, qpco, qpex, yst, ypa, ysp, ypl, ycp, ybo, ytk, yno, ych, yfa⟩ := v
  obtain ⟨⟨rfl, rfl, rfl, rfl, rfl, rfl, rfl, rfl, rfl⟩, hG, hQ, hT, hC, hE⟩ := I
  have hR := hG.1
  have J := rl_mk (k + 7) (mc := mc) (lw := lw) (rc := rc) (tr := tr) (ds := ds) (ch := ch) (ar := ar) (rN := rN) (rM := rM) (s1 := s1) (s2 := s2) (s3 := s3) (s4 := s4) (s5 := s5) (yde := yde) (yus := yus) (ywe := ywe) (yfo := yfo) (yli := yli) (yso := yso) (ysu := ysu) (yst := yst) (ypa := ypa) (ysp := ysp) (ypl := ypl) (ycp := ycp) (ybo := ybo) (ytk := ytk) (yno := yno) (ych := ych) (yfa := yfa) hG hQ hT hC hE
  unfold wpX_reach wpY_reach
  have K : v1 < 0 ∨ nI 8 ≤ v1 ∨ ∃ j : Nat, j < 8 ∧ v1 = nI j := pk_ix v1 (n := 8) (by omega)
  rw [← or_assoc] at K
  rcases K with c | ⟨f, hf, rfl⟩
  · exact tg_nit0 c (br_t rfl (tg_yin0 c (br_t rfl ⟨rfl, J⟩)))
  refine tg_nit hf (tg_zbr (fun e1 => ?_) (fun e1 => ?_))
  · refine tg_yin hf hR ?_
    rw [e1]
    exact br_t rfl ⟨rfl, J⟩
  obtain ⟨n, c, hn, rfl, rfl, hc, hW⟩ := hE
  rcases Nat.eq_zero_or_pos n with z | z
  · subst z
    refine br_t rfl (tg_yin hf hR ?_)
    rw [e1]
    exact br_f tg_10 (br_t rfl ⟨rfl, J⟩)
  obtain ⟨ws, hW⟩ := hW.resolve_left (by omega)
  have n0 : ¬ nI n = 0 := nI_ne0 z (by omega)
  have hE : rl_E (nI n) (nI n) pex := ⟨n, c, hn, rfl, rfl, hc, Or.inr ⟨ws, hW⟩⟩
  have th := th_ev hR hW n 0 (by omega) 0 (by rw [hW.1]; omega)
  refine br_f n0 (xw_w hn hc hW hR (fun d1 k1 => ⟨9, xw_rl hf k1 (g := fun i => decide (ev_k (fun t => tb_ed eT yfr yto yty t 12) c ws n 0 0 (8 * f + i) < 1000000)) (fun i hi => rfl) (tg_yin hf hR ?_) 8 0 (by omega)⟩))
  rw [e1]
  refine br_f tg_10 (br_f n0 (yw_w hn hc hW hR (fun d2 k2 => ⟨9, yw_rl hf hR k2 (fun i hi => ?_) ⟨rfl, rl_mk _ hG hQ hT hC hE⟩ 8 0 (by omega)⟩)))
  cases b : bt nT i
  · rw [Bool.false_and, decide_eq_false]
    intro q
    have := th f i hf hi q e1
    rw [b] at this
    exact absurd this (by decide)
  · rw [Bool.true_and]
