/-! spellOut -/
variable {nT : Int32} {eT : Int32} {xlv : Int32} {xpc : Int32} {xqc : Int32} {xcc : Int32} {xec : Int32} {mc : Int32} {lw : Int32} {rc : Int32} {xla : Nat → Int32} {xpr : Nat → Int64} {xed : Nat → Int32} {sN : Nat → Int32} {sE : Nat → Int32} {sL : Nat → Int32} {sP : Nat → Int64} {sD : Nat → Int32} {pva : Nat → Int32} {pwa : Nat → Int32} {pam : Nat → Int32} {pdi : Nat → Int32} {plo : Nat → Int32} {phi : Nat → Int32} {ptk : Nat → Int32} {pco : Nat → Int32} {pex : Nat → Int32} {tr : Nat → Int32} {ds : Nat → Int32} {ch : Nat → Int32} {ar : Nat → Int32} {rN : Nat → Int32} {rM : Nat → Int32} {s1 : Nat → Int32} {s2 : Nat → Int32} {s3 : Nat → Int32} {s4 : Nat → Int32} {s5 : Nat → Int32}
variable {ylv : Int32} {ypc : Int32} {yqc : Int32} {ycc : Int32} {yec : Int32} {yde : Int32} {yus : Int32} {ywe : Int32} {yfo : Int32} {yli : Int32} {yso : Int32} {ysu : Int64} {yla : Nat → Int32} {ypr : Nat → Int64} {yfr : Nat → Int32} {yto : Nat → Int32} {yty : Nat → Int32} {ywt : Nat → Int32} {yst : Nat → Int32} {ypa : Nat → Int32} {ysp : Nat → Int32} {ypl : Nat → Int32} {ycp : Nat → Int32} {ybo : Nat → Int32} {ytk : Nat → Int32} {yno : Nat → Int32} {ych : Nat → Int32} {yfa : Nat → Int32}
theorem yw_294 {post : SY → Prop} {J : _} {x1 x2 : Int32} {b : Nat} {A : Nat → Nat} (hb : b ≤ 9) (h : ∀ ds', tb_N ds' b A 64 → tb_F b yfa ds' → J x1 (x2 + (-1)) ylv ypc yqc ycc yec yde yus ywe yfo yli yso ysu yla ypr yfr yto yty ywt pva pwa pam pdi plo phi ptk pco pex yst ypa ysp ypl ycp ybo ytk yno ych ds') (hA : tb_N yfa 10 A 64) : ∃ f, wY_spellOut_294 post J x1 x2 (nI (b * 64)) ylv ypc yqc ycc yec yde yus ywe yfo yli yso ysu f 0 yla ypr yfr yto yty ywt pva pwa pam pdi plo phi ptk pco pex yst ypa ysp ypl ycp ybo ytk yno ych yfa := by
  have K : ∀ d c ds', c + d = 64 → tb_N ds' 10 A 64 → tb_N ds' b A c → tb_F b yfa ds' → wY_spellOut_294 post J x1 x2 (nI (b * 64)) ylv ypc yqc ycc yec yde yus ywe yfo yli yso ysu (d + 1) (nI c) yla ypr yfr yto yty ywt pva pwa pam pdi plo phi ptk pco pex yst ypa ysp ypl ycp ybo ytk yno ych ds' := by
    intro d
    induction d with
    | zero =>
      intro c ds' hd k0 k1 k2
      have z : c = 64 := by omega
      subst z
      exact br_t (nI_le (a := 64) (by omega) (by omega)) (nm_e (h ds' k1 k2))
    | succ d ih =>
      intro c ds' hd k0 k1 k2
      obtain ⟨a1, a2⟩ := k0 c (by omega)
      have e : 640 + nI c = nI (10 * 64 + c) := nI_add 640 c
      refine br_f (nI_ge (b := 64) (by omega) (by decide)) ?_
      rw [e, nI_add, nI_clamp (show 10 * 64 + c < 2 ^ 31 by omega)]
      exact ⟨vp_in_nI (by omega) (by omega), vp_in_nI (by omega) (by omega), nm_r (tg_u (by omega)) (nm_r (nI_1 c) (ih (c + 1) _ (by omega) (tb_o k0 (by omega) (by omega) (by omega)) (tb_s k1 a1 a2) (tb_Fu k2 (Nat.le_refl b))))⟩
  exact ⟨65, K 64 0 yfa (by omega) hA (fun k hk => absurd hk (Nat.not_lt_zero k)) (tb_Fr b yfa)⟩
theorem yw_70 {post : SY → Prop} {J : _} {x1 x2 : Int32} {b : Nat} {A : Nat → Nat} (hb : b ≤ 9) (h : ∀ ds', tb_N ds' b A 64 → tb_F b yfa ds' → J x1 (x2 + (-1)) ylv ypc yqc ycc yec yde yus ywe yfo yli yso ysu yla ypr yfr yto yty ywt pva pwa pam pdi plo phi ptk pco pex yst ypa ysp ypl ycp ybo ytk yno ych ds') (hA : tb_N yfa 10 A 64) : ∃ f, wY_spellOut_70 post J x1 x2 (nI ((b + 1) * 64)) ylv ypc yqc ycc yec yde yus ywe yfo yli yso ysu f 0 yla ypr yfr yto yty ywt pva pwa pam pdi plo phi ptk pco pex yst ypa ysp ypl ycp ybo ytk yno ych yfa := by
  have e0 : nI ((b + 1) * 64) - 64 = nI (b * 64) := by
    have := pk_sub (a := (b + 1) * 64) (b := 64) (by omega)
    rw [show (b + 1) * 64 - 64 = b * 64 from by omega] at this
    exact this
  have K : ∀ d c ds', c + d = 64 → tb_N ds' 10 A 64 → tb_N ds' b A c → tb_F b yfa ds' → wY_spellOut_70 post J x1 x2 (nI ((b + 1) * 64)) ylv ypc yqc ycc yec yde yus ywe yfo yli yso ysu (d + 1) (nI c) yla ypr yfr yto yty ywt pva pwa pam pdi plo phi ptk pco pex yst ypa ysp ypl ycp ybo ytk yno ych ds' := by
    intro d
    induction d with
    | zero =>
      intro c ds' hd k0 k1 k2
      have z : c = 64 := by omega
      subst z
      exact br_t (nI_le (a := 64) (by omega) (by omega)) (nm_e (h ds' k1 k2))
    | succ d ih =>
      intro c ds' hd k0 k1 k2
      obtain ⟨a1, a2⟩ := k0 c (by omega)
      have e : 640 + nI c = nI (10 * 64 + c) := nI_add 640 c
      refine br_f (nI_ge (b := 64) (by omega) (by decide)) ?_
      rw [e, e0, nI_add, nI_clamp (show 10 * 64 + c < 2 ^ 31 by omega)]
      exact ⟨vp_in_nI (by omega) (by omega), vp_in_nI (by omega) (by omega), nm_r (tg_u (by omega)) (nm_r (nI_1 c) (ih (c + 1) _ (by omega) (tb_o k0 (by omega) (by omega) (by omega)) (tb_s k1 a1 a2) (tb_Fu k2 (Nat.le_refl b))))⟩
  exact ⟨65, K 64 0 yfa (by omega) hA (fun k hk => absurd hk (Nat.not_lt_zero k)) (tb_Fr b yfa)⟩
theorem yw_244 {post : SY → Prop} {J : _} {x2 : Int32} {b : Nat} {A : Nat → Nat} (hb : b ≤ 8) (hl : ∀ k, k < 64 → A k ≤ 1000000) (h : ∀ ds', tb_N ds' b (tb_w A) 64 → tb_F b yfa ds' → J (nI ((b + 1) * 64)) (x2 + (-1)) ylv ypc yqc ycc yec yde yus ywe yfo yli yso ysu yla ypr yfr yto yty ywt pva pwa pam pdi plo phi ptk pco pex yst ypa ysp ypl ycp ybo ytk yno ych ds') (hA : tb_N yfa b A 64) : ∃ f, wY_spellOut_244 post J (nI ((b + 1) * 64)) x2 (nI (b * 64)) ylv ypc yqc ycc yec yde yus ywe yfo yli yso ysu f 0 yla ypr yfr yto yty ywt pva pwa pam pdi plo phi ptk pco pex yst ypa ysp ypl ycp ybo ytk yno ych yfa := by
  have K : ∀ d c ds', c + d = 64 → tb_N ds' (b + 1) A c → tb_F (b + 1) yfa ds' → wY_spellOut_244 post J (nI ((b + 1) * 64)) x2 (nI (b * 64)) ylv ypc yqc ycc yec yde yus ywe yfo yli yso ysu (d + 1) (nI c) yla ypr yfr yto yty ywt pva pwa pam pdi plo phi ptk pco pex yst ypa ysp ypl ycp ybo ytk yno ych ds' := by
    intro d
    induction d with
    | zero =>
      intro c ds' hd k1 k2
      have z : c = 64 := by omega
      subst z
      refine br_t (nI_le (a := 64) (by omega) (by omega)) (yw_r (by omega) k1 (fun d2 j1 j2 => yw_c (by omega) (by omega) (tb_NF (tb_NF hA k2 (by omega) (Nat.le_refl 64)) j2 (by omega) (Nat.le_refl 64)) j1 (fun d3 i1 i2 => yw_294 (by omega) (fun d4 l1 l2 => h d4 (tb_c0 l1 (fun k hk => (tb_13 A hl k hk).symm)) ?_) i1)))
      exact fun j hj => (l2 j hj).trans ((i2 j (by omega)).trans ((j2 j (by omega)).trans (k2 j (by omega))))
    | succ d ih =>
      intro c ds' hd k1 k2
      obtain ⟨a1, a2⟩ := hA c (by omega)
      refine br_f (nI_ge (b := 64) (by omega) (by decide)) ?_
      rw [nI_add, nI_add, nI_clamp (show b * 64 + c < 2 ^ 31 by omega)]
      exact ⟨vp_in_nI (by omega) (by omega), vp_in_nI (by omega) (by omega), nm_r (tg_u (by omega)) (nm_r (nI_1 c) (ih (c + 1) _ (by omega) (tb_s k1 ((k2 _ (by omega)).trans a1) a2) (tb_Fu k2 (Nat.le_refl _))))⟩
  exact ⟨65, K 64 0 yfa (by omega) (fun k hk => absurd hk (Nat.not_lt_zero k)) (tb_Fr _ yfa)⟩
theorem yw_211 {post : SY → Prop} {J : _} {x1 x2 : Int32} {b : Nat} {A : Nat → Nat} (hb : b ≤ 9) (h : ∀ ds', tb_N ds' b (tb_z A) 64 → tb_F b yfa ds' → J x1 (x2 + (-1)) ylv ypc yqc ycc yec yde yus ywe yfo yli yso ysu yla ypr yfr yto yty ywt pva pwa pam pdi plo phi ptk pco pex yst ypa ysp ypl ycp ybo ytk yno ych ds') (hA : tb_N yfa b A 64) : ∃ f, wY_spellOut_211 post J x1 x2 (nI (b * 64)) ylv ypc yqc ycc yec yde yus ywe yfo yli yso ysu f 0 yla ypr yfr yto yty ywt pva pwa pam pdi plo phi ptk pco pex yst ypa ysp ypl ycp ybo ytk yno ych yfa := by
  have K : ∀ d i ds', i + d = 8 → tb_N ds' b (fun k => if k / 8 = k % 8 ∧ k < 9 * i then 0 else A k) 64 → tb_F b yfa ds' → wY_spellOut_211 post J x1 x2 (nI (b * 64)) ylv ypc yqc ycc yec yde yus ywe yfo yli yso ysu (d + 1) (nI i) yla ypr yfr yto yty ywt pva pwa pam pdi plo phi ptk pco pex yst ypa ysp ypl ycp ybo ytk yno ych ds' := by
    intro d
    induction d with
    | zero =>
      intro i ds' hd k1 k2
      have z : i = 8 := by omega
      subst z
      refine br_t (nI_le (a := 8) (by omega) (by omega)) (nm_e (h ds' (tb_c0 k1 (fun k hk => ?_)) k2))
      unfold tb_z
      by_cases x : k / 8 = k % 8
      · rw [if_pos x, if_pos (by omega)]
      · rw [if_neg x, if_neg (by omega)]
    | succ d ih =>
      intro i ds' hd k1 k2
      have e : 9 * nI i = nI (9 * i) := pk_mul 9 i
      refine br_f (nI_ge (b := 8) (by omega) (by decide)) ?_
      rw [e, nI_add]
      exact ⟨vp_in_nI (by omega) (by omega), nm_r (tg_u (by omega)) (nm_r (nI_1 i) (ih (i + 1) _ (by omega) (tb_z9 (by omega) k1) (tb_Fu k2 (Nat.le_refl b))))⟩
  exact ⟨9, K 8 0 yfa (by omega) (tb_c0 hA (fun k hk => if_neg (by omega))) (tb_Fr b yfa)⟩
theorem yw_122 {post : SY → Prop} {J : _} {x1 x2 : Int32} {q : Nat} {A B : Nat → Nat} (hq : q ≤ 8) (h : ∀ ds', tb_N ds' q (tb_m A B) 64 → tb_F q yfa ds' → J x1 (x2 + (-1)) ylv ypc yqc ycc yec yde yus ywe yfo yli yso ysu yla ypr yfr yto yty ywt pva pwa pam pdi plo phi ptk pco pex yst ypa ysp ypl ycp ybo ytk yno ych ds') (hA : tb_N yfa (q + 1) A 64) (hB : tb_N yfa q B 64) : ∃ f, wY_spellOut_122 post J x1 x2 (nI ((q + 1) * 64)) ylv ypc yqc ycc yec yde yus ywe yfo yli yso ysu f 0 yla ypr yfr yto yty ywt pva pwa pam pdi plo phi ptk pco pex yst ypa ysp ypl ycp ybo ytk yno ych yfa := by
  have e0 : nI ((q + 1) * 64) - 64 = nI (q * 64) := by
    have := pk_sub (a := (q + 1) * 64) (b := 64) (by omega)
    rw [show (q + 1) * 64 - 64 = q * 64 from by omega] at this
    exact this
  have K : ∀ d c ds', c + d = 64 → tb_N ds' (q + 1) A 64 → tb_N ds' q (fun k => if k < c then tb_m A B k else B k) 64 → tb_F q yfa ds' → wY_spellOut_122 post J x1 x2 (nI ((q + 1) * 64)) ylv ypc yqc ycc yec yde yus ywe yfo yli yso ysu (d + 1) (nI c) yla ypr yfr yto yty ywt pva pwa pam pdi plo phi ptk pco pex yst ypa ysp ypl ycp ybo ytk yno ych ds' := by
    intro d
    induction d with
    | zero =>
      intro c ds' hd k0 k1 k2
      have z : c = 64 := by omega
      subst z
      exact br_t (nI_le (a := 64) (by omega) (by omega)) (nm_e (h ds' (tb_c0 k1 (fun k hk => (if_pos hk).symm)) k2))
    | succ d ih =>
      intro c ds' hd k0 k1 k2
      obtain ⟨a1, a2⟩ := k0 c (by omega)
      obtain ⟨b1, b2⟩ := k1 c (by omega)
      dsimp only at b1 b2
      rw [if_neg (Nat.lt_irrefl c)] at b1 b2
      refine br_f (nI_ge (b := 64) (by omega) (by decide)) ?_
      rw [e0, nI_add, nI_add, nI_clamp (show (q + 1) * 64 + c < 2 ^ 31 by omega), nI_clamp (show q * 64 + c < 2 ^ 31 by omega), a1, b1]
      have w1 : vp_in (nI ((q + 1) * 64 + c)) 704 := vp_in_nI (by omega) (by omega)
      have w2 : vp_in (nI (q * 64 + c)) 704 := vp_in_nI (by omega) (by omega)
      refine ⟨w1, w2, ?_⟩
      by_cases z : A c < B c
      · refine br_f (nI_ge z (by omega)) ⟨w1, w2, nm_e (nm_r (nI_1 c) (ih (c + 1) _ (by omega) (tb_o k0 (by omega) (by omega) (by omega)) (tb_c0 (tb_u k1 (c := c) (v := A c) (by omega)) (fun k hk => ?_)) (tb_Fu k2 (Nat.le_refl q))))⟩
        by_cases y : k = c
        · subst y; rw [if_pos (by omega), if_pos rfl]; exact if_pos z
        · rw [if_neg y]
          by_cases x : k < c
          · rw [if_pos x, if_pos (by omega)]
          · rw [if_neg x, if_neg (by omega)]
      · refine br_t (nI_le (by omega) (by omega)) (nm_r (nI_1 c) (ih (c + 1) ds' (by omega) k0 (tb_c0 k1 (fun k hk => ?_)) k2))
        by_cases y : k = c
        · subst y; rw [if_pos (by omega), if_neg (by omega)]; exact if_neg z
        · by_cases x : k < c
          · rw [if_pos x, if_pos (by omega)]
          · rw [if_neg x, if_neg (by omega)]
  exact ⟨65, K 64 0 yfa (by omega) hA (tb_c0 hB (fun k hk => if_neg (Nat.not_lt_zero k))) (tb_Fr q yfa)⟩
theorem tg_s64 (b : Nat) : nI ((b + 1) * 64) - 64 = nI (b * 64) := by
  have := pk_sub (a := (b + 1) * 64) (b := 64) (by omega)
  rw [show (b + 1) * 64 - 64 = b * 64 from by omega] at this
  exact this
theorem yw_l {post : SY → Prop} {n : Nat} {c ws : Nat → Nat} (hn : n ≤ 10) (hc : ∀ k, k < n → pex k = nI (c k)) (hW : ep_W c n ws) (hR : gr_R nT eT xla xpr xed yla ypr yfr yto yty ywt)
    (h : ∀ ds', tb_N ds' 0 (ev_k (fun t => tb_ed eT yfr yto yty t 12) c ws n 0 0) 64 → post (ylv, ypc, yqc, ycc, yec, yde, yus, ywe, yfo, yli, yso, ysu, yla, ypr, yfr, yto, yty, ywt, pva, pwa, pam, pdi, plo, phi, ptk, pco, pex, yst, ypa, ysp, ypl, ycp, ybo, ytk, yno, ych, ds')) : ∀ i yfa, i ≤ n → ev_I yfa (ws i) (ev_k (fun t => tb_ed eT yfr yto yty t 12) c ws n i) → wY_spellOut_9 post (i + 1) (nI (ws i * 64)) (nI i + (-1)) ylv ypc yqc ycc yec yde yus ywe yfo yli yso ysu yla ypr yfr yto yty ywt pva pwa pam pdi plo phi ptk pco pex yst ypa ysp ypl ycp ybo ytk yno ych yfa := by
  intro i
  induction i with
  | zero =>
    intro ds hi hs
    exact br_t (by decide) (h ds (hs 0 (by rw [hW.1]; omega)))
  | succ k ih =>
    intro ds hi hs
    have wb := ep_wb hW (n - (k + 1)) (k + 1) (by omega)
    have ck := hc k (by omega)
    rw [pk_m1]
    have ct : c k ≤ 14 := by have := (hW.2.2 k (by omega)).2; omega
    have ne : ∀ a, a < 100 → c k ≠ a → ¬ nI (c k) = nI a := fun a ha q e => q ((nI_eq (by omega) (by omega)).mp e)
    refine br_f (nI_pos (by omega)) ⟨vp_in_nI (by omega) (by omega), nm_r (show _ = nI (c k) from by rw [nI_clamp (by omega), ck]) ?_⟩
    obtain ⟨w0, q⟩ := hW.2.2 k (by omega)
    rcases q with ⟨h5, hw⟩ | ⟨h5, hw⟩ | ⟨h5, h6, hw⟩
    · refine nm_e (br_f (nI_ge (b := 6) (by omega) (by omega)) (yw_e2 (by omega) h5 hR (fun ds' k1 k2 => nm_r (show _ = nI (ws k * 64) from ?_) (nm_e (ih ds' (by omega) (ev_l (by omega) hs h5 (by omega) k1 k2))))))
      have : nI (ws (k + 1) * 64) + 64 = nI (ws (k + 1) * 64 + 64) := nI_add _ 64
      rw [this]; exact congrArg nI (by omega)
    · obtain ⟨w, ew⟩ : ∃ w, ws k = w + 1 := ⟨ws k - 1, by omega⟩
      have e1 : nI (ws (k + 1) * 64) - 64 = nI (ws k * 64) := by rw [hw]; exact tg_s64 _
      refine nm_r e1 (br_t (nI_le (a := 6) (by omega) (by omega)) ?_)
      rcases h5 with h5 | h5
      · refine br_t (by rw [h5]; rfl) ?_
        have e2 : nI (ws k * 64) - 64 = nI ((ws k - 1) * 64) := by rw [ew]; exact tg_s64 w
        rw [e2]
        refine yw_c (by omega) (by omega) (hs (ws k) (by omega)) (hs (ws k - 1) (by omega)) (fun ds' k1 k2 => ?_)
        have nx := yw_70 (post := post) (yfa := ds') (b := ws k - 1) (J := wY_spellOut_9 post (k + 1)) (x1 := nI (ws k * 64)) (x2 := nI k) (by omega) (fun d2 j1 j2 => ih d2 (by omega) (ev_b (by omega) hs h5 hw w0 j1 (fun j hj => (j2 j hj).trans (k2 j (by omega))))) k1
        rw [show ws k - 1 + 1 = ws k from by omega] at nx
        exact nx
      · refine br_f (ne 10 (by omega) (by omega)) (br_t (by rw [h5]; rfl) ?_)
        have hA := hs (ws k) (by omega)
        have nx := yw_122 (post := post) (yfa := ds) (q := ws k - 1) (J := wY_spellOut_9 post (k + 1)) (x1 := nI (ws k * 64)) (x2 := nI k) (A := ev_k (fun t => tb_ed eT yfr yto yty t 12) c ws n (k + 1) (ws k)) (by omega) (fun d2 j1 j2 => ih d2 (by omega) (ev_m (by omega) hs h5 hw w0 j1 j2)) (by rw [show ws k - 1 + 1 = ws k from by omega]; exact hA) (hs (ws k - 1) (by omega))
        rw [show ws k - 1 + 1 = ws k from by omega] at nx
        exact nx
    · obtain ⟨w, ew⟩ : ∃ w, ws k = w + 1 := ⟨ws k - 1, by omega⟩
      have e1 : nI (ws (k + 1) * 64) - 64 = nI ((ws k - 1) * 64) := by rw [hw, ew]; exact tg_s64 _
      have hA := hs (ws k - 1) (by omega)
      have done : ∀ ds', tb_N ds' (ws k - 1) (tb_t (c k) (ev_k (fun t => tb_ed eT yfr yto yty t 12) c ws n (k + 1) (ws k - 1))) 64 → tb_F (ws k - 1) ds ds' → wY_spellOut_9 post (k + 1) (nI (ws (k + 1) * 64)) (nI k + (-1)) ylv ypc yqc ycc yec yde yus ywe yfo yli yso ysu yla ypr yfr yto yty ywt pva pwa pam pdi plo phi ptk pco pex yst ypa ysp ypl ycp ybo ytk yno ych ds' := fun ds' k1 k2 => by
        rw [hw]
        exact ih ds' (by omega) (ev_t (by omega) hs h5 hw w0 k1 k2)
      refine nm_r e1 (br_t (nI_le (a := 6) (by omega) (by omega)) (br_f (ne 10 (by omega) (by omega)) (br_f (ne 11 (by omega) (by omega)) ?_)))
      by_cases z : c k = 12
      · refine br_t (by rw [z]; rfl) (yw_r (by omega) hA (fun ds' k1 k2 => nm_e (done ds' (tb_c0 k1 (fun j hj => ?_)) k2)))
        unfold tb_t
        rw [if_pos z]
        exact (tb_12 _ j hj).symm
      refine br_f (ne 12 (by omega) z) ?_
      by_cases y : c k = 14
      · refine br_t (by rw [y]; rfl) (yw_211 (by omega) (fun ds' k1 k2 => done ds' (tb_c0 k1 (fun j hj => ?_)) k2) hA)
        unfold tb_t
        rw [if_neg z, if_neg (by omega)]
      refine br_f (ne 14 (by omega) y) ?_
      have e3 : ws (k + 1) = ws k - 1 + 1 := by omega
      have nx := yw_244 (post := post) (yfa := ds) (b := ws k - 1) (J := wY_spellOut_9 post (k + 1)) (x2 := nI k) (by omega) (fun j hj => (hA j hj).2) (fun ds' k1 k2 => by
        rw [← e3]
        refine done ds' (tb_c0 k1 (fun j hj => ?_)) k2
        unfold tb_t
        rw [if_neg z, if_pos (by omega)]) hA
      rw [← e3] at nx
      exact nx
theorem yw_w {post : SY → Prop} {n : Nat} {c ws : Nat → Nat} (hn : n ≤ 10) (hc : ∀ k, k < n → pex k = nI (c k)) (hW : ep_W c n ws) (hR : gr_R nT eT xla xpr xed yla ypr yfr yto yty ywt)
    (h : ∀ ds', tb_N ds' 0 (ev_k (fun t => tb_ed eT yfr yto yty t 12) c ws n 0 0) 64 → post (ylv, ypc, yqc, ycc, (nI n), yde, yus, ywe, yfo, yli, yso, ysu, yla, ypr, yfr, yto, yty, ywt, pva, pwa, pam, pdi, plo, phi, ptk, pco, pex, yst, ypa, ysp, ypl, ycp, ybo, ytk, yno, ych, ds')) : wpY_spellOut post (ylv, ypc, yqc, ycc, (nI n), yde, yus, ywe, yfo, yli, yso, ysu, yla, ypr, yfr, yto, yty, ywt, pva, pwa, pam, pdi, plo, phi, ptk, pco, pex, yst, ypa, ysp, ypl, ycp, ybo, ytk, yno, ych, yfa) := by
  have K := yw_l (yec := nI n) hn hc hW hR h n yfa (Nat.le_refl n) (fun s hs => absurd hs (by rw [hW.2.1]; exact Nat.not_lt_zero s))
  refine nm_r (Int32.sub_eq_add_neg (nI n) 1) ⟨n + 1, ?_⟩
  rw [hW.2.1] at K
  exact K
