/-! forget, start, hop, token -/
theorem qu_Hc {am am' h h' : Nat → Int32} : ∀ P, (∀ k, k < P → am' k = am k ∧ h' k = h k) → qu_H am' h' P = qu_H am h P
  | 0, _ => rfl
  | P + 1, e => by
    show qu_H am' h' P + _ = qu_H am h P + _
    rw [qu_Hc P (fun k hk => e k (by omega)), (e P (by omega)).1, (e P (by omega)).2]
theorem qu_Pc {va wa am di lo h va' wa' am' di' lo' h' : Nat → Int32} {k : Nat} (q : qu_P va wa am di lo h k) (e1 : va' k = va k) (e2 : wa' k = wa k) (e3 : am' k = am k) (e4 : di' k = di k) (e5 : lo' k = lo k) (e6 : h' k = h k) : qu_P va' wa' am' di' lo' h' k := by
  unfold qu_P
  rw [e1, e2, e3, e4, e5, e6]
  exact q
theorem cd_mono {c : Nat → Nat} {nm nm' : Nat → Prop} {n : Nat} {cs os : Nat → Nat} {nu : Nat → Prop} (h : cd_W c nm n cs os nu) (m : ∀ v, nm v → nm' v) : cd_W c nm' n cs os nu := by
  refine ⟨h.1, h.2.1, h.2.2.1, h.2.2.2.1, fun k hk => ?_⟩
  rcases h.2.2.2.2 k hk with ⟨a, b, d, e, f⟩ | r
  · exact Or.inl ⟨a, b, d, e, f.imp (fun q => ⟨q.1, m _ q.2⟩) id⟩
  · exact Or.inr r
theorem rl_C0 {xpc : Int32} {va co : Nat → Int32} : rl_C 0 0 xpc va co := ⟨0, fun _ => 0, by omega, rfl, rfl, fun b hb => absurd hb (Nat.not_lt_zero b), Or.inl rfl⟩
theorem rl_Cs {xcc ycc : Int32} {va co : Nat → Int32} {P : Nat} {x : Int32} (hP : P < 6) (h : rl_C xcc ycc (nI P) va co) : rl_C xcc ycc (nI (P + 1)) (upd va P x) co := by
  obtain ⟨n, c, h1, h2, h3, h4, h5⟩ := h
  refine ⟨n, c, h1, h2, h3, h4, h5.imp id (fun ⟨cs, os, nu, w⟩ => ⟨cs, os, nu, cd_mono w ?_⟩)⟩
  rintro v ⟨k, P', a, b, e, f⟩
  have e' : P = P' := (nI_eq (by omega) (by omega)).mp e
  exact ⟨k, P + 1, by omega, by omega, rfl, by rw [pk_un (by omega)]; exact f⟩
theorem tg_rng {x : Int32} (a b : Nat) (hb : b < 2 ^ 30) (h1 : ¬ x < nI a) (h2 : ¬ nI b < x) (ha : a ≤ b) : ∃ j, a ≤ j ∧ j ≤ b ∧ x = nI j := by
  rcases pk_ix x (n := b + 1) (by omega) with z | z | ⟨j, hj, rfl⟩
  · exact absurd (Int32.lt_of_lt_of_le z (nI_pos' (by omega))) h1
  · exact absurd (Int32.lt_of_lt_of_le (nI_lt (Nat.lt_succ_self b) (by omega)) z) h2
  · rw [nI_ltI (by omega) (by omega)] at h1
    exact ⟨j, by omega, by omega, rfl⟩
theorem tg_can {post : Int32 → Prop} {x y : Int32} (h0 : ¬ ((∃ v, v < 4 ∧ x = nI v) ∧ (∃ w, w < 16 ∧ y = nI w)) → post 0) (h1 : ∀ v w, v < 4 → w < 16 → x = nI v → y = nI w → post 1) : wpX_canName post x y := by
  rcases pk_ix x (n := 4) (by omega) with c | c | ⟨v, hv, rfl⟩
  · exact br_t c (h0 (fun ⟨⟨v, hv, e⟩, _⟩ => absurd c (by rw [e]; exact nI_pos (by omega))))
  · obtain ⟨c0, c1, c2⟩ := tg_hi 3 (by omega) c
    exact br_f c0 (br_t c (h0 (fun ⟨⟨v, hv, e⟩, _⟩ => absurd c (by rw [e]; exact nI_ge hv (by omega)))))
  · rcases pk_ix y (n := 16) (by omega) with c | c | ⟨w, hw, rfl⟩
    · exact br_f (nI_pos (by omega)) (br_f (nI_ge (b := 4) hv (by decide)) (br_t c (h0 (fun ⟨_, ⟨v, hv, e⟩⟩ => absurd c (by rw [e]; exact nI_pos (by omega))))))
    · obtain ⟨c0, c1, c2⟩ := tg_hi 15 (by omega) c
      exact br_f (nI_pos (by omega)) (br_f (nI_ge (b := 4) hv (by decide)) (br_f c0 (br_t c2 (h0 (fun ⟨_, ⟨v, hv, e⟩⟩ => absurd c (by rw [e]; exact nI_ge hv (by omega)))))))
    · exact br_f (nI_pos (by omega)) (br_f (nI_ge (b := 4) hv (by decide)) (br_f (nI_pos (by omega)) (br_f (nI_nlt (b := w) (a := 15) (by omega) (by omega)) (h1 v w hv hw rfl rfl))))
theorem tg_nr {x : Int32} {a b : Nat} (hb : b < 2 ^ 30) (h : x < nI a ∨ nI b < x) : ¬ ∃ j, a ≤ j ∧ j ≤ b ∧ x = nI j := by
  rintro ⟨j, h1, h2, rfl⟩
  rcases h with h | h
  · exact nI_nlt h1 (by omega) h
  · exact nI_nlt h2 (by omega) h
variable {nT : Int32} {eT : Int32} {xlv : Int32} {xpc : Int32} {xqc : Int32} {xcc : Int32} {xec : Int32} {mc : Int32} {lw : Int32} {rc : Int32} {xla : Nat → Int32} {xpr : Nat → Int64} {xed : Nat → Int32} {sN : Nat → Int32} {sE : Nat → Int32} {sL : Nat → Int32} {sP : Nat → Int64} {sD : Nat → Int32} {pva : Nat → Int32} {pwa : Nat → Int32} {pam : Nat → Int32} {pdi : Nat → Int32} {plo : Nat → Int32} {phi : Nat → Int32} {ptk : Nat → Int32} {pco : Nat → Int32} {pex : Nat → Int32} {tr : Nat → Int32} {ds : Nat → Int32} {ch : Nat → Int32} {ar : Nat → Int32} {rN : Nat → Int32} {rM : Nat → Int32} {s1 : Nat → Int32} {s2 : Nat → Int32} {s3 : Nat → Int32} {s4 : Nat → Int32} {s5 : Nat → Int32}
variable {ylv : Int32} {ypc : Int32} {yqc : Int32} {ycc : Int32} {yec : Int32} {yde : Int32} {yus : Int32} {ywe : Int32} {yfo : Int32} {yli : Int32} {yso : Int32} {ysu : Int64} {yla : Nat → Int32} {ypr : Nat → Int64} {yfr : Nat → Int32} {yto : Nat → Int32} {yty : Nat → Int32} {ywt : Nat → Int32} {yst : Nat → Int32} {ypa : Nat → Int32} {ysp : Nat → Int32} {ypl : Nat → Int32} {ycp : Nat → Int32} {ybo : Nat → Int32} {ytk : Nat → Int32} {yno : Nat → Int32} {ych : Nat → Int32} {yfa : Nat → Int32}
theorem i_vc_forget {k : Nat} {u : SX} {v : SY} (I : i_Rel k u v) (hk : k + 7 ≤ 3584) : wpX_forget (fun r u' => wpY_forget (fun r' v' => r' = r ∧ i_Rel (k + 7) u' v') v) u := by
  obtain ⟨nT, eT, xlv, xpc, xqc, xcc, xec, mc, lw, rc, xla, xpr, xed, sN, sE, sL, sP, sD, pva, pwa, pam, pdi, plo, phi, ptk, pco, pex, tr, ds, ch, ar, rN, rM, s1, s2, s3, s4, s5⟩ := u
  obtain ⟨ylv, ypc, yqc, ycc, yec, yde, yus, ywe, yfo, yli, yso, ysu, yla, ypr, yfr, yto, yty, ywt, qpva, qpwa, qpam, qpdi, qplo, qphi, qptk, qpco, qpex, yst, ypa, ysp, ypl, ycp, ybo, ytk, yno, ych, yfa⟩ := v
  obtain ⟨⟨rfl, rfl, rfl, rfl, rfl, rfl, rfl, rfl, rfl⟩, hG, hQ, hT, hC, hE⟩ := I
  obtain ⟨P, hP, rfl, rfl, hp, hH⟩ := hQ
  exact ⟨rfl, rl_mk _ hG ⟨0, by omega, rfl, rfl, fun b hb => absurd hb (Nat.not_lt_zero b), Nat.zero_le _⟩ hT rl_C0 hE⟩
theorem tg_xadd {post : SX → Prop} {P : Nat} (hP : P < 6) {x y : Int32} (h : post (nT, eT, xlv, (nI (P + 1)), xqc, xcc, xec, mc, lw, rc, xla, xpr, xed, sN, sE, sL, sP, sD, (upd pva P x), (upd pwa P y), pam, pdi, plo, phi, ptk, pco, pex, tr, ds, ch, ar, rN, rM, s1, s2, s3, s4, s5)) : wpX_addPart post (nT, eT, xlv, (nI P), xqc, xcc, xec, mc, lw, rc, xla, xpr, xed, sN, sE, sL, sP, sD, pva, pwa, pam, pdi, plo, phi, ptk, pco, pex, tr, ds, ch, ar, rN, rM, s1, s2, s3, s4, s5) x y :=
  ⟨vp_in_nI hP (by decide), nm_r (tg_u (by omega)) ⟨vp_in_nI hP (by decide), nm_r (tg_u (by omega)) (nm_r (nI_1 P) h)⟩⟩
theorem tg_yadd {post : Int32 → SY → Prop} {P : Nat} (hP : P < 6) {x y z : Int32} (h : post (nI (P + 1)) (ylv, (nI (P + 1)), yqc, ycc, yec, yde, yus, ywe, yfo, yli, yso, ysu, yla, ypr, yfr, yto, yty, ywt, (upd pva P x), (upd pwa P y), (upd pam P z), pdi, plo, phi, ptk, pco, pex, yst, ypa, ysp, ypl, ycp, ybo, ytk, yno, ych, yfa)) : wpY_add post (ylv, (nI P), yqc, ycc, yec, yde, yus, ywe, yfo, yli, yso, ysu, yla, ypr, yfr, yto, yty, ywt, pva, pwa, pam, pdi, plo, phi, ptk, pco, pex, yst, ypa, ysp, ypl, ycp, ybo, ytk, yno, ych, yfa) x y z :=
  br_f (fun e => by have := (nI_eq (b := 6) (by omega) (by omega)).mp e; omega) ⟨vp_in_nI hP (by decide), nm_r (tg_u (by omega)) ⟨vp_in_nI hP (by decide), nm_r (tg_u (by omega)) (nm_r (nI_1 P) ⟨vp_in_nI hP (by decide), nm_r (tg_u (by omega)) h⟩)⟩⟩
theorem tg_yadd6 {post : Int32 → SY → Prop} {x y z : Int32} (h : post (-2) (ylv, (nI 6), yqc, ycc, yec, yde, yus, ywe, yfo, yli, yso, ysu, yla, ypr, yfr, yto, yty, ywt, pva, pwa, pam, pdi, plo, phi, ptk, pco, pex, yst, ypa, ysp, ypl, ycp, ybo, ytk, yno, ych, yfa)) : wpY_add post (ylv, (nI 6), yqc, ycc, yec, yde, yus, ywe, yfo, yli, yso, ysu, yla, ypr, yfr, yto, yty, ywt, pva, pwa, pam, pdi, plo, phi, ptk, pco, pex, yst, ypa, ysp, ypl, ycp, ybo, ytk, yno, ych, yfa) x y z := br_t rfl h
theorem i_vc_start {k : Nat} {u : SX} {v : SY} (I : i_Rel k u v) (hk : k + 7 ≤ 3584) (v1 : Int32) (v2 : Int32) : wpX_start (fun r u' => wpY_start (fun r' v' => r' = r ∧ i_Rel (k + 7) u' v') v v1 v2) u v1 v2 := by
  obtain ⟨nT, eT, xlv, xpc, xqc, xcc, xec, mc, lw, rc, xla, xpr, xed, sN, sE, sL, sP, sD, pva, pwa, pam, pdi, plo, phi, ptk, pco, pex, tr, ds, ch, ar, rN, rM, s1, s2, s3, s4, s5⟩ := u
  obtain ⟨ylv, ypc, yqc, ycc, yec, yde, yus, ywe, yfo, yli, yso, ysu, yla, ypr, yfr, yto, yty, ywt, qpva, qpwa, qpam, qpdi, qplo, qphi, qptk, qpco, qpex, yst, ypa, ysp, ypl, ycp, ybo, ytk, yno, ych, yfa⟩ := v
  obtain ⟨⟨rfl, rfl, rfl, rfl, rfl, rfl, rfl, rfl, rfl⟩, hG, hQ, hT, hC, hE⟩ := I
  obtain ⟨P, hP, rfl, rfl, hp, hH⟩ := hQ
  have J := rl_mk (k + 7) (mc := mc) (lw := lw) (rc := rc) (tr := tr) (ds := ds) (ch := ch) (ar := ar) (rN := rN) (rM := rM) (s1 := s1) (s2 := s2) (s3 := s3) (s4 := s4) (s5 := s5) (yde := yde) (yus := yus) (ywe := ywe) (yfo := yfo) (yli := yli) (yso := yso) (ysu := ysu) (yst := yst) (ypa := ypa) (ysp := ysp) (ypl := ypl) (ycp := ycp) (ybo := ybo) (ytk := ytk) (yno := yno) (ych := ych) (yfa := yfa) hG ⟨P, hP, rfl, rfl, hp, hH⟩ hT hC hE
  unfold wpX_start wpY_start
  refine tg_can (fun hb => br_t rfl ?_) (fun v w hv hw e1 e2 => br_f tg_10 ?_)
  · refine tg_wi 0 3 (by omega) (by omega) (fun _ => br_t rfl ⟨rfl, J⟩) (fun v _ hv e1 => br_f tg_10 (tg_wi 0 15 (by omega) (by omega) (fun _ => br_t rfl ⟨rfl, J⟩) (fun w _ hw e2 => ?_)))
    exact absurd ⟨⟨v, by omega, e1⟩, ⟨w, by omega, e2⟩⟩ hb
  · subst e1 e2
    have Y : ∀ A : Prop, A → ∀ B C : Prop, (wpY_within (fun r_1 => (r_1 = 0 → B) ∧ (¬ r_1 = 0 → wpY_within (fun r_3 => (r_3 = 0 → C) ∧ (¬ r_3 = 0 → A)) (nI w) 0 15)) (nI v) 0 3) := fun A hA B C =>
      tg_wi 0 3 (by omega) (by omega) (fun z => absurd ⟨v, by omega, by omega, rfl⟩ (tg_nr (by omega) z)) (fun _ _ _ _ => br_f tg_10 (tg_wi 0 15 (by omega) (by omega) (fun z => absurd ⟨w, by omega, by omega, rfl⟩ (tg_nr (by omega) z)) (fun _ _ _ _ => br_f tg_10 hA)))
    by_cases z : P < 6
    · refine br_t (nI_lt (b := 6) z (by decide)) ⟨vp_in_nI z (by decide), nm_r (tg_u (by omega)) (tg_xadd z (Y _ (tg_yadd z ⟨rfl, ?_⟩) _ _))⟩
      refine rl_mk _ hG ⟨P + 1, by omega, rfl, rfl, fun j hj => ?_, ?_⟩ hT (rl_Cs z hC) hE
      · by_cases q : j = P
        · subst q
          exact ⟨v, w, 0, hv, hw, by omega, pk_us, pk_us, pk_us, fun q => absurd q (by omega)⟩
        · exact qu_Pc (hp j (by omega)) (pk_un q) (pk_un q) (pk_un q) rfl rfl rfl
      · show qu_H _ _ P + _ ≤ 5
        rw [qu_Hc P (fun j hj => ⟨pk_un (by omega), rfl⟩), pk_us, if_pos rfl]
        exact hH
    · have e : P = 6 := by omega
      subst e
      exact br_f (by decide) (Y _ (tg_yadd6 ⟨rfl, J⟩) _ _)
