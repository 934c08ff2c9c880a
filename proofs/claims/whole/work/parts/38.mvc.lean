/-! the answers taken from the matches -/
theorem rr_ex {X : Nat → List Int32} {k : Nat} : ∀ N, k < rr_ X N → ∃ c, c < N ∧ ¬ X c = [] ∧ rr_ X c = k
  | 0, h => absurd h (Nat.not_lt_zero k)
  | N + 1, h => by
    rcases Nat.lt_or_ge k (rr_ X N) with z | z
    · obtain ⟨c, a, b⟩ := rr_ex N z
      exact ⟨c, by omega, b⟩
    · by_cases q : X N = []
      · have : rr_ X (N + 1) = rr_ X N := by show rr_ X N + _ = _; rw [if_pos q]; rfl
        omega
      · have := rr_1 q
        exact ⟨N, by omega, q, by omega⟩
theorem rr_n {X : Nat → List Int32} {c : Nat} (h : X c = []) : rr_ X (c + 1) = rr_ X c := by show rr_ X c + _ = _; rw [if_pos h]; rfl
theorem rr_N (X : Nat → List Int32) : ∀ c, rr_ X c ≤ c
  | 0 => Nat.le_refl 0
  | c + 1 => by
    have := rr_N X c
    show rr_ X c + (if X c = [] then 0 else 1) ≤ c + 1
    split <;> omega
theorem cw_of {P nn : Nat} {pva : Nat → Int32} {c : Nat → Nat} (hP : P ≤ 6) (h : nn = 0 ∨ ∃ cs os nu, cd_W c (fun v => ∃ k P', k < P' ∧ P' ≤ 6 ∧ nI P = nI P' ∧ pva k = nI v) nn cs os nu) : ∃ cs os nu, nn = 0 ∨ cd_W c (nm_P pva P) nn cs os nu := by
  rcases h with z | ⟨cs, os, nu, h⟩
  · exact ⟨fun _ => 0, fun _ => 0, fun _ => False, Or.inl z⟩
  · refine ⟨cs, os, nu, Or.inr (cd_mono h ?_)⟩
    rintro v ⟨k, P', h1, h2, h3, h4⟩
    have e : P = P' := (nI_eq (by omega) (by omega)).mp h3
    exact ⟨k, by omega, h4⟩
theorem tg_rowx {c v : Nat} (hv : v < 4) : ((nI (pkc c) >>> ((3 * nI v) &&& 31)) &&& 7) = nI (dg c v) := by
  have h0 := dg_lt c 0
  have h1 := dg_lt c 1
  have h2 := dg_lt c 2
  have h3 := dg_lt c 3
  unfold pkc
  have : v = 0 ∨ v = 1 ∨ v = 2 ∨ v = 3 := by omega
  rcases this with rfl | rfl | rfl | rfl
  · rw [pk_shrN (by omega) _ 0 (by decide), pk_andN (by omega) (m := 7) 3 (by decide)]; exact congrArg nI (by omega)
  · rw [pk_shrN (by omega) _ 3 (by decide), pk_andN (by omega) (m := 7) 3 (by decide)]; exact congrArg nI (by omega)
  · rw [pk_shrN (by omega) _ 6 (by decide), pk_andN (by omega) (m := 7) 3 (by decide)]; exact congrArg nI (by omega)
  · rw [pk_shrN (by omega) _ 9 (by decide), pk_andN (by omega) (m := 7) 3 (by decide)]; exact congrArg nI (by omega)
theorem tg_rowy {c v : Nat} (hc : c < 4096) (hv : v < 4) : ((nI c >>> ((9 - (3 * nI v)) &&& 31)) &&& 7) = nI (dg c v) := by
  unfold dg
  have : v = 0 ∨ v = 1 ∨ v = 2 ∨ v = 3 := by omega
  rcases this with rfl | rfl | rfl | rfl
  · rw [pk_shrN (by omega) _ 9 (by decide), pk_andN (by omega) (m := 7) 3 (by decide)]
  · rw [pk_shrN (by omega) _ 6 (by decide), pk_andN (by omega) (m := 7) 3 (by decide)]
  · rw [pk_shrN (by omega) _ 3 (by decide), pk_andN (by omega) (m := 7) 3 (by decide)]
  · rw [pk_shrN (by omega) _ 0 (by decide), pk_andN (by omega) (m := 7) 3 (by decide)]
variable {nT : Int32} {eT : Int32} {xlv : Int32} {xpc : Int32} {xqc : Int32} {xcc : Int32} {xec : Int32} {mc : Int32} {lw : Int32} {rc : Int32} {xla : Nat → Int32} {xpr : Nat → Int64} {xed : Nat → Int32} {sN : Nat → Int32} {sE : Nat → Int32} {sL : Nat → Int32} {sP : Nat → Int64} {sD : Nat → Int32} {pva : Nat → Int32} {pwa : Nat → Int32} {pam : Nat → Int32} {pdi : Nat → Int32} {plo : Nat → Int32} {phi : Nat → Int32} {ptk : Nat → Int32} {pco : Nat → Int32} {pex : Nat → Int32} {tr : Nat → Int32} {ds : Nat → Int32} {ch : Nat → Int32} {ar : Nat → Int32} {rN : Nat → Int32} {rM : Nat → Int32} {s1 : Nat → Int32} {s2 : Nat → Int32} {s3 : Nat → Int32} {s4 : Nat → Int32} {s5 : Nat → Int32}
variable {ylv : Int32} {ypc : Int32} {yqc : Int32} {ycc : Int32} {yec : Int32} {yde : Int32} {yus : Int32} {ywe : Int32} {yfo : Int32} {yli : Int32} {yso : Int32} {ysu : Int64} {yla : Nat → Int32} {ypr : Nat → Int64} {yfr : Nat → Int32} {yto : Nat → Int32} {yty : Nat → Int32} {ywt : Nat → Int32} {yst : Nat → Int32} {ypa : Nat → Int32} {ysp : Nat → Int32} {ypl : Nat → Int32} {ycp : Nat → Int32} {ybo : Nat → Int32} {ytk : Nat → Int32} {yno : Nat → Int32} {ych : Nat → Int32} {yfa : Nat → Int32}
theorem lk_ {P nn : Nat} {c cs os : Nat → Nat} {nu : Nat → Prop} {s : Nat → Int32} (hP : P ≤ 6) (hp : ∀ k, k < P → qu_P pva pwa pam pdi plo phi k) (hH : qu_H pam phi P ≤ 5) (hR : gr_R nT eT xla xpr xed yla ypr yfr yto yty ywt) (hW : nn = 0 ∨ cd_W c (nm_P pva P) nn cs os nu) (hs : ∀ v, v < 4 → s v = -1) :
    (ly_ P (Vf pva) (Vf plo) (Vf phi) (stp pam) (ok_ nT yla pwa) (al_ eT yfr yto yty pam pdi) (trp ypr c cs nn) s).length = sm_ (xf_ P nn nT eT xla pva pwa pam pdi plo phi yfr yto yty ypr c cs) 4096 ∧ (∀ i, i < 4096 → (sel i (ly_ P (Vf pva) (Vf plo) (Vf phi) (stp pam) (ok_ nT yla pwa) (al_ eT yfr yto yty pam pdi) (trp ypr c cs nn) s) = [] ↔ (xf_ P nn nT eT xla pva pwa pam pdi plo phi yfr yto yty ypr c cs) i = [])) ∧ (∀ i, i < 4096 → (sel i (ly_ P (Vf pva) (Vf plo) (Vf phi) (stp pam) (ok_ nT yla pwa) (al_ eT yfr yto yty pam pdi) (trp ypr c cs nn) s)).length = ((xf_ P nn nT eT xla pva pwa pam pdi plo phi yfr yto yty ypr c cs) i).length) ∧ lm_ (ws_ ywt) 1000000 ((ly_ P (Vf pva) (Vf plo) (Vf phi) (stp pam) (ok_ nT yla pwa) (al_ eT yfr yto yty pam pdi) (trp ypr c cs nn) s).map Prod.snd) = ml_ (ws_ ywt) (xf_ P nn nT eT xla pva pwa pam pdi plo phi yfr yto yty ypr c cs) 4096 := by
  have pm := fun i (hi : i < 4096) => sel_xf hP hp hH hR hW hs hi
  obtain ⟨el, _⟩ := ly_el (v := 0) (nn := nn) (c := c) (cs := cs) hp hR hs
  refine ⟨?_, fun i hi => ⟨fun q => ?_, fun q => ?_⟩, fun i hi => (pm i hi).length_eq, ?_⟩
  · rw [← sm_sel _ el]
    exact sm_e (fun i hi => (pm i hi).length_eq)
  · have := (pm i hi).length_eq
    rw [q] at this
    exact List.eq_nil_of_length_eq_zero this.symm
  · have := (pm i hi).length_eq
    rw [q] at this
    exact List.eq_nil_of_length_eq_zero this
  · refine (ml_lm _ _ _ (fun u => ?_)).symm
    rw [mem_sel u _ el]
    exact ⟨fun ⟨i, hi, q⟩ => ⟨i, hi, (pm i hi).mem_iff.mp q⟩, fun ⟨i, hi, q⟩ => ⟨i, hi, (pm i hi).mem_iff.mpr q⟩⟩
theorem i_vc_matches {k : Nat} {u : SX} {v : SY} (I : i_Rel k u v) (hk : k + 7 ≤ 3584) : wpX_matches (fun r u' => wpY_matches (fun r' v' => r' = r ∧ i_Rel (k + 7) u' v') v) u := by
  obtain ⟨nT, eT, xlv, xpc, xqc, xcc, xec, mc, lw, rc, xla, xpr, xed, sN, sE, sL, sP, sD, pva, pwa, pam, pdi, plo, phi, ptk, pco, pex, tr, ds, ch, ar, rN, rM, s1, s2, s3, s4, s5⟩ := u
  obtain ⟨ylv, ypc, yqc, ycc, yec, yde, yus, ywe, yfo, yli, yso, ysu, yla, ypr, yfr, yto, yty, ywt, qpva, qpwa, qpam, qpdi, qplo, qphi, qptk, qpco, qpex, yst, ypa, ysp, ypl, ycp, ybo, ytk, yno, ych, yfa⟩ := v
  obtain ⟨⟨rfl, rfl, rfl, rfl, rfl, rfl, rfl, rfl, rfl⟩, hG, hQ, hT, hC, hE⟩ := I
  obtain ⟨P, hP, rfl, rfl, hp, hH⟩ := hQ
  have hQ : rl_Q (nI P) (nI P) pva pwa pam pdi plo phi := ⟨P, hP, rfl, rfl, hp, hH⟩
  have hC' := hC
  obtain ⟨nn, c, hn, rfl, rfl, hco, hW0⟩ := hC
  obtain ⟨cs, os, nu, hW⟩ := cw_of (pva := pva) hP hW0
  have hR := hG.1
  unfold wpX_matches wpY_matches
  refine xs_ hP hp hR hn hco hW (fun z => xf_xl z) (fun z i => xf_0 z i) (fun mc lw rc rN rM tr ch ar s1 s2 s3 s4 s5 hs => ?_)
  rcases hs with ⟨a, rfl, rfl, rfl, _⟩ | ⟨a, rfl⟩
  · refine br_t (nI_le (b := 1000) a (by omega)) (ys_ (v := 0) hP hp hH hR hn hco hW (by omega) (fun s h1 h2 => ?_) (fun s h1 h2 ch0 h3 yde yus ywe yst ypa ysp ypl ycp ybo ytk yno => br_t (nI_le (b := 1000) h2 (by omega)) ⟨?_, rl_mk _ hG hQ hT hC' hE⟩))
    · rw [(lk_ hP hp hH hR hW h1).1] at h2; omega
    · rw [(lk_ hP hp hH hR hW h1).1]
  · refine br_f (by decide) (ys_ (v := 0) hP hp hH hR hn hco hW (by omega) (fun s h1 h2 yde yus ywe yli yso ysu yst ypa ysp ypl ycp ybo ytk yno ych => br_f (by decide) ⟨rfl, rl_mk _ hG hQ hT hC' hE⟩) (fun s h1 h2 => ?_))
    rw [(lk_ hP hp hH hR hW h1).1] at h2; omega
theorem yl_ {post : Int32 → SY → Prop} {P nn : Nat} {c cs os : Nat → Nat} {nu : Nat → Prop} (hP : P ≤ 6) (hp : ∀ k, k < P → qu_P pva pwa pam pdi plo phi k) (hH : qu_H pam phi P ≤ 5) (hR : gr_R nT eT xla xpr xed yla ypr yfr yto yty ywt) (hn : nn ≤ 12) (hco : ∀ k, k < nn → pco k = nI (c k)) (hW : nn = 0 ∨ cd_W c (nm_P pva P) nn cs os nu) (a : sm_ (xf_ P nn nT eT xla pva pwa pam pdi plo phi yfr yto yty ypr c cs) 4096 ≤ 1000)
    (h0 : sm_ (xf_ P nn nT eT xla pva pwa pam pdi plo phi yfr yto yty ypr c cs) 4096 = 0 → ∀ yde yus ywe yfo yli yso ysu (yst ypa ysp ypl ycp ybo ytk yno ych : Nat → Int32), post (-1) (ylv, (nI P), yqc, (nI nn), yec, yde, yus, ywe, yfo, yli, yso, ysu, yla, ypr, yfr, yto, yty, ywt, pva, pwa, pam, pdi, plo, phi, ptk, pco, pex, yst, ypa, ysp, ypl, ycp, ybo, ytk, yno, ych, yfa)) (h1 : 0 < sm_ (xf_ P nn nT eT xla pva pwa pam pdi plo phi yfr yto yty ypr c cs) 4096 → ∀ yde yus ywe yfo yli yso ysu (yst ypa ysp ypl ycp ybo ytk yno ych : Nat → Int32), post (nI (ml_ (ws_ ywt) (xf_ P nn nT eT xla pva pwa pam pdi plo phi yfr yto yty ypr c cs) 4096)) (ylv, (nI P), yqc, (nI nn), yec, yde, yus, ywe, yfo, yli, yso, ysu, yla, ypr, yfr, yto, yty, ywt, pva, pwa, pam, pdi, plo, phi, ptk, pco, pex, yst, ypa, ysp, ypl, ycp, ybo, ytk, yno, ych, yfa)) : wpY_least post (ylv, (nI P), yqc, (nI nn), yec, yde, yus, ywe, yfo, yli, yso, ysu, yla, ypr, yfr, yto, yty, ywt, pva, pwa, pam, pdi, plo, phi, ptk, pco, pex, yst, ypa, ysp, ypl, ycp, ybo, ytk, yno, ych, yfa) := by
  unfold wpY_least
  refine ys_ (v := 0) hP hp hH hR hn hco hW (by omega) (fun s h1 h2 => ?_) (fun s h1' h2 ch0 h3 yde yus ywe yst ypa ysp ypl ycp ybo ytk yno => ?_)
  · rw [(lk_ hP hp hH hR hW h1).1] at h2; omega
  · obtain ⟨l1, _, _, l4⟩ := lk_ hP hp hH hR hW h1'
    rw [l1, l4]
    refine br_f (nI_nlt (b := sm_ (xf_ P nn nT eT xla pva pwa pam pdi plo phi yfr yto yty ypr c cs) 4096) (a := 1000) a (by omega)) ?_
    rcases Nat.eq_zero_or_pos (sm_ (xf_ P nn nT eT xla pva pwa pam pdi plo phi yfr yto yty ypr c cs) 4096) with z | z
    · exact br_t (by rw [z]; rfl) (h0 z _ _ _ _ _ _ _ _ _ _ _ _ _ _ _ _)
    · exact br_f (nI_ne0 z (by omega)) (h1 z _ _ _ _ _ _ _ _ _ _ _ _ _ _ _ _)
theorem i_vc_least {k : Nat} {u : SX} {v : SY} (I : i_Rel k u v) (hk : k + 7 ≤ 3584) : wpX_least (fun r u' => wpY_least (fun r' v' => r' = r ∧ i_Rel (k + 7) u' v') v) u := by
  obtain ⟨nT, eT, xlv, xpc, xqc, xcc, xec, mc, lw, rc, xla, xpr, xed, sN, sE, sL, sP, sD, pva, pwa, pam, pdi, plo, phi, ptk, pco, pex, tr, ds, ch, ar, rN, rM, s1, s2, s3, s4, s5⟩ := u
  obtain ⟨ylv, ypc, yqc, ycc, yec, yde, yus, ywe, yfo, yli, yso, ysu, yla, ypr, yfr, yto, yty, ywt, qpva, qpwa, qpam, qpdi, qplo, qphi, qptk, qpco, qpex, yst, ypa, ysp, ypl, ycp, ybo, ytk, yno, ych, yfa⟩ := v
  obtain ⟨⟨rfl, rfl, rfl, rfl, rfl, rfl, rfl, rfl, rfl⟩, hG, hQ, hT, hC, hE⟩ := I
  obtain ⟨P, hP, rfl, rfl, hp, hH⟩ := hQ
  have hQ : rl_Q (nI P) (nI P) pva pwa pam pdi plo phi := ⟨P, hP, rfl, rfl, hp, hH⟩
  have hC' := hC
  obtain ⟨nn, c, hn, rfl, rfl, hco, hW0⟩ := hC
  obtain ⟨cs, os, nu, hW⟩ := cw_of (pva := pva) hP hW0
  have hR := hG.1
  unfold wpX_least
  refine xs_ hP hp hR hn hco hW (fun z => xf_xl z) (fun z i => xf_0 z i) (fun mc lw rc rN rM tr ch ar s1 s2 s3 s4 s5 hs => ?_)
  rcases hs with ⟨a, rfl, rfl, rfl, _⟩ | ⟨a, rfl⟩
  · rcases Nat.eq_zero_or_pos (sm_ (xf_ P nn nT eT xla pva pwa pam pdi plo phi yfr yto yty ypr c cs) 4096) with z | z
    · refine br_t (by rw [z]; rfl) (yl_ hP hp hH hR hn hco hW a ?_ (fun q => absurd q (by omega)))
      exact fun _ _ _ _ _ _ _ _ _ _ _ _ _ _ _ _ _ => ⟨rfl, rl_mk _ hG hQ hT hC' hE⟩
    · refine br_f (nI_ne0 z (by omega)) (br_t (nI_le (b := 1000) a (by omega)) (yl_ hP hp hH hR hn hco hW a (fun q => absurd q (by omega)) ?_))
      exact fun _ _ _ _ _ _ _ _ _ _ _ _ _ _ _ _ _ => ⟨rfl, rl_mk _ hG hQ hT hC' hE⟩
  · unfold wpY_least
    refine br_f (by decide) (br_f (by decide) (ys_ (v := 0) hP hp hH hR hn hco hW (by omega) (fun s h1 h2 yde yus ywe yli yso ysu yst ypa ysp ypl ycp ybo ytk yno ych => br_t (by decide) ⟨rfl, rl_mk _ hG hQ hT hC' hE⟩) (fun s h1 h2 => ?_)))
    rw [(lk_ hP hp hH hR hW h1).1] at h2; omega
theorem yr_l {post : Int32 → SY → Prop} (h : ∀ x, (yfo ≤ 1000 → post x (ylv, ypc, yqc, ycc, yec, yde, yus, ywe, yfo, yli, yso, ysu, yla, ypr, yfr, yto, yty, ywt, pva, pwa, pam, pdi, plo, phi, ptk, pco, pex, yst, ypa, ysp, ypl, ycp, ybo, ytk, yno, ych, yfa)) ∧ (¬ yfo ≤ 1000 → post (-3) (ylv, ypc, yqc, ycc, yec, yde, yus, ywe, yfo, yli, yso, ysu, yla, ypr, yfr, yto, yty, ywt, pva, pwa, pam, pdi, plo, phi, ptk, pco, pex, yst, ypa, ysp, ypl, ycp, ybo, ytk, yno, ych, yfa))) : ∀ d i x, i + d = 4096 → wY_rows_9 post ylv ypc yqc ycc yec yde yus ywe yfo yli yso ysu yla ypr yfr yto yty ywt pva pwa pam pdi plo phi ptk pco pex yst ypa ysp ypl ycp ybo ytk yno ych yfa (d + 1) x (nI i) := by
  intro d
  induction d with
  | zero =>
    intro i x hi
    exact br_t (nI_le (a := 4096) (by omega) (by omega)) (h x)
  | succ d ih =>
    intro i x hi
    exact br_f (nI_ge (b := 4096) (by omega) (by decide)) ⟨vp_in_nI (by omega) (by omega), br_c (fun _ => nm_r (nI_1 i) (ih (i + 1) x (by omega))) (fun _ => nm_e (nm_r (nI_1 i) (ih (i + 1) _ (by omega))))⟩
theorem yr_c {post : Int32 → SY → Prop} {X : Nat → List Int32} (hc : ∀ i, i < 4096 → ych i = if X i = [] then 0 else 1) (h : (yfo ≤ 1000 → post (nI (rr_ X 4096)) (ylv, ypc, yqc, ycc, yec, yde, yus, ywe, yfo, yli, yso, ysu, yla, ypr, yfr, yto, yty, ywt, pva, pwa, pam, pdi, plo, phi, ptk, pco, pex, yst, ypa, ysp, ypl, ycp, ybo, ytk, yno, ych, yfa)) ∧ (¬ yfo ≤ 1000 → post (-3) (ylv, ypc, yqc, ycc, yec, yde, yus, ywe, yfo, yli, yso, ysu, yla, ypr, yfr, yto, yty, ywt, pva, pwa, pam, pdi, plo, phi, ptk, pco, pex, yst, ypa, ysp, ypl, ycp, ybo, ytk, yno, ych, yfa))) : ∀ d i, i + d = 4096 → wY_rows_9 post ylv ypc yqc ycc yec yde yus ywe yfo yli yso ysu yla ypr yfr yto yty ywt pva pwa pam pdi plo phi ptk pco pex yst ypa ysp ypl ycp ybo ytk yno ych yfa (d + 1) (nI (rr_ X i)) (nI i) := by
  intro d
  induction d with
  | zero =>
    intro i hi
    have e : i = 4096 := by omega
    subst e
    exact br_t (nI_le (a := 4096) (by omega) (by omega)) h
  | succ d ih =>
    intro i hi
    have nx := ih (i + 1) (by omega)
    refine br_f (nI_ge (b := 4096) (by omega) (by decide)) ⟨vp_in_nI (by omega) (by omega), ?_⟩
    rw [nI_clamp (by omega), hc i (by omega)]
    by_cases z : X i = []
    · rw [rr_n z] at nx
      rw [if_pos z]
      exact br_t rfl (nm_r (nI_1 i) nx)
    · rw [rr_1 z] at nx
      rw [if_neg z]
      exact br_f tg_10 (nm_r (nI_1 _) (nm_r (nI_1 i) nx))
theorem i_vc_rows {k : Nat} {u : SX} {v : SY} (I : i_Rel k u v) (hk : k + 7 ≤ 3584) : wpX_rows (fun r u' => wpY_rows (fun r' v' => r' = r ∧ i_Rel (k + 7) u' v') v) u := by
  obtain ⟨nT, eT, xlv, xpc, xqc, xcc, xec, mc, lw, rc, xla, xpr, xed, sN, sE, sL, sP, sD, pva, pwa, pam, pdi, plo, phi, ptk, pco, pex, tr, ds, ch, ar, rN, rM, s1, s2, s3, s4, s5⟩ := u
  obtain ⟨ylv, ypc, yqc, ycc, yec, yde, yus, ywe, yfo, yli, yso, ysu, yla, ypr, yfr, yto, yty, ywt, qpva, qpwa, qpam, qpdi, qplo, qphi, qptk, qpco, qpex, yst, ypa, ysp, ypl, ycp, ybo, ytk, yno, ych, yfa⟩ := v
  obtain ⟨⟨rfl, rfl, rfl, rfl, rfl, rfl, rfl, rfl, rfl⟩, hG, hQ, hT, hC, hE⟩ := I
  obtain ⟨P, hP, rfl, rfl, hp, hH⟩ := hQ
  have hQ : rl_Q (nI P) (nI P) pva pwa pam pdi plo phi := ⟨P, hP, rfl, rfl, hp, hH⟩
  have hC' := hC
  obtain ⟨nn, c, hn, rfl, rfl, hco, hW0⟩ := hC
  obtain ⟨cs, os, nu, hW⟩ := cw_of (pva := pva) hP hW0
  have hR := hG.1
  unfold wpX_rows wpY_rows
  refine xs_ hP hp hR hn hco hW (fun z => xf_xl z) (fun z i => xf_0 z i) (fun mc lw rc rN rM tr ch ar s1 s2 s3 s4 s5 hs => ?_)
  rcases hs with ⟨a, rfl, rfl, rfl, _⟩ | ⟨a, rfl⟩
  · refine br_t (nI_le (b := 1000) a (by omega)) (ys_ (v := 0) hP hp hH hR hn hco hW (by omega) (fun s h1 h2 => ?_) (fun s h1 h2 ch0 h3 yde yus ywe yst ypa ysp ypl ycp ybo ytk yno => ⟨4097, ?_⟩))
    · rw [(lk_ hP hp hH hR hW h1).1] at h2; omega
    · obtain ⟨l1, l2, _, _⟩ := lk_ hP hp hH hR hW h1
      refine yr_c (X := (xf_ P nn nT eT xla pva pwa pam pdi plo phi yfr yto yty ypr c cs)) (fun i hi => ?_) (br_t (nI_le (b := 1000) h2 (by omega)) ⟨rfl, rl_mk _ hG hQ hT hC' hE⟩) 4096 0 (by omega)
      rw [yc_sel, h3 i hi]
      by_cases z : (xf_ P nn nT eT xla pva pwa pam pdi plo phi yfr yto yty ypr c cs) i = []
      · rw [if_pos z, if_pos ((l2 i hi).mpr z)]
      · rw [if_neg z, if_neg (fun q => z ((l2 i hi).mp q))]
  · refine br_f (by decide) (ys_ (v := 0) hP hp hH hR hn hco hW (by omega) (fun s h1 h2 yde yus ywe yli yso ysu yst ypa ysp ypl ycp ybo ytk yno ych => ⟨4097, yr_l (fun x => br_f (by decide) ⟨rfl, rl_mk _ hG hQ hT hC' hE⟩) 4096 0 0 (by omega)⟩) (fun s h1 h2 => ?_))
    rw [(lk_ hP hp hH hR hW h1).1] at h2; omega
