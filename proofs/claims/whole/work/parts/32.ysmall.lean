/-! Y's search: the small methods -/
def al_ (eT : Int32) (yfr yto yty pam pdi : Nat → Int32) (k c p : Nat) : Option Nat :=
  if bt eT (c / 2) = true ∧ bt (pam k) (yty (c / 2)).toNatClampNeg = true then
    (if c % 2 = 1 then (if ¬ pdi k = 0 ∧ ¬ (pdi k = 2 ∧ yfr (c / 2) = yto (c / 2)) ∧ yto (c / 2) = nI p then some (yfr (c / 2)).toNatClampNeg else none)
    else (if ¬ pdi k = 1 ∧ yfr (c / 2) = nI p then some (yto (c / 2)).toNatClampNeg else none)) else none
theorem al_fe {eT : Int32} {yfr yto yty pam pdi : Nat → Int32} {k e p : Nat} (hd : pdi k = 0 ∨ pdi k = 1 ∨ pdi k = 2) : (al_ eT yfr yto yty pam pdi k (2 * e) p = fe_ eT yfr yto yty pam pdi k e p ∧ al_ eT yfr yto yty pam pdi k (2 * e + 1) p = none) ∨ (al_ eT yfr yto yty pam pdi k (2 * e) p = none ∧ al_ eT yfr yto yty pam pdi k (2 * e + 1) p = fe_ eT yfr yto yty pam pdi k e p) := by
  unfold al_ fe_
  rw [show 2 * e / 2 = e from by omega, show (2 * e + 1) / 2 = e from by omega, if_neg (show ¬ 2 * e % 2 = 1 by omega), if_pos (show (2 * e + 1) % 2 = 1 by omega)]
  by_cases b : bt eT e = true ∧ bt (pam k) (yty e).toNatClampNeg = true
  · rw [if_pos b, if_pos b, if_pos b]
    by_cases z : ¬ pdi k = 1 ∧ yfr e = nI p
    · rw [if_pos z, if_pos z]
      refine Or.inl ⟨rfl, if_neg (fun q => q.2.1 ⟨?_, z.2.trans q.2.2.symm⟩)⟩
      exact (hd.resolve_left q.1).resolve_left z.1
    · rw [if_neg z, if_neg z]
      refine Or.inr ⟨rfl, ?_⟩
      by_cases y : ¬ pdi k = 0 ∧ yto e = nI p
      · rw [if_pos y, if_pos ⟨y.1, fun q => z ⟨by rw [q.1]; decide, q.2.trans y.2⟩, y.2⟩]
      · rw [if_neg y, if_neg (fun q => y ⟨q.1, q.2.2⟩)]
  · rw [if_neg b, if_neg b, if_neg b]
    exact Or.inl ⟨rfl, rfl⟩
def ok_ (nT : Int32) (yla pwa : Nat → Int32) (k n : Nat) : Bool := decide (n < 8) && (bt nT n && decide ((yla n &&& pwa k) = pwa k))
theorem wz_ub (w : Nat → Int32) {u : Int32} {e : Nat} (he : e < 12) (hb : bt u e = false) : ∀ n, wz w (ub u e) n = wz w u n + (if e < n then (w e).toNatClampNeg else 0)
  | 0 => by rw [if_neg (Nat.not_lt_zero e)]; rfl
  | n + 1 => by
    show wz w (ub u e) n + _ = wz w u n + _ + _
    rw [wz_ub w he hb n]
    have t : bt (ub u e) n = (bt u n || decide (n = e)) := tg_or u (by omega) n
    rw [t]
    by_cases z : n = e
    · rw [z, hb, decide_eq_true rfl, if_neg (Nat.lt_irrefl e), if_pos (by rfl), if_neg (by decide), if_pos (by omega)]
    · rw [decide_eq_false z, Bool.or_false]
      by_cases y : e < n
      · rw [if_pos y, if_pos (show e < n + 1 by omega)]; omega
      · rw [if_neg y, if_neg (show ¬ e < n + 1 by omega)]; omega
theorem ws_ub (w : Nat → Int32) {u : Int32} {e : Nat} (he : e < 12) (hb : bt u e = false) : ws_ w (ub u e) = ws_ w u + (w e).toNatClampNeg := by
  unfold ws_
  rw [wz_ub w he hb 12, if_pos he]
theorem ub_ba {u : Int32} {e : Nat} (he : e < 12) (hb : bt u e = false) : ub u e &&& (((1 : Int32) <<< (nI e &&& 31)) ^^^ (-1)) = u := by
  apply b_ext
  intro i hi
  rw [tg_andn _ (by omega)]
  unfold ub
  rw [tg_or u (by omega)]
  by_cases z : i = e
  · rw [z, hb]; simp
  · rw [decide_eq_false z]; simp
theorem up_ba {s : Nat → Int32} {v : Nat} {x : Int32} (h : s v = -1) : upd (upd s v x) v (-1) = s := by
  funext j
  by_cases z : j = v
  · rw [z, pk_us, h]
  · rw [pk_un z, pk_un z]
theorem up_id {s : Nat → Int32} {v : Nat} {x : Int32} (h : s v = x) : upd s v x = s := by
  funext j
  by_cases z : j = v
  · rw [z, pk_us, h]
  · rw [pk_un z]
/-- what the last choice of the frame did is still to be taken back -/
def db_ (s yno : Nat → Int32) (bo : Int32) : Prop := (bo = -1 ∧ yno = s) ∨ ∃ v x, v < 4 ∧ bo = nI v ∧ yno = upd s v x ∧ s v = -1
def dt_ (ywt : Nat → Int32) (eT u yus ywe tk : Int32) : Prop := (tk = -1 ∧ yus = u ∧ ywe = nI (ws_ ywt u)) ∨ ∃ e, e < 12 ∧ tk = nI e ∧ bt eT e = true ∧ bt u e = false ∧ yus = ub u e ∧ ywe = nI (ws_ ywt (ub u e))
variable {nT : Int32} {eT : Int32} {xlv : Int32} {xpc : Int32} {xqc : Int32} {xcc : Int32} {xec : Int32} {mc : Int32} {lw : Int32} {rc : Int32} {xla : Nat → Int32} {xpr : Nat → Int64} {xed : Nat → Int32} {sN : Nat → Int32} {sE : Nat → Int32} {sL : Nat → Int32} {sP : Nat → Int64} {sD : Nat → Int32} {pva : Nat → Int32} {pwa : Nat → Int32} {pam : Nat → Int32} {pdi : Nat → Int32} {plo : Nat → Int32} {phi : Nat → Int32} {ptk : Nat → Int32} {pco : Nat → Int32} {pex : Nat → Int32} {tr : Nat → Int32} {ds : Nat → Int32} {ch : Nat → Int32} {ar : Nat → Int32} {rN : Nat → Int32} {rM : Nat → Int32} {s1 : Nat → Int32} {s2 : Nat → Int32} {s3 : Nat → Int32} {s4 : Nat → Int32} {s5 : Nat → Int32}
variable {ylv : Int32} {ypc : Int32} {yqc : Int32} {ycc : Int32} {yec : Int32} {yde : Int32} {yus : Int32} {ywe : Int32} {yfo : Int32} {yli : Int32} {yso : Int32} {ysu : Int64} {yla : Nat → Int32} {ypr : Nat → Int64} {yfr : Nat → Int32} {yto : Nat → Int32} {yty : Nat → Int32} {ywt : Nat → Int32} {yst : Nat → Int32} {ypa : Nat → Int32} {ysp : Nat → Int32} {ypl : Nat → Int32} {ycp : Nat → Int32} {ybo : Nat → Int32} {ytk : Nat → Int32} {yno : Nat → Int32} {ych : Nat → Int32} {yfa : Nat → Int32}
theorem ym_tb {post : SY → Prop} {d : Nat} {s : Nat → Int32} {u : Int32} (hR : gr_R nT eT xla xpr xed yla ypr yfr yto yty ywt) (hd : d < 14) (hb : db_ s yno (ybo d)) (ht : dt_ ywt eT u yus ywe (ytk d)) (h : post (ylv, ypc, yqc, ycc, yec, yde, u, (nI (ws_ ywt u)), yfo, yli, yso, ysu, yla, ypr, yfr, yto, yty, ywt, pva, pwa, pam, pdi, plo, phi, ptk, pco, pex, yst, ypa, ysp, ypl, ycp, (upd ybo d (-1)), (upd ytk d (-1)), s, ych, yfa)) : wpY_takeBack post (ylv, ypc, yqc, ycc, yec, yde, yus, ywe, yfo, yli, yso, ysu, yla, ypr, yfr, yto, yty, ywt, pva, pwa, pam, pdi, plo, phi, ptk, pco, pex, yst, ypa, ysp, ypl, ycp, ybo, ytk, yno, ych, yfa) (nI d) := by
  have w : vp_in (nI d) 14 := vp_in_nI hd (by omega)
  have cd : (nI d).toNatClampNeg = d := nI_clamp (by omega)
  have K : wY_takeBack_21 post (nI d) ylv ypc yqc ycc yec yde yus ywe yfo yli yso ysu yla ypr yfr yto yty ywt pva pwa pam pdi plo phi ptk pco pex yst ypa ysp ypl ycp ybo ytk s ych yfa := by
    refine ⟨w, ?_⟩
    rw [cd]
    rcases ht with ⟨h1, h2, h3⟩ | ⟨e, he, h1, he2, hb2, h2, h3⟩
    · rw [h1, h2, h3]
      exact br_t (by decide) ⟨w, nm_r (tg_u (by omega)) ⟨w, nm_r (tg_u (by omega)) h⟩⟩
    · rw [h1, h2, h3]
      rcases hR.2.2.2 e he with ⟨_, f, t, y, w', _, _, _, hw, _, _, _, _, _, _, ew⟩ | ⟨q, _⟩
      · refine br_f (nI_pos (by omega)) ⟨w, nm_r (ub_ba he hb2) ⟨w, vp_in_nI (by omega) (by omega), nm_r (show _ = nI (ws_ ywt u) from ?_) ⟨w, nm_r (tg_u (by omega)) ⟨w, nm_r (tg_u (by omega)) h⟩⟩⟩⟩
        rw [ws_ub ywt he hb2, nI_clamp (by omega), ew, nI_clamp (by omega), pk_sub (by omega)]
        exact congrArg nI (by omega)
      · rw [he2] at q; exact absurd q (by decide)
  refine ⟨w, ?_⟩
  rw [cd]
  rcases hb with ⟨h1, h2⟩ | ⟨v, x, hv, h1, h2, h3⟩
  · rw [h1, h2]
    exact br_t (by decide) K
  · rw [h1, h2]
    refine br_f (nI_pos (by omega)) ⟨w, vp_in_nI hv (by omega), nm_r (show _ = s from ?_) K⟩
    rw [nI_clamp (by omega), up_ba h3]
theorem ym_se {post : Int32 → SY → Prop} {P d k m : Nat} (hR : gr_R nT eT xla xpr xed yla ypr yfr yto yty ywt) (hp : ∀ k, k < P → qu_P pva pwa pam pdi plo phi k) (hP : P ≤ 6) (hk : k < P) (hd : d < 14) (hm : m < 8) (f1 : ypa d = nI k) (hs : s_ok yno)
    (h0 : ¬ (ok_ nT yla pwa k m = true ∧ (yno (Vf pva k) < 0 ∨ yno (Vf pva k) = nI m)) → post 0 (ylv, ypc, yqc, ycc, yec, yde, yus, ywe, yfo, yli, yso, ysu, yla, ypr, yfr, yto, yty, ywt, pva, pwa, pam, pdi, plo, phi, ptk, pco, pex, yst, ypa, ysp, ypl, ycp, ybo, ytk, yno, ych, yfa))
    (h1 : ok_ nT yla pwa k m = true → yno (Vf pva k) = -1 → post 1 (ylv, ypc, yqc, ycc, yec, yde, yus, ywe, yfo, yli, yso, ysu, yla, ypr, yfr, yto, yty, ywt, pva, pwa, pam, pdi, plo, phi, ptk, pco, pex, yst, ypa, ysp, ypl, ycp, (upd ybo d (nI (Vf pva k))), ytk, (upd yno (Vf pva k) (nI m)), ych, yfa))
    (h2 : ok_ nT yla pwa k m = true → yno (Vf pva k) = nI m → post 1 (ylv, ypc, yqc, ycc, yec, yde, yus, ywe, yfo, yli, yso, ysu, yla, ypr, yfr, yto, yty, ywt, pva, pwa, pam, pdi, plo, phi, ptk, pco, pex, yst, ypa, ysp, ypl, ycp, ybo, ytk, (upd yno (Vf pva k) (nI m)), ych, yfa)) : wpY_settle post (ylv, ypc, yqc, ycc, yec, yde, yus, ywe, yfo, yli, yso, ysu, yla, ypr, yfr, yto, yty, ywt, pva, pwa, pam, pdi, plo, phi, ptk, pco, pex, yst, ypa, ysp, ypl, ycp, ybo, ytk, yno, ych, yfa) (nI d) (nI m) := by
  obtain ⟨v1, v2, _, _⟩ := q_f (hp k hk)
  have w : vp_in (nI d) 14 := vp_in_nI hd (by omega)
  have wk : vp_in (nI k) 6 := vp_in_nI (by omega) (by omega)
  have wv : vp_in (nI (Vf pva k)) 4 := vp_in_nI v2 (by omega)
  refine ⟨w, nm_r (show _ = nI k from by rw [nI_clamp (by omega), f1]) ⟨wk, nm_r (show _ = nI (Vf pva k) from by rw [nI_clamp (by omega), v1]) (tg_yin hm hR (tg_zbr (fun b => h0 (fun q => ?_)) (fun b => ?_)))⟩⟩
  · have q := q.1
    unfold ok_ at q
    rw [b] at q
    simp at q
  · refine ⟨vp_in_nI (by omega) (by omega), wk, wk, ?_⟩
    rw [nI_clamp (show m < 2 ^ 31 by omega), nI_clamp (show k < 2 ^ 31 by omega), nI_clamp (show Vf pva k < 2 ^ 31 by omega)]
    refine br_c (fun l => ⟨wv, ?_⟩) (fun l => h0 (fun q => ?_))
    · have ok : ok_ nT yla pwa k m = true := by unfold ok_; rw [b, decide_eq_true l, decide_eq_true hm]; rfl
      rcases hs _ v2 with q | ⟨m', hm', q⟩
      · rw [q]
        refine br_t (by decide) ⟨wv, ?_⟩
        rw [nI_clamp (show Vf pva k < 2 ^ 31 by omega), q]
        exact br_f (by decide) ⟨w, nm_r (tg_u (by omega)) ⟨wv, nm_r (show _ = upd yno (Vf pva k) (nI m) from rfl) (h1 ok q)⟩⟩
      · rw [q]
        refine br_f (nI_pos (by omega)) ⟨wv, br_c (fun e => ⟨wv, ?_⟩) (fun e => h0 (fun z => z.2.elim (fun y => absurd y (by rw [q]; exact nI_pos (by omega))) (fun y => e (q.symm.trans y))))⟩
        rw [nI_clamp (show Vf pva k < 2 ^ 31 by omega), q]
        exact br_t (nI_pos' (by omega)) ⟨wv, nm_r (show _ = upd yno (Vf pva k) (nI m) from rfl) (h2 ok (q.trans e))⟩
    · have q := q.1
      unfold ok_ at q
      rw [decide_eq_false l] at q
      simp at q
theorem ym_al {post : Int32 → Prop} {P d k n p c : Nat} (hR : gr_R nT eT xla xpr xed yla ypr yfr yto yty ywt) (hp : ∀ k, k < P → qu_P pva pwa pam pdi plo phi k) (hP : P ≤ 6) (hk : k < P) (ha : ¬ pam k = 0) (hd : d < 14) (hc : c < 24) (hn : n ≤ 4) (f1 : ypa d = nI k) (f2 : ysp d = nI n) (f3 : ypl d = nI p)
    (h : post (rf (if bt yus (c / 2) = true then none else if n = Vf phi k then none else al_ eT yfr yto yty pam pdi k c p))) : wpY_along post (ylv, ypc, yqc, ycc, yec, yde, yus, ywe, yfo, yli, yso, ysu, yla, ypr, yfr, yto, yty, ywt, pva, pwa, pam, pdi, plo, phi, ptk, pco, pex, yst, ypa, ysp, ypl, ycp, ybo, ytk, yno, ych, yfa) (nI d) (nI c) := by
  obtain ⟨_, _, _, v3⟩ := q_f (hp k hk)
  obtain ⟨_, vd, _, v7, _, _, v6⟩ := v3 ha
  have w : vp_in (nI d) 14 := vp_in_nI hd (by omega)
  have cd : (nI d).toNatClampNeg = d := nI_clamp (by omega)
  have wk : vp_in (nI k) 6 := vp_in_nI (by omega) (by omega)
  have ck : (nI k).toNatClampNeg = k := nI_clamp (by omega)
  have we : vp_in (nI (c / 2)) 60 := vp_in_nI (by omega) (by omega)
  have ce : (nI (c / 2)).toNatClampNeg = c / 2 := nI_clamp (by omega)
  obtain ⟨e1, e2⟩ := tg_d2 (j := c) (by omega)
  have K : ∀ z : Bool, (z = true ↔ c % 2 = 1) → wY_along_24 post (nI d) (nI k) (nI (c / 2)) (tg_z z) ylv ypc yqc ycc yec yde yus ywe yfo yli yso ysu yla ypr yfr yto yty ywt pva pwa pam pdi plo phi ptk pco pex yst ypa ysp ypl ycp ybo ytk yno ych yfa := by
    intro z hz
    unfold wY_along_24
    refine tg_yie (by omega) hR (tg_zbr (fun b => ?_) (fun b => ?_))
    · have : al_ eT yfr yto yty pam pdi k c p = none := by unfold al_; rw [if_neg (fun q => by rw [b] at q; exact absurd q.1 (by decide))]
      rw [this] at h
      have e : rf (if bt yus (c / 2) = true then none else if n = Vf phi k then none else (none : Option Nat)) = -1 := by
        split
        · rfl
        · split <;> rfl
      rw [e] at h
      exact h
    · by_cases bu : bt yus (c / 2) = true
      · rw [if_pos bu] at h
        exact br_f (fun q => by rw [(tg_bit yus (by omega)).mp q] at bu; exact absurd bu (by decide)) h
      · have bu' : bt yus (c / 2) = false := by cases q : bt yus (c / 2) with
          | false => rfl
          | true => exact absurd q bu
        rw [if_neg bu] at h
        refine br_t ((tg_bit yus (by omega)).mpr bu') ⟨wk, we, ?_⟩
        rw [ck, ce]
        rcases hR.2.2.2 (c / 2) (by omega) with ⟨_, f, t, y, w', hf, ht, hy, _, _, _, _, g1, g2, g3, _⟩ | ⟨a, _⟩
        · have cy : (yty (c / 2)).toNatClampNeg = y := by rw [g3, nI_clamp (by omega)]
          have cf : (yfr (c / 2)).toNatClampNeg = f := by rw [g1, nI_clamp (by omega)]
          have ct : (yto (c / 2)).toNatClampNeg = t := by rw [g2, nI_clamp (by omega)]
          unfold al_ at h
          rw [cy, cf, ct] at h
          rw [g3]
          by_cases bt' : bt (pam k) y = true
          · have bb : bt eT (c / 2) = true ∧ bt (pam k) y = true := ⟨b, bt'⟩
            rw [if_pos bb] at h
            refine br_f (fun q => by rw [(tg_bit (pam k) (by omega)).mp q] at bt'; exact absurd bt' (by decide)) ⟨w, wk, ?_⟩
            rw [cd, f2, v7]
            by_cases hh : n = Vf phi k
            · rw [if_pos hh] at h
              exact br_t (by rw [hh]) h
            · rw [if_neg hh] at h
              refine br_f (fun q => hh ((nI_eq (by omega) (by omega)).mp q)) ⟨wk, ?_⟩
              cases z with
              | false =>
                rw [if_neg (fun q => absurd (hz.mpr q) (by decide))] at h
                refine br_t rfl (br_c (fun q => ?_) (fun q => ⟨wk, ?_⟩))
                · rw [if_neg (fun x => x.1 q)] at h; exact h
                · have k136 : wY_along_136 post (nI d) (nI (c / 2)) 0 ylv ypc yqc ycc yec yde yus ywe yfo yli yso ysu yla ypr yfr yto yty ywt pva pwa pam pdi plo phi ptk pco pex yst ypa ysp ypl ycp ybo ytk yno ych yfa := by
                    refine br_t rfl ⟨we, w, ?_⟩
                    rw [ce, cd, f3]
                    refine br_c (fun x => br_t rfl ⟨we, ?_⟩) (fun x => ?_)
                    · rw [if_pos ⟨q, x⟩] at h
                      rw [g2]; exact h
                    · rw [if_neg (fun y => x y.2)] at h; exact h
                  exact br_c (fun _ => br_t rfl k136) (fun _ => k136)
              | true =>
                rw [if_pos (hz.mp rfl)] at h
                refine br_f tg_10 (br_c (fun q => ?_) (fun q => ⟨wk, ?_⟩))
                · rw [if_neg (fun x => x.1 q)] at h; exact h
                · have k136 : ¬ (pdi k = 2 ∧ yfr (c / 2) = yto (c / 2)) → wY_along_136 post (nI d) (nI (c / 2)) 1 ylv ypc yqc ycc yec yde yus ywe yfo yli yso ysu yla ypr yfr yto yty ywt pva pwa pam pdi plo phi ptk pco pex yst ypa ysp ypl ycp ybo ytk yno ych yfa := fun nl => by
                    refine br_f tg_10 ⟨we, w, ?_⟩
                    rw [ce, cd, f3]
                    refine br_c (fun x => br_f tg_10 ⟨we, ?_⟩) (fun x => ?_)
                    · rw [if_pos ⟨q, nl, x⟩] at h
                      rw [g1]; exact h
                    · rw [if_neg (fun y => x y.2.2)] at h; exact h
                  rw [ck]
                  refine br_c (fun d2 => br_f tg_10 ⟨we, we, ?_⟩) (fun d2 => k136 (fun y => d2 y.1))
                  rw [ce]
                  refine br_c (fun l => ?_) (fun l => k136 (fun y => l y.2))
                  rw [if_neg (fun y => y.2.1 ⟨d2, l⟩)] at h; exact h
          · have nb : ¬ (bt eT (c / 2) = true ∧ bt (pam k) y = true) := fun q => bt' q.2
            rw [if_neg nb] at h
            have bt'' : bt (pam k) y = false := by cases q : bt (pam k) y with
              | false => rfl
              | true => exact absurd q bt'
            refine br_t ((tg_bit (pam k) (by omega)).mpr bt'') ?_
            have e : rf (if n = Vf phi k then none else (none : Option Nat)) = -1 := by split <;> rfl
            rw [e] at h
            exact h
        · rw [a] at b; exact absurd b (by decide)
  unfold wpY_along
  dsimp only
  rw [cd, f1, e2, e1]
  refine ⟨w, nm_e ⟨by decide, nm_e ⟨by decide, ?_⟩⟩⟩
  by_cases z : c % 2 = 1
  · exact br_t (by rw [z]; rfl) (K true ⟨fun _ => z, fun _ => rfl⟩)
  · exact br_f (by rw [show c % 2 = 0 from by omega]; decide) (K false ⟨fun q => absurd q (by decide), fun q => absurd q z⟩)
theorem ym_en {post : SY → Prop} {d : Nat} {a b c : Int32} (hd : d < 14) (h : post (ylv, ypc, yqc, ycc, yec, (nI (d + 1)), yus, ywe, yfo, yli, yso, ysu, yla, ypr, yfr, yto, yty, ywt, pva, pwa, pam, pdi, plo, phi, ptk, pco, pex, yst, (upd ypa d a), (upd ysp d b), (upd ypl d c), (upd ycp d 0), (upd ybo d (-1)), (upd ytk d (-1)), yno, ych, yfa)) : wpY_enter post (ylv, ypc, yqc, ycc, yec, (nI d), yus, ywe, yfo, yli, yso, ysu, yla, ypr, yfr, yto, yty, ywt, pva, pwa, pam, pdi, plo, phi, ptk, pco, pex, yst, ypa, ysp, ypl, ycp, ybo, ytk, yno, ych, yfa) a b c := by
  have w : vp_in (nI d) 14 := vp_in_nI hd (by omega)
  exact ⟨w, nm_r (tg_u (by omega)) ⟨w, nm_r (tg_u (by omega)) ⟨w, nm_r (tg_u (by omega)) ⟨w, nm_r (tg_u (by omega)) ⟨w, nm_r (tg_u (by omega)) (nm_r (nI_1 d) ⟨w, nm_r (tg_u (by omega)) h⟩)⟩⟩⟩⟩⟩
