/-! X's trails: the small methods -/
def Vf (a : Nat → Int32) (k : Nat) : Nat := (a k).toNatClampNeg
theorem q_f {va wa am di lo h : Nat → Int32} {k : Nat} (q : qu_P va wa am di lo h k) : va k = nI (Vf va k) ∧ Vf va k < 4 ∧ (∃ w, w < 16 ∧ wa k = nI w) ∧ (¬ am k = 0 → 0 < k ∧ (di k = 0 ∨ di k = 1 ∨ di k = 2) ∧ lo k = nI (Vf lo k) ∧ h k = nI (Vf h k) ∧ 1 ≤ Vf lo k ∧ Vf lo k ≤ Vf h k ∧ Vf h k ≤ 3) := by
  obtain ⟨v, w, t, h1, h2, h3, e1, e2, e3, r⟩ := q
  have c1 : Vf va k = v := by unfold Vf; rw [e1, nI_clamp (by omega)]
  refine ⟨by rw [c1]; exact e1, by omega, ⟨w, h2, e2⟩, fun z => ?_⟩
  have tp : 0 < t := by
    rcases Nat.eq_zero_or_pos t with y | y
    · rw [y] at e3; exact absurd e3 z
    · exact y
  obtain ⟨k0, d, l, c, d1, l1, l2, l3, f1, f2, f3⟩ := r tp
  have c2 : Vf lo k = l := by unfold Vf; rw [f2, nI_clamp (by omega)]
  have c3 : Vf h k = c := by unfold Vf; rw [f3, nI_clamp (by omega)]
  refine ⟨k0, ?_, by rw [c2]; exact f2, by rw [c3]; exact f3, by omega, by omega, by omega⟩
  have : d = 0 ∨ d = 1 ∨ d = 2 := by omega
  rcases this with rfl | rfl | rfl
  · exact Or.inl f1
  · exact Or.inr (Or.inl f1)
  · exact Or.inr (Or.inr f1)
def fe_ (eT : Int32) (yfr yto yty pam pdi : Nat → Int32) (k e p : Nat) : Option Nat :=
  if bt eT e = true ∧ bt (pam k) (yty e).toNatClampNeg = true then (if ¬ pdi k = 1 ∧ yfr e = nI p then some (yto e).toNatClampNeg else if ¬ pdi k = 0 ∧ yto e = nI p then some (yfr e).toNatClampNeg else none) else none
def rf (o : Option Nat) : Int32 := match o with
  | none => -1
  | some q => nI q
def nxf (am : Nat → Int32) : Nat → Nat → Nat
  | 0, j => j
  | d + 1, j => if am j = 0 then nxf am d (j + 1) else j
def nx_ (am : Nat → Int32) (P k : Nat) : Nat := nxf am (P - (k + 1)) (k + 1)
theorem nxf_s {am : Nat → Int32} {P : Nat} : ∀ d j, j + d = P → j ≤ nxf am d j ∧ nxf am d j ≤ P ∧ (∀ i, j ≤ i → i < nxf am d j → am i = 0) ∧ (nxf am d j < P → ¬ am (nxf am d j) = 0)
  | 0, j, h => ⟨Nat.le_refl j, by show j ≤ P; omega, fun i h1 h2 => absurd h2 (by show ¬ i < j; omega), fun q => absurd q (by show ¬ j < P; omega)⟩
  | d + 1, j, h => by
    unfold nxf
    by_cases z : am j = 0
    · rw [if_pos z]
      obtain ⟨a, b, c, e⟩ := nxf_s (P := P) d (j + 1) (by omega)
      refine ⟨by omega, b, fun i h1 h2 => ?_, e⟩
      by_cases y : i = j
      · rw [y]; exact z
      · exact c i (by omega) h2
    · rw [if_neg z]
      exact ⟨Nat.le_refl j, by omega, fun i h1 h2 => absurd h1 (by omega), fun _ => z⟩
def wz (w : Nat → Int32) (u : Int32) : Nat → Nat
  | 0 => 0
  | n + 1 => wz w u n + (if bt u n = true then (w n).toNatClampNeg else 0)
def ws_ (w : Nat → Int32) (u : Int32) : Nat := wz w u 12
def mn_ (a b : Nat) : Nat := if a < b then a else b
def lm_ (w : Int32 → Nat) : Nat → List Int32 → Nat
  | l, [] => l
  | l, u :: L => lm_ w (mn_ (w u) l) L
theorem lm_app (w : Int32 → Nat) : ∀ (A : List Int32) l B, lm_ w l (A ++ B) = lm_ w (lm_ w l A) B
  | [], _, _ => rfl
  | u :: A, l, B => lm_app w A _ B
/-- only edges that are there are used -/
def us_ (eT u : Int32) : Prop := ∀ e, bt u e = true → bt eT e = true
theorem us_0 (eT : Int32) : us_ eT 0 := fun e h => by rw [b_0] at h; exact absurd h (by decide)
theorem us_u {eT u : Int32} {e : Nat} (h : us_ eT u) (he : e < 12) (hb : bt eT e = true) : us_ eT (ub u e) := fun i hi => by
  unfold ub at hi
  rw [tg_or u (by omega), Bool.or_eq_true, decide_eq_true_eq] at hi
  rcases hi with q | q
  · exact h i q
  · rw [q]; exact hb
theorem wz_le {nT eT : Int32} {xla : Nat → Int32} {xpr : Nat → Int64} {xed yla : Nat → Int32} {ypr : Nat → Int64} {yfr yto yty ywt : Nat → Int32} (hR : gr_R nT eT xla xpr xed yla ypr yfr yto yty ywt) {u : Int32} (hu : us_ eT u) : ∀ n, n ≤ 12 → wz ywt u n ≤ 100 * n
  | 0, _ => Nat.le_refl 0
  | n + 1, h => by
    have ih := wz_le hR hu n (by omega)
    show wz ywt u n + _ ≤ _
    split
    · next z =>
      rcases hR.2.2.2 n (by omega) with ⟨_, f, t, y, w, _, _, _, hw, _, _, _, _, _, _, e⟩ | ⟨q, _⟩
      · rw [e, nI_clamp (by omega)]; omega
      · rw [hu n z] at q; exact absurd q (by decide)
    · omega
theorem tg_one {x : Int32} {e : Nat} (he : e < 32) (h : bt x e = true) : ((x >>> (nI e &&& 31)) &&& 1) = 1 := by
  obtain ⟨j, hj, q⟩ := pk_andE (x >>> (nI e &&& 31)) (m := 1) 1 (by decide)
  have n0 : ¬ ((x >>> (nI e &&& 31)) &&& 1) = 0 := fun z => by rw [(tg_bit x he).mp z] at h; exact absurd h (by decide)
  rw [q] at n0 ⊢
  have : j = 1 := by
    rcases Nat.eq_zero_or_pos j with z | z
    · rw [z] at n0; exact absurd rfl n0
    · omega
  rw [this]; rfl
variable {nT : Int32} {eT : Int32} {xlv : Int32} {xpc : Int32} {xqc : Int32} {xcc : Int32} {xec : Int32} {mc : Int32} {lw : Int32} {rc : Int32} {xla : Nat → Int32} {xpr : Nat → Int64} {xed : Nat → Int32} {sN : Nat → Int32} {sE : Nat → Int32} {sL : Nat → Int32} {sP : Nat → Int64} {sD : Nat → Int32} {pva : Nat → Int32} {pwa : Nat → Int32} {pam : Nat → Int32} {pdi : Nat → Int32} {plo : Nat → Int32} {phi : Nat → Int32} {ptk : Nat → Int32} {pco : Nat → Int32} {pex : Nat → Int32} {tr : Nat → Int32} {ds : Nat → Int32} {ch : Nat → Int32} {ar : Nat → Int32} {rN : Nat → Int32} {rM : Nat → Int32} {s1 : Nat → Int32} {s2 : Nat → Int32} {s3 : Nat → Int32} {s4 : Nat → Int32} {s5 : Nat → Int32}
variable {ylv : Int32} {ypc : Int32} {yqc : Int32} {ycc : Int32} {yec : Int32} {yde : Int32} {yus : Int32} {ywe : Int32} {yfo : Int32} {yli : Int32} {yso : Int32} {ysu : Int64} {yla : Nat → Int32} {ypr : Nat → Int64} {yfr : Nat → Int32} {yto : Nat → Int32} {yty : Nat → Int32} {ywt : Nat → Int32} {yst : Nat → Int32} {ypa : Nat → Int32} {ysp : Nat → Int32} {ypl : Nat → Int32} {ycp : Nat → Int32} {ybo : Nat → Int32} {ytk : Nat → Int32} {yno : Nat → Int32} {ych : Nat → Int32} {yfa : Nat → Int32}
theorem fe_lt (hR : gr_R nT eT xla xpr xed yla ypr yfr yto yty ywt) {k e p q : Nat} (h : fe_ eT yfr yto yty pam pdi k e p = some q) : q < 8 ∧ bt eT e = true ∧ e < 12 := by
  unfold fe_ at h
  split at h
  · next z =>
    have he : e < 12 := by
      rcases Nat.lt_or_ge e 12 with x | x
      · exact x
      · rw [hR.2.1 e x] at z; exact absurd z.1 (by decide)
    refine ⟨?_, z.1, he⟩
    rcases hR.2.2.2 e he with ⟨_, f, t, y, w, hf, ht, _, _, _, _, _, e1, e2, _, _⟩ | ⟨a, _⟩
    · rw [e1, e2, nI_clamp (by omega), nI_clamp (by omega)] at h
      split at h
      · cases h; exact ht
      · split at h
        · cases h; exact hf
        · exact absurd h (by simp)
    · rw [a] at z; exact absurd z.1 (by decide)
  · exact absurd h (by simp)
theorem xm_fe {post : Int32 → Prop} {k e p : Nat} (hR : gr_R nT eT xla xpr xed yla ypr yfr yto yty ywt) (he : e < 12) (hk : k < 6) (h : post (rf (fe_ eT yfr yto yty pam pdi k e p))) : wpX_farEnd post (nT, eT, xlv, xpc, xqc, xcc, xec, mc, lw, rc, xla, xpr, xed, sN, sE, sL, sP, sD, pva, pwa, pam, pdi, plo, phi, ptk, pco, pex, tr, ds, ch, ar, rN, rM, s1, s2, s3, s4, s5) (nI e) (nI p) (nI k) := by
  have we : vp_in (nI e) 12 := vp_in_nI he (by omega)
  have wk : vp_in (nI k) 6 := vp_in_nI hk (by omega)
  have ce : (nI e).toNatClampNeg = e := nI_clamp (by omega)
  have ck : (nI k).toNatClampNeg = k := nI_clamp (by omega)
  unfold fe_ at h
  refine ⟨we, tg_isIn (by omega) (tg_zbr (fun b => ?_) (fun b => ⟨wk, ?_⟩))⟩
  · rw [if_neg (fun q => by rw [b] at q; exact absurd q.1 (by decide))] at h
    exact h
  · obtain ⟨q1, q2, q3, _⟩ := tg_ft (hR.2.2.2 e he) b
    rcases hR.2.2.2 e he with ⟨_, f, t, y, w, hf, ht, hy, _, _, _, _, e1, e2, e3, _⟩ | ⟨a, _⟩
    · have cy : (yty e).toNatClampNeg = y := by rw [e3, nI_clamp (by omega)]
      rw [ce, ck, q3, e3]
      refine tg_isIn (by omega) (tg_zbr (fun c => ?_) (fun c => ⟨wk, ?_⟩))
      · rw [if_neg (fun q => by rw [cy, c] at q; exact absurd q.2 (by decide))] at h
        exact h
      · rw [if_pos ⟨b, by rw [cy]; exact c⟩] at h
        have r59 : ¬ (¬ pdi k = 1 ∧ yfr e = nI p) → wX_farEnd_59 post (nI e) (nI p) (nI k) nT eT xlv xpc xqc xcc xec mc lw rc xla xpr xed sN sE sL sP sD pva pwa pam pdi plo phi ptk pco pex tr ds ch ar rN rM s1 s2 s3 s4 s5 := fun z => by
          rw [if_neg z] at h
          refine ⟨wk, ?_⟩
          rw [ck]
          refine br_c (fun x => ?_) (fun x => ⟨we, ?_⟩)
          · rw [if_neg (fun w => w.1 x)] at h; exact h
          · rw [ce, q2]
            refine br_c (fun x' => ⟨we, ?_⟩) (fun x' => ?_)
            · rw [if_pos ⟨x, x'⟩, e1, nI_clamp (by omega)] at h
              rw [ce, q1, e1]; exact h
            · rw [if_neg (fun w => x' w.2)] at h; exact h
        refine br_c (fun x => r59 (fun z => z.1 x)) (fun x => ⟨we, ?_⟩)
        rw [ce, q1]
        refine br_c (fun x' => ⟨we, ?_⟩) (fun x' => r59 (fun z => x' z.2))
        rw [if_pos ⟨x, x'⟩, e2, nI_clamp (by omega)] at h
        rw [ce, q2, e2]; exact h
    · rw [a] at b; exact absurd b (by decide)
theorem xm_nx {post : Int32 → Prop} {P k : Nat} (hP : P ≤ 6) (hk : k < P) (h : post (nI (nx_ pam P k))) : wpX_nextHop post (nT, eT, xlv, (nI P), xqc, xcc, xec, mc, lw, rc, xla, xpr, xed, sN, sE, sL, sP, sD, pva, pwa, pam, pdi, plo, phi, ptk, pco, pex, tr, ds, ch, ar, rN, rM, s1, s2, s3, s4, s5) (nI k) := by
  have K : ∀ d j, j + d = P → post (nI (nxf pam d j)) → wX_nextHop_4 post nT eT xlv (nI P) xqc xcc xec mc lw rc xla xpr xed sN sE sL sP sD pva pwa pam pdi plo phi ptk pco pex tr ds ch ar rN rM s1 s2 s3 s4 s5 (d + 1) (nI j) := by
    intro d
    induction d with
    | zero =>
      intro j hj hp
      exact br_t (nI_le (by omega) (by omega)) hp
    | succ d ih =>
      intro j hj hp
      unfold nxf at hp
      refine br_f (nI_ge (by omega) (by omega)) ⟨vp_in_nI (by omega) (by omega), ?_⟩
      rw [nI_clamp (by omega)]
      refine br_c (fun z => ?_) (fun z => ?_)
      · rw [if_pos z] at hp
        exact nm_r (nI_1 j) (ih (j + 1) (by omega) hp)
      · rw [if_neg z] at hp; exact hp
  exact nm_r (nI_1 k) ⟨P - (k + 1) + 1, K (P - (k + 1)) (k + 1) (by omega) h⟩
theorem xm_am {post : SX → Prop} {m l : Nat} {u : Int32} (hR : gr_R nT eT xla xpr xed yla ypr yfr yto yty ywt) (hu : us_ eT u) (hl : l ≤ 1000000) (h : post (nT, eT, xlv, xpc, xqc, xcc, xec, (nI (m + 1)), (nI (mn_ (ws_ ywt u) l)), rc, xla, xpr, xed, sN, sE, sL, sP, sD, pva, pwa, pam, pdi, plo, phi, ptk, pco, pex, tr, ds, ch, ar, rN, rM, s1, s2, s3, s4, s5)) : wpX_addMatch post (nT, eT, xlv, xpc, xqc, xcc, xec, (nI m), (nI l), rc, xla, xpr, xed, sN, sE, sL, sP, sD, pva, pwa, pam, pdi, plo, phi, ptk, pco, pex, tr, ds, ch, ar, rN, rM, s1, s2, s3, s4, s5) u := by
  have K : ∀ d i, i + d = 12 → wX_addMatch_4 post u nT eT xlv xpc xqc xcc xec (nI m) (nI l) rc xla xpr xed sN sE sL sP sD pva pwa pam pdi plo phi ptk pco pex tr ds ch ar rN rM s1 s2 s3 s4 s5 (d + 1) (nI (wz ywt u i)) (nI i) := by
    intro d
    induction d with
    | zero =>
      intro i hi
      have e : i = 12 := by omega
      subst e
      have b := wz_le hR hu 12 (by omega)
      refine br_t (nI_le (a := 12) (by omega) (by omega)) ?_
      unfold ws_ mn_ at h
      by_cases z : wz ywt u 12 < l
      · rw [if_pos z] at h
        exact br_f (nI_ge z (by omega)) (nm_r (nI_1 m) h)
      · rw [if_neg z] at h
        exact br_t (nI_le (by omega) (by omega)) (nm_r (nI_1 m) h)
    | succ d ih =>
      intro i hi
      refine br_f (nI_ge (b := 12) (by omega) (by decide)) ⟨vp_in_nI (by omega) (by omega), nm_r (show _ = nI (wz ywt u (i + 1)) from ?_) (nm_r (nI_1 i) (ih (i + 1) (by omega)))⟩
      rw [nI_clamp (by omega)]
      show _ = nI (wz ywt u i + _)
      cases b : bt u i
      · rw [(tg_bit u (by omega)).mpr b, if_neg (by decide), Int32.zero_mul, Int32.add_zero, Nat.add_zero]
      · rw [tg_one (by omega) b, if_pos rfl, Int32.one_mul]
        obtain ⟨_, _, _, q4⟩ := tg_ft (hR.2.2.2 i (by omega)) (hu i b)
        rcases hR.2.2.2 i (by omega) with ⟨_, f, t, y, w, _, _, _, hw, _, _, _, _, _, _, e⟩ | ⟨q, _⟩
        · rw [q4, e, nI_clamp (by omega), nI_add]
        · rw [hu i b] at q; exact absurd q (by decide)
  exact ⟨13, K 12 0 (by omega)⟩
theorem xm_os {post : Int32 → SX → Prop} {d : Nat} {a b c e : Int32} (hd : d < 5) (h : post 1 (nT, eT, xlv, xpc, xqc, xcc, xec, mc, lw, rc, xla, xpr, xed, sN, sE, sL, sP, sD, pva, pwa, pam, pdi, plo, phi, ptk, pco, pex, tr, ds, ch, ar, rN, rM, (upd s1 d a), (upd s2 d b), (upd s3 d c), (upd s4 d e), (upd s5 d 0))) : wpX_openStep post (nT, eT, xlv, xpc, xqc, xcc, xec, mc, lw, rc, xla, xpr, xed, sN, sE, sL, sP, sD, pva, pwa, pam, pdi, plo, phi, ptk, pco, pex, tr, ds, ch, ar, rN, rM, s1, s2, s3, s4, s5) (nI d) a b c e := by
  have w : vp_in (nI d) 5 := vp_in_nI hd (by omega)
  exact br_t (nI_lt (b := 5) hd (by omega)) ⟨w, nm_r (tg_u (by omega)) ⟨w, nm_r (tg_u (by omega)) ⟨w, nm_r (tg_u (by omega)) ⟨w, nm_r (tg_u (by omega)) ⟨w, nm_r (tg_u (by omega)) h⟩⟩⟩⟩⟩
theorem xm_os0 {post : Int32 → SX → Prop} {a b c e : Int32} (h : post 0 (nT, eT, xlv, xpc, xqc, xcc, xec, mc, lw, rc, xla, xpr, xed, sN, sE, sL, sP, sD, pva, pwa, pam, pdi, plo, phi, ptk, pco, pex, tr, ds, ch, ar, rN, rM, s1, s2, s3, s4, s5)) : wpX_openStep post (nT, eT, xlv, xpc, xqc, xcc, xec, mc, lw, rc, xla, xpr, xed, sN, sE, sL, sP, sD, pva, pwa, pam, pdi, plo, phi, ptk, pco, pex, tr, ds, ch, ar, rN, rM, s1, s2, s3, s4, s5) (nI 5) a b c e := br_f (by decide) h
