/-! X's trails: one step, and the loop -/
def mt_B (P : Nat) (V Lo Hi : Nat → Nat) (fe : Nat → Nat → Nat → Option Nat) (nx sg : Nat → Nat) (f k n p : Nat) (u : Int32) (j : Nat) : List Int32 :=
  if bt u (j / 2) = true then [] else om (fe k (j / 2) p) (fun q => if j % 2 = 0 then (if n + 1 < Hi k then mt_X P V Lo Hi fe nx sg f k (n + 1) q (ub u (j / 2)) else [])
      else if Lo k ≤ n + 1 ∧ q = sg (V k) then (if nx k < P then mt_X P V Lo Hi fe nx sg f (nx k) 0 (sg (V (nx k - 1))) (ub u (j / 2)) else [ub u (j / 2)]) else [])
theorem mt_XB (P : Nat) (V Lo Hi : Nat → Nat) (fe : Nat → Nat → Nat → Option Nat) (nx sg : Nat → Nat) (f k n p : Nat) (u : Int32) : mt_X P V Lo Hi fe nx sg (f + 1) k n p u = fm (mt_B P V Lo Hi fe nx sg f k n p u) 24 0 := rfl
theorem mt_B0 {P : Nat} {V Lo Hi : Nat → Nat} {fe : Nat → Nat → Nat → Option Nat} {nx sg : Nat → Nat} {f k n p : Nat} {u : Int32} {j : Nat} (h : bt u (j / 2) = true ∨ fe k (j / 2) p = none) : mt_B P V Lo Hi fe nx sg f k n p u j = [] := by
  unfold mt_B
  by_cases z : bt u (j / 2) = true
  · rw [if_pos z]
  · rw [if_neg z, h.resolve_left z]; rfl
theorem mt_Bc {P : Nat} {V Lo Hi : Nat → Nat} {fe : Nat → Nat → Nat → Option Nat} {nx sg : Nat → Nat} {f k n p q : Nat} {u : Int32} {j : Nat} (h : bt u (j / 2) = false) (hq : fe k (j / 2) p = some q) (hj : j % 2 = 0) : mt_B P V Lo Hi fe nx sg f k n p u j = if n + 1 < Hi k then mt_X P V Lo Hi fe nx sg f k (n + 1) q (ub u (j / 2)) else [] := by
  unfold mt_B
  rw [if_neg (by rw [h]; decide), hq]
  exact if_pos hj
theorem mt_Be {P : Nat} {V Lo Hi : Nat → Nat} {fe : Nat → Nat → Nat → Option Nat} {nx sg : Nat → Nat} {f k n p q : Nat} {u : Int32} {j : Nat} (h : bt u (j / 2) = false) (hq : fe k (j / 2) p = some q) (hj : ¬ j % 2 = 0) : mt_B P V Lo Hi fe nx sg f k n p u j = if Lo k ≤ n + 1 ∧ q = sg (V k) then (if nx k < P then mt_X P V Lo Hi fe nx sg f (nx k) 0 (sg (V (nx k - 1))) (ub u (j / 2)) else [ub u (j / 2)]) else [] := by
  unfold mt_B
  rw [if_neg (by rw [h]; decide), hq]
  exact if_neg hj
def cf : Nat → Nat
  | 0 => 0
  | f + 1 => 24 * (1 + cf f) + 1
theorem mn_le (a b : Nat) : mn_ a b ≤ b := by unfold mn_; split <;> omega
theorem lm_le (w : Int32 → Nat) : ∀ (A : List Int32) l, lm_ w l A ≤ l
  | [], l => Nat.le_refl l
  | u :: A, l => Nat.le_trans (lm_le w A _) (mn_le _ _)
variable {nT : Int32} {eT : Int32} {xlv : Int32} {xpc : Int32} {xqc : Int32} {xcc : Int32} {xec : Int32} {mc : Int32} {lw : Int32} {rc : Int32} {xla : Nat → Int32} {xpr : Nat → Int64} {xed : Nat → Int32} {sN : Nat → Int32} {sE : Nat → Int32} {sL : Nat → Int32} {sP : Nat → Int64} {sD : Nat → Int32} {pva : Nat → Int32} {pwa : Nat → Int32} {pam : Nat → Int32} {pdi : Nat → Int32} {plo : Nat → Int32} {phi : Nat → Int32} {ptk : Nat → Int32} {pco : Nat → Int32} {pex : Nat → Int32} {tr : Nat → Int32} {ds : Nat → Int32} {ch : Nat → Int32} {ar : Nat → Int32} {rN : Nat → Int32} {rM : Nat → Int32} {s1 : Nat → Int32} {s2 : Nat → Int32} {s3 : Nat → Int32} {s4 : Nat → Int32} {s5 : Nat → Int32}
variable {ylv : Int32} {ypc : Int32} {yqc : Int32} {ycc : Int32} {yec : Int32} {yde : Int32} {yus : Int32} {ywe : Int32} {yfo : Int32} {yli : Int32} {yso : Int32} {ysu : Int64} {yla : Nat → Int32} {ypr : Nat → Int64} {yfr : Nat → Int32} {yto : Nat → Int32} {yty : Nat → Int32} {ywt : Nat → Int32} {yst : Nat → Int32} {ypa : Nat → Int32} {ysp : Nat → Int32} {ypl : Nat → Int32} {ycp : Nat → Int32} {ybo : Nat → Int32} {ytk : Nat → Int32} {yno : Nat → Int32} {ych : Nat → Int32} {yfa : Nat → Int32}
theorem xm_ch {post : Int32 → SX → Prop} {d k n q e H : Nat} {u : Int32} (hd : d < 5) (hk : k < 6) (hH : H ≤ 3) (hn : n < 4) (f1 : s1 d = nI k) (f2 : s2 d = nI n) (f4 : s4 d = u) (hh : phi k = nI H) (h0 : (¬ n + 1 < H ∨ d = 4) → post 0 (nT, eT, xlv, xpc, xqc, xcc, xec, mc, lw, rc, xla, xpr, xed, sN, sE, sL, sP, sD, pva, pwa, pam, pdi, plo, phi, ptk, pco, pex, tr, ds, ch, ar, rN, rM, s1, s2, s3, s4, s5)) (h1 : n + 1 < H → d < 4 → post 1 (nT, eT, xlv, xpc, xqc, xcc, xec, mc, lw, rc, xla, xpr, xed, sN, sE, sL, sP, sD, pva, pwa, pam, pdi, plo, phi, ptk, pco, pex, tr, ds, ch, ar, rN, rM, (upd s1 (d + 1) (nI k)), (upd s2 (d + 1) (nI (n + 1))), (upd s3 (d + 1) (nI q)), (upd s4 (d + 1) (ub u e)), (upd s5 (d + 1) 0))) : wpX_continueHop post (nT, eT, xlv, xpc, xqc, xcc, xec, mc, lw, rc, xla, xpr, xed, sN, sE, sL, sP, sD, pva, pwa, pam, pdi, plo, phi, ptk, pco, pex, tr, ds, ch, ar, rN, rM, s1, s2, s3, s4, s5) (nI d) (nI e) (nI q) := by
  have w : vp_in (nI d) 5 := vp_in_nI hd (by omega)
  have cd : (nI d).toNatClampNeg = d := nI_clamp (by omega)
  have ck : (nI k).toNatClampNeg = k := nI_clamp (by omega)
  unfold wpX_continueHop
  dsimp only
  rw [cd, f1, f2, f4, nI_1, nI_1]
  refine ⟨w, nm_e ⟨w, nm_e ⟨vp_in_nI hk (by omega), ?_⟩⟩⟩
  rw [ck, hh]
  by_cases z : n + 1 < H
  · refine br_f (nI_ge z (by omega)) ⟨w, ?_⟩
    by_cases y : d < 4
    · exact xm_os (by omega) (br_f tg_10 (h1 z y))
    · have e5 : d + 1 = 5 := by omega
      rw [e5]
      exact xm_os0 (br_t rfl (h0 (Or.inr (by omega))))
  · exact br_t (nI_le (by omega) (by omega)) (h0 (Or.inl z))
theorem xm_eh {post : Int32 → SX → Prop} {P d k n q e m l : Nat} {sg : Nat → Nat} {u : Int32} (hP : P ≤ 6) (hp : ∀ k, k < P → qu_P pva pwa pam pdi plo phi k) (hR : gr_R nT eT xla xpr xed yla ypr yfr yto yty ywt) (hsg : ∀ v, v < 4 → ch v = nI (sg v) ∧ sg v < 8) (hu : us_ eT (ub u e)) (hl : l ≤ 1000000) (hq : q < 8)
    (hd : d < 5) (hk : k < P) (ha : ¬ pam k = 0) (hn : n < 4) (f1 : s1 d = nI k) (f2 : s2 d = nI n) (f4 : s4 d = u)
    (h0 : ¬ (Vf plo k ≤ n + 1 ∧ q = sg (Vf pva k)) → post 0 (nT, eT, xlv, (nI P), xqc, xcc, xec, (nI m), (nI l), rc, xla, xpr, xed, sN, sE, sL, sP, sD, pva, pwa, pam, pdi, plo, phi, ptk, pco, pex, tr, ds, ch, ar, rN, rM, s1, s2, s3, s4, s5))
    (hm : Vf plo k ≤ n + 1 → q = sg (Vf pva k) → ¬ nx_ pam P k < P → post 0 (nT, eT, xlv, (nI P), xqc, xcc, xec, (nI (m + 1)), (nI (mn_ (ws_ ywt (ub u e)) l)), rc, xla, xpr, xed, sN, sE, sL, sP, sD, pva, pwa, pam, pdi, plo, phi, ptk, pco, pex, tr, ds, ch, ar, rN, rM, s1, s2, s3, s4, s5))
    (h4 : Vf plo k ≤ n + 1 → q = sg (Vf pva k) → nx_ pam P k < P → d = 4 → post 0 (nT, eT, xlv, (nI P), xqc, xcc, xec, (nI m), (nI l), rc, xla, xpr, xed, sN, sE, sL, sP, sD, pva, pwa, pam, pdi, plo, phi, ptk, pco, pex, tr, ds, ch, ar, rN, rM, s1, s2, s3, s4, s5))
    (h1 : Vf plo k ≤ n + 1 → q = sg (Vf pva k) → nx_ pam P k < P → d < 4 → post 1 (nT, eT, xlv, (nI P), xqc, xcc, xec, (nI m), (nI l), rc, xla, xpr, xed, sN, sE, sL, sP, sD, pva, pwa, pam, pdi, plo, phi, ptk, pco, pex, tr, ds, ch, ar, rN, rM, (upd s1 (d + 1) (nI (nx_ pam P k))), (upd s2 (d + 1) 0), (upd s3 (d + 1) (nI (sg (Vf pva (nx_ pam P k - 1))))), (upd s4 (d + 1) (ub u e)), (upd s5 (d + 1) 0))) :
    wpX_endHop post (nT, eT, xlv, (nI P), xqc, xcc, xec, (nI m), (nI l), rc, xla, xpr, xed, sN, sE, sL, sP, sD, pva, pwa, pam, pdi, plo, phi, ptk, pco, pex, tr, ds, ch, ar, rN, rM, s1, s2, s3, s4, s5) (nI d) (nI e) (nI q) := by
  have w : vp_in (nI d) 5 := vp_in_nI hd (by omega)
  have wk : vp_in (nI k) 6 := vp_in_nI (by omega) (by omega)
  have cd : (nI d).toNatClampNeg = d := nI_clamp (by omega)
  have ck : (nI k).toNatClampNeg = k := nI_clamp (by omega)
  obtain ⟨v1, v2, _, v3⟩ := q_f (hp k hk)
  obtain ⟨_, _, v4, _, _, v5, v6⟩ := v3 ha
  obtain ⟨g1, g2⟩ := hsg _ v2
  unfold wpX_endHop
  dsimp only
  rw [cd, f1, f2, f4, nI_1, nI_1]
  refine ⟨w, nm_e ⟨w, wk, ?_⟩⟩
  rw [ck, v4, v1, nI_clamp (show Vf pva k < 2 ^ 31 by omega), g1]
  by_cases z : Vf plo k ≤ n + 1
  · refine br_f (nI_nlt z (by omega)) ⟨wk, vp_in_nI v2 (by omega), ?_⟩
    by_cases y : q = sg (Vf pva k)
    · refine br_t (by rw [y]) ⟨w, nm_e (xm_nx hP hk ?_)⟩
      obtain ⟨n1, n2, n3, n4⟩ := nxf_s (am := pam) (P := P) (P - (k + 1)) (k + 1) (by omega)
      have n1' : k + 1 ≤ nx_ pam P k := n1
      have n2' : nx_ pam P k ≤ P := n2
      by_cases x : nx_ pam P k < P
      · have e1 : nI (nx_ pam P k) - 1 = nI (nx_ pam P k - 1) := pk_sub (b := 1) (by omega)
        obtain ⟨b1, b2, _, _⟩ := q_f (hp (nx_ pam P k - 1) (by omega))
        obtain ⟨b3, b4⟩ := hsg _ b2
        refine br_t (nI_lt x (by omega)) ?_
        rw [e1, nI_clamp (show nx_ pam P k - 1 < 2 ^ 31 by omega), b1, nI_clamp (show Vf pva (nx_ pam P k - 1) < 2 ^ 31 by omega), b3]
        refine ⟨vp_in_nI (by omega) (by omega), vp_in_nI b2 (by omega), ?_⟩
        by_cases s : d < 4
        · exact xm_os (by omega) ⟨rfl, h1 z y x s⟩
        · have e5 : d + 1 = 5 := by omega
          rw [e5]
          exact xm_os0 ⟨rfl, h4 z y x (by omega)⟩
      · exact br_f (nI_nlt (by omega) (by omega)) (xm_am hR hu hl (hm z y x))
    · exact br_f (fun w => y ((nI_eq (by omega) (by omega)).mp w)) (h0 (fun w => y w.2))
  · exact br_t (nI_lt (by omega) (by omega)) (h0 (fun w => z w.1))
