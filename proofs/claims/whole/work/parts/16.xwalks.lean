/-! the stack of tables that an expression leaves, read from its end -/
def ev_s (ed : Nat → Nat → Nat) (c ws : Nat → Nat) (n : Nat) : Nat → Nat → Nat → Nat
  | 0 => fun _ _ => 0
  | j + 1 => fun s =>
    if c (n - 1 - j) ≤ 5 then (if s = ws (n - j) then ed (c (n - 1 - j)) else ev_s ed c ws n j s)
    else if c (n - 1 - j) = 10 then (if s = ws (n - j) - 2 then tb_c (ev_s ed c ws n j (ws (n - j) - 1)) (ev_s ed c ws n j (ws (n - j) - 2)) else ev_s ed c ws n j s)
    else if c (n - 1 - j) = 11 then (if s = ws (n - j) - 2 then tb_m (ev_s ed c ws n j (ws (n - j) - 1)) (ev_s ed c ws n j (ws (n - j) - 2)) else ev_s ed c ws n j s)
    else (if s = ws (n - j) - 1 then tb_t (c (n - 1 - j)) (ev_s ed c ws n j (ws (n - j) - 1)) else ev_s ed c ws n j s)
def ev_k (ed : Nat → Nat → Nat) (c ws : Nat → Nat) (n k : Nat) : Nat → Nat → Nat := ev_s ed c ws n (n - k)
theorem ev_e {ed : Nat → Nat → Nat} {c ws : Nat → Nat} {n k : Nat} (hk : k < n) (s : Nat) : ev_k ed c ws n k s =
    if c k ≤ 5 then (if s = ws (k + 1) then ed (c k) else ev_k ed c ws n (k + 1) s)
    else if c k = 10 then (if s = ws (k + 1) - 2 then tb_c (ev_k ed c ws n (k + 1) (ws (k + 1) - 1)) (ev_k ed c ws n (k + 1) (ws (k + 1) - 2)) else ev_k ed c ws n (k + 1) s)
    else if c k = 11 then (if s = ws (k + 1) - 2 then tb_m (ev_k ed c ws n (k + 1) (ws (k + 1) - 1)) (ev_k ed c ws n (k + 1) (ws (k + 1) - 2)) else ev_k ed c ws n (k + 1) s)
    else (if s = ws (k + 1) - 1 then tb_t (c k) (ev_k ed c ws n (k + 1) (ws (k + 1) - 1)) else ev_k ed c ws n (k + 1) s) := by
  unfold ev_k
  obtain ⟨j, hj⟩ : ∃ j, n - k = j + 1 := ⟨n - k - 1, by omega⟩
  have e1 : n - 1 - j = k := by omega
  have e2 : n - j = k + 1 := by omega
  have e3 : n - (k + 1) = j := by omega
  rw [hj, e3]
  show (if c (n - 1 - j) ≤ 5 then (if s = ws (n - j) then ed (c (n - 1 - j)) else ev_s ed c ws n j s) else _) = _
  rw [e1, e2]
theorem ep_wb {c : Nat → Nat} {n : Nat} {ws : Nat → Nat} (h : ep_W c n ws) : ∀ d i, i + d = n → ws i ≤ d
  | 0, i, hi => by rw [show i = n from by omega, h.2.1]; exact Nat.le_refl 0
  | d + 1, i, hi => by
    have a := ep_wb h d (i + 1) (by omega)
    have b := (h.2.2 i (by omega)).2
    omega
def ev_I (ds : Nat → Int32) (d : Nat) (S : Nat → Nat → Nat) : Prop := ∀ s, s < d → tb_N ds s (S s) 64
theorem ev_l {ed : Nat → Nat → Nat} {c ws : Nat → Nat} {n k : Nat} {ds ds' : Nat → Int32} (hk : k < n) (h : ev_I ds (ws (k + 1)) (ev_k ed c ws n (k + 1))) (h5 : c k ≤ 5) (hw : ws k = ws (k + 1) + 1) (k1 : tb_N ds' (ws (k + 1)) (ed (c k)) 64) (k2 : tb_F (ws (k + 1)) ds ds') : ev_I ds' (ws k) (ev_k ed c ws n k) := fun s hs => by
  rw [ev_e hk, if_pos h5]
  by_cases z : s = ws (k + 1)
  · rw [if_pos z, z]; exact k1
  · rw [if_neg z]; exact tb_NF (h s (by omega)) k2 (by omega) (Nat.le_refl 64)
theorem ev_b {ed : Nat → Nat → Nat} {c ws : Nat → Nat} {n k : Nat} {ds ds' : Nat → Int32} (hk : k < n) (h : ev_I ds (ws (k + 1)) (ev_k ed c ws n (k + 1))) (h5 : c k = 10) (hw : ws (k + 1) = ws k + 1) (h0 : 0 < ws k) (k1 : tb_N ds' (ws k - 1) (tb_c (ev_k ed c ws n (k + 1) (ws k)) (ev_k ed c ws n (k + 1) (ws k - 1))) 64) (k2 : tb_F (ws k - 1) ds ds') : ev_I ds' (ws k) (ev_k ed c ws n k) := fun s hs => by
  rw [ev_e hk, if_neg (by omega), if_pos h5, hw, show ws k + 1 - 2 = ws k - 1 from by omega, show ws k + 1 - 1 = ws k from by omega]
  by_cases z : s = ws k - 1
  · rw [if_pos z, z]; exact k1
  · rw [if_neg z]; exact tb_NF (h s (by omega)) k2 (by omega) (Nat.le_refl 64)
theorem ev_m {ed : Nat → Nat → Nat} {c ws : Nat → Nat} {n k : Nat} {ds ds' : Nat → Int32} (hk : k < n) (h : ev_I ds (ws (k + 1)) (ev_k ed c ws n (k + 1))) (h5 : c k = 11) (hw : ws (k + 1) = ws k + 1) (h0 : 0 < ws k) (k1 : tb_N ds' (ws k - 1) (tb_m (ev_k ed c ws n (k + 1) (ws k)) (ev_k ed c ws n (k + 1) (ws k - 1))) 64) (k2 : tb_F (ws k - 1) ds ds') : ev_I ds' (ws k) (ev_k ed c ws n k) := fun s hs => by
  rw [ev_e hk, if_neg (by omega), if_neg (by omega), if_pos h5, hw, show ws k + 1 - 2 = ws k - 1 from by omega, show ws k + 1 - 1 = ws k from by omega]
  by_cases z : s = ws k - 1
  · rw [if_pos z, z]; exact k1
  · rw [if_neg z]; exact tb_NF (h s (by omega)) k2 (by omega) (Nat.le_refl 64)
theorem ev_t {ed : Nat → Nat → Nat} {c ws : Nat → Nat} {n k : Nat} {ds ds' : Nat → Int32} (hk : k < n) (h : ev_I ds (ws (k + 1)) (ev_k ed c ws n (k + 1))) (h5 : 12 ≤ c k) (hw : ws (k + 1) = ws k) (h0 : 0 < ws k) (k1 : tb_N ds' (ws k - 1) (tb_t (c k) (ev_k ed c ws n (k + 1) (ws k - 1))) 64) (k2 : tb_F (ws k - 1) ds ds') : ev_I ds' (ws k) (ev_k ed c ws n k) := fun s hs => by
  rw [ev_e hk, if_neg (by omega), if_neg (by omega), if_neg (by omega), hw]
  by_cases z : s = ws k - 1
  · rw [if_pos z, z]; exact k1
  · rw [if_neg z]; exact tb_NF (h s (by omega)) k2 (by omega) (Nat.le_refl 64)
theorem tg_p64 (a : Nat) : nI a * 64 = nI (a * 64) := pk_mul a 64
variable {nT : Int32} {eT : Int32} {xlv : Int32} {xpc : Int32} {xqc : Int32} {xcc : Int32} {xec : Int32} {mc : Int32} {lw : Int32} {rc : Int32} {xla : Nat → Int32} {xpr : Nat → Int64} {xed : Nat → Int32} {sN : Nat → Int32} {sE : Nat → Int32} {sL : Nat → Int32} {sP : Nat → Int64} {sD : Nat → Int32} {pva : Nat → Int32} {pwa : Nat → Int32} {pam : Nat → Int32} {pdi : Nat → Int32} {plo : Nat → Int32} {phi : Nat → Int32} {ptk : Nat → Int32} {pco : Nat → Int32} {pex : Nat → Int32} {tr : Nat → Int32} {ds : Nat → Int32} {ch : Nat → Int32} {ar : Nat → Int32} {rN : Nat → Int32} {rM : Nat → Int32} {s1 : Nat → Int32} {s2 : Nat → Int32} {s3 : Nat → Int32} {s4 : Nat → Int32} {s5 : Nat → Int32}
variable {ylv : Int32} {ypc : Int32} {yqc : Int32} {ycc : Int32} {yec : Int32} {yde : Int32} {yus : Int32} {ywe : Int32} {yfo : Int32} {yli : Int32} {yso : Int32} {ysu : Int64} {yla : Nat → Int32} {ypr : Nat → Int64} {yfr : Nat → Int32} {yto : Nat → Int32} {yty : Nat → Int32} {ywt : Nat → Int32} {yst : Nat → Int32} {ypa : Nat → Int32} {ysp : Nat → Int32} {ypl : Nat → Int32} {ycp : Nat → Int32} {ybo : Nat → Int32} {ytk : Nat → Int32} {yno : Nat → Int32} {ych : Nat → Int32} {yfa : Nat → Int32}
theorem xw_l {post : SX → Prop} {n : Nat} {c ws : Nat → Nat} (hn : n ≤ 10) (hc : ∀ k, k < n → pex k = nI (c k)) (hW : ep_W c n ws) (hR : gr_R nT eT xla xpr xed yla ypr yfr yto yty ywt)
    (h : ∀ ds', tb_N ds' 0 (ev_k (fun t => tb_ed eT yfr yto yty t 12) c ws n 0 0) 64 → post (nT, eT, xlv, xpc, xqc, xcc, xec, mc, lw, rc, xla, xpr, xed, sN, sE, sL, sP, sD, pva, pwa, pam, pdi, plo, phi, ptk, pco, pex, tr, ds', ch, ar, rN, rM, s1, s2, s3, s4, s5)) : ∀ i ds, i ≤ n → ev_I ds (ws i) (ev_k (fun t => tb_ed eT yfr yto yty t 12) c ws n i) → wX_measureWalks_9 post (i + 1) (nI (ws i)) (nI i + (-1)) nT eT xlv xpc xqc xcc xec mc lw rc xla xpr xed sN sE sL sP sD pva pwa pam pdi plo phi ptk pco pex tr ds ch ar rN rM s1 s2 s3 s4 s5 := by
  intro i
  induction i with
  | zero =>
    intro ds hi hs
    exact br_t (by decide) (h ds (hs 0 (by rw [hW.1]; omega)))
  | succ k ih =>
    intro ds hi hs
    have wb := ep_wb hW (n - (k + 1)) (k + 1) (by omega)
    have ck := hc k (by omega)
    rw [pk_m1]
    have ct : c k ≤ 14 := by have := (hW.2.2 k (by omega)).2; omega
    have ne : ∀ a, a < 100 → c k ≠ a → ¬ nI (c k) = nI a := fun a ha q e => q ((nI_eq (by omega) (by omega)).mp e)
    refine br_f (nI_pos (by omega)) ⟨vp_in_nI (by omega) (by omega), nm_r (show _ = nI (c k) from by rw [nI_clamp (by omega), ck]) ?_⟩
    obtain ⟨w0, q⟩ := hW.2.2 k (by omega)
    rcases q with ⟨h5, hw⟩ | ⟨h5, hw⟩ | ⟨h5, h6, hw⟩
    · refine br_f (nI_nlt (b := c k) (a := 5) h5 (by omega)) ?_
      rw [tg_p64]
      refine xw_e2 (by omega) h5 hR (fun ds' k1 k2 => nm_r (show _ = nI (ws k) from ?_) (nm_e (ih ds' (by omega) (ev_l (by omega) hs h5 (by omega) k1 k2))))
      rw [nI_1]; exact congrArg nI (by omega)
    · have e1 : nI (ws (k + 1)) + (-1) = nI (ws k) := by rw [hw, pk_m1]
      have e2 : nI (ws k) - 1 = nI (ws k - 1) := pk_sub (b := 1) (by omega)
      refine br_t (nI_lt (a := 5) (by omega) (by omega)) ?_
      rcases h5 with h5 | h5
      · refine br_t (by rw [h5]; rfl) (nm_r e1 (br_t (by rw [h5]; rfl) ?_))
        rw [e2, tg_p64, tg_p64]
        exact xw_b (by omega) (by omega) (hs (ws k) (by omega)) (hs (ws k - 1) (by omega)) (fun ds' k1 k2 => nm_e (ih ds' (by omega) (ev_b (by omega) hs h5 hw w0 k1 k2)))
      · refine br_f (ne 10 (by omega) (by omega)) (br_t (by rw [h5]; rfl) (nm_r e1 (br_f (ne 10 (by omega) (by omega)) ?_)))
        rw [e2, tg_p64, tg_p64]
        exact xw_m (by omega) (by omega) (hs (ws k) (by omega)) (hs (ws k - 1) (by omega)) (fun ds' k1 k2 => nm_e (ih ds' (by omega) (ev_m (by omega) hs h5 hw w0 k1 k2)))
    · have e2 : nI (ws (k + 1)) - 1 = nI (ws k - 1) := by rw [hw]; exact pk_sub (b := 1) (by omega)
      refine br_t (nI_lt (a := 5) (by omega) (by omega)) (br_f (ne 10 (by omega) (by omega)) (br_f (ne 11 (by omega) (by omega)) ?_))
      rw [e2, tg_p64]
      refine xw_t (by omega) h5 h6 (hs (ws k - 1) (by omega)) (fun ds' k1 k2 => nm_e ?_)
      rw [hw]
      exact ih ds' (by omega) (ev_t (by omega) hs h5 hw w0 k1 k2)
theorem xw_w {post : SX → Prop} {n : Nat} {c ws : Nat → Nat} (hn : n ≤ 10) (hc : ∀ k, k < n → pex k = nI (c k)) (hW : ep_W c n ws) (hR : gr_R nT eT xla xpr xed yla ypr yfr yto yty ywt)
    (h : ∀ ds', tb_N ds' 0 (ev_k (fun t => tb_ed eT yfr yto yty t 12) c ws n 0 0) 64 → post (nT, eT, xlv, xpc, xqc, xcc, (nI n), mc, lw, rc, xla, xpr, xed, sN, sE, sL, sP, sD, pva, pwa, pam, pdi, plo, phi, ptk, pco, pex, tr, ds', ch, ar, rN, rM, s1, s2, s3, s4, s5)) : wpX_measureWalks post (nT, eT, xlv, xpc, xqc, xcc, (nI n), mc, lw, rc, xla, xpr, xed, sN, sE, sL, sP, sD, pva, pwa, pam, pdi, plo, phi, ptk, pco, pex, tr, ds, ch, ar, rN, rM, s1, s2, s3, s4, s5) := by
  have K := xw_l (xec := nI n) (nT := nT) (xla := xla) (xpr := xpr) (xed := xed) hn hc hW hR h n ds (Nat.le_refl n) (fun s hs => absurd hs (by rw [hW.2.1]; exact Nat.not_lt_zero s))
  refine nm_r (Int32.sub_eq_add_neg (nI n) 1) ⟨n + 1, ?_⟩
  rw [hW.2.1] at K
  exact K
