/-! conditionHolds and truth -/
theorem tk_op {pr : Nat → Int64} {s : Nat → Int32} {c cs : Nat → Nat} {n k : Nat} (hk : k < n) (h : c k < 4 ∨ 1000 ≤ c k) (l : Nat) : tk_ pr s c cs n k l = tk_ pr s c cs n (k + 1) l := by
  rw [tk_e hk]
  split
  · by_cases z : c k < 10
    · rw [if_pos z]
    · rw [if_neg z, if_neg (by omega), if_neg (by omega), if_neg (by omega)]
  · rfl
def cv_ (pr : Nat → Int64) (s : Nat → Int32) (c cs : Nat → Nat) (n : Nat) : Bool := decide (n = 0 ∨ tk_ pr s c cs n 0 0 = 2)
theorem tk_le (pr : Nat → Int64) (s : Nat → Int32) (c cs : Nat → Nat) (n k l : Nat) : tk_ pr s c cs n k l ≤ 2 := tk_2 pr s c cs n _ l
def yk (x : Nat) : Int32 := if x = 0 then 0 else if x = 1 then 2 else 1
theorem yk_a0 : ∀ a, a < 3 → ∀ b, b < 3 → (yk a = 0 ∨ yk b = 0) → yk (jn_ 14 a b) = 0 := by decide +kernel
theorem yk_a1 : ∀ a, a < 3 → ∀ b, b < 3 → (yk a = 1 ∧ yk b = 1) → yk (jn_ 14 a b) = 1 := by decide +kernel
theorem yk_a2 : ∀ a, a < 3 → ∀ b, b < 3 → (¬ yk a = 0 ∧ ¬ yk b = 0 ∧ ¬ (yk a = 1 ∧ yk b = 1)) → yk (jn_ 14 a b) = 2 := by decide +kernel
theorem yk_o1 : ∀ a, a < 3 → ∀ b, b < 3 → (yk a = 1 ∨ yk b = 1) → yk (jn_ 15 a b) = 1 := by decide +kernel
theorem yk_o0 : ∀ a, a < 3 → ∀ b, b < 3 → (yk a = 0 ∧ yk b = 0) → yk (jn_ 15 a b) = 0 := by decide +kernel
theorem yk_o2 : ∀ a, a < 3 → ∀ b, b < 3 → (¬ yk a = 1 ∧ ¬ yk b = 1 ∧ ¬ (yk a = 0 ∧ yk b = 0)) → yk (jn_ 15 a b) = 2 := by decide +kernel
theorem yk_not : ∀ a, a < 3 → (yk a = 2 → yk (2 - a) = 2) ∧ (¬ yk a = 2 → yk (2 - a) = 1 - yk a) := by decide +kernel
variable {nT : Int32} {eT : Int32} {xlv : Int32} {xpc : Int32} {xqc : Int32} {xcc : Int32} {xec : Int32} {mc : Int32} {lw : Int32} {rc : Int32} {xla : Nat → Int32} {xpr : Nat → Int64} {xed : Nat → Int32} {sN : Nat → Int32} {sE : Nat → Int32} {sL : Nat → Int32} {sP : Nat → Int64} {sD : Nat → Int32} {pva : Nat → Int32} {pwa : Nat → Int32} {pam : Nat → Int32} {pdi : Nat → Int32} {plo : Nat → Int32} {phi : Nat → Int32} {ptk : Nat → Int32} {pco : Nat → Int32} {pex : Nat → Int32} {tr : Nat → Int32} {ds : Nat → Int32} {ch : Nat → Int32} {ar : Nat → Int32} {rN : Nat → Int32} {rM : Nat → Int32} {s1 : Nat → Int32} {s2 : Nat → Int32} {s3 : Nat → Int32} {s4 : Nat → Int32} {s5 : Nat → Int32}
variable {ylv : Int32} {ypc : Int32} {yqc : Int32} {ycc : Int32} {yec : Int32} {yde : Int32} {yus : Int32} {ywe : Int32} {yfo : Int32} {yli : Int32} {yso : Int32} {ysu : Int64} {yla : Nat → Int32} {ypr : Nat → Int64} {yfr : Nat → Int32} {yto : Nat → Int32} {yty : Nat → Int32} {ywt : Nat → Int32} {yst : Nat → Int32} {ypa : Nat → Int32} {ysp : Nat → Int32} {ypl : Nat → Int32} {ycp : Nat → Int32} {ybo : Nat → Int32} {ytk : Nat → Int32} {yno : Nat → Int32} {ych : Nat → Int32} {yfa : Nat → Int32}
theorem xc_j {post : Int32 → Prop} {t a b : Nat} (ht : t = 14 ∨ t = 15) (ha : a ≤ 2) (hb : b ≤ 2) (h : post (nI (jn_ t a b))) : wpX_joined post (nI t) (nI a) (nI b) := by
  unfold jn_ at h
  rcases ht with rfl | rfl
  · rw [if_pos rfl] at h
    by_cases z : b ≤ a
    · rw [if_pos z] at h
      exact br_t (nI_le z (by omega)) (br_t rfl h)
    · rw [if_neg z] at h
      exact br_f (nI_ge (by omega) (by omega)) (br_t rfl h)
  · rw [if_neg (by decide)] at h
    by_cases z : b ≤ a
    · rw [if_pos z] at h
      refine br_t (nI_le z (by omega)) (br_f (by decide) ?_)
      rw [nI_add, pk_sub (by omega), show a + b - b = a from by omega]
      exact h
    · rw [if_neg z] at h
      refine br_f (nI_ge (by omega) (by omega)) (br_f (by decide) ?_)
      rw [nI_add, pk_sub (by omega), show a + b - a = b from by omega]
      exact h
theorem xc_l {post : Int32 → SX → Prop} {n : Nat} {c cs os : Nat → Nat} {nm nu : Nat → Prop} {s : Nat → Int32} (hn : n ≤ 12) (hco : ∀ k, k < n → pco k = nI (c k)) (hR : gr_R nT eT xla xpr xed yla ypr yfr yto yty ywt) (hW : n = 0 ∨ cd_W c nm n cs os nu) (hs : sn_ nT nm s) (hc : ∀ v, v < 4 → ch v = s v)
    (h : ∀ tr, post (tg_z (cv_ ypr s c cs n)) (nT, eT, xlv, xpc, xqc, (nI n), xec, mc, lw, rc, xla, xpr, xed, sN, sE, sL, sP, sD, pva, pwa, pam, pdi, plo, phi, ptk, pco, pex, tr, ds, ch, ar, rN, rM, s1, s2, s3, s4, s5)) : wpX_conditionHolds post (nT, eT, xlv, xpc, xqc, (nI n), xec, mc, lw, rc, xla, xpr, xed, sN, sE, sL, sP, sD, pva, pwa, pam, pdi, plo, phi, ptk, pco, pex, tr, ds, ch, ar, rN, rM, s1, s2, s3, s4, s5) := by
  rcases Nat.eq_zero_or_pos n with z0 | z0
  · subst z0
    have e : cv_ ypr s c cs 0 = true := decide_eq_true (Or.inl rfl)
    rw [e] at h
    exact nm_e ⟨1, br_t (by decide) (br_t rfl (h tr))⟩
  have hW := hW.resolve_left (by omega)
  have K : ∀ i tr, i ≤ n → (∀ l, l < cs i → tr l = nI (tk_ ypr s c cs n i l)) → wX_conditionHolds_9 post nT eT xlv xpc xqc (nI n) xec mc lw rc (i + 1) (nI (cs i)) (nI i + (-1)) xla xpr xed sN sE sL sP sD pva pwa pam pdi plo phi ptk pco pex tr ds ch ar rN rM s1 s2 s3 s4 s5 := by
    intro i
    induction i with
    | zero =>
      intro tr hi ht
      have t0 := ht 0 (by rw [hW.1]; omega)
      have hle := tk_le ypr s c cs n 0 0
      refine br_t (by decide) (br_f (nI_ne0 z0 (by omega)) ?_)
      rw [t0]
      by_cases q : tk_ ypr s c cs n 0 0 = 2
      · have e : cv_ ypr s c cs n = true := decide_eq_true (Or.inr q)
        rw [e] at h
        exact br_t (by rw [q]; rfl) (h tr)
      · have e : cv_ ypr s c cs n = false := decide_eq_false (by omega)
        rw [e] at h
        exact br_f (fun w => q ((nI_eq (b := 2) (by omega) (by omega)).mp w)) (h tr)
    | succ k ih =>
      intro tr hi ht
      have wb := cd_wb hW (n - (k + 1)) (k + 1) (by omega)
      have wb0 := cd_wb hW (n - k) k (by omega)
      obtain ⟨cl, co1, co2⟩ := cd_10 hW (k := k) (by omega)
      have ne : ∀ a, a < 100 → c k ≠ a → ¬ nI (c k) = nI a := fun a ha q e => q ((nI_eq (by omega) (by omega)).mp e)
      rw [pk_m1]
      refine br_f (nI_pos (by omega)) ⟨vp_in_nI (by omega) (by omega), nm_r (show _ = nI (c k) from by rw [nI_clamp (by omega), hco k (by omega)]) ?_⟩
      rcases Nat.eq_zero_or_pos (os k) with o | o
      · obtain ⟨t1, t2, w0, b1, b2⟩ := co2 o
        refine br_f (nI_nlt (b := 10) t1 (by omega)) ?_
        by_cases z : c k ≤ 13
        · obtain ⟨_, cw, _⟩ := cd_op hW (by omega) o t1 z
          refine br_f (nI_nlt (b := c k) (a := 13) z (by omega)) (xc_c hn hco hR hW hs hc (by omega) o t1 z ⟨vp_in_nI (by omega) (by omega), nm_r (tg_u (by omega)) (nm_r (show _ = nI (cs k) from ?_) (nm_e (ih _ (by omega) (fun l hl => ?_))))⟩)
          · rw [nI_1]; exact congrArg nI (by omega)
          · rw [tk_e (k := k) (by omega)]
            by_cases y : l = cs k - 1
            · rw [if_pos y, if_neg (by omega), if_pos z, y, cw, pk_us]
            · rw [if_neg y, cw, pk_un y]; exact ht l (by omega)
        · refine br_t (nI_lt (a := 13) (by omega) (by omega)) ?_
          by_cases y : c k = 16
          · obtain ⟨cw, _⟩ := b2 y
            have e1 : nI (cs (k + 1)) - 1 = nI (cs k - 1) := by rw [cw]; exact pk_sub (b := 1) (by omega)
            have w : vp_in (nI (cs k - 1)) 12 := vp_in_nI (by omega) (by omega)
            have hle := tk_le ypr s c cs n (k + 1) (cs k - 1)
            have e2 : 2 - nI (tk_ ypr s c cs n (k + 1) (cs k - 1)) = nI (2 - tk_ ypr s c cs n (k + 1) (cs k - 1)) := pk_sub (a := 2) (by omega)
            unfold wX_conditionHolds_49
            rw [e1, nI_clamp (show cs k - 1 < 2 ^ 31 by omega), ht (cs k - 1) (by omega), e2]
            refine br_t (by rw [y]; rfl) ⟨w, w, nm_e (nm_e ?_)⟩
            rw [cw]
            refine ih _ (by omega) (fun l hl => ?_)
            rw [tk_e (k := k) (by omega)]
            by_cases x : l = cs k - 1
            · rw [if_pos x, if_neg (by omega), if_neg (by omega), if_neg (by omega), if_pos y, x, pk_us]
            · rw [if_neg x, pk_un x]; exact ht l (by omega)
          · obtain ⟨cw, _⟩ := b1 (by omega) (by omega)
            have e0 : nI (cs (k + 1)) + (-1) = nI (cs k) := by rw [cw, pk_m1]
            have e1 : nI (cs k) - 1 = nI (cs k - 1) := pk_sub (b := 1) (by omega)
            have go : wX_conditionHolds_88 post (wX_conditionHolds_9 post nT eT xlv xpc xqc (nI n) xec mc lw rc (k + 1)) (nI (cs (k + 1))) (nI k) (nI (c k)) nT eT xlv xpc xqc (nI n) xec mc lw rc xla xpr xed sN sE sL sP sD pva pwa pam pdi plo phi ptk pco pex tr ds ch ar rN rM s1 s2 s3 s4 s5 := by
              refine nm_r e0 ?_
              rw [e1, nI_clamp (show cs k < 2 ^ 31 by omega), nI_clamp (show cs k - 1 < 2 ^ 31 by omega), ht (cs k) (by omega), ht (cs k - 1) (by omega)]
              refine ⟨vp_in_nI (by omega) (by omega), vp_in_nI (by omega) (by omega), xc_j (by omega) (tk_le _ _ _ _ _ _ _) (tk_le _ _ _ _ _ _ _) ⟨vp_in_nI (by omega) (by omega), nm_e (nm_e (ih _ (by omega) (fun l hl => ?_)))⟩⟩
              rw [tk_e (k := k) (by omega)]
              by_cases x : l = cs k - 1
              · rw [if_pos x, if_neg (by omega), if_neg (by omega), if_pos (by omega), x, pk_us]
              · rw [if_neg x, pk_un x]; exact ht l (by omega)
            refine br_f (ne 16 (by omega) y) ?_
            by_cases x : c k = 14
            · exact br_t (by rw [x]; rfl) go
            · exact br_f (ne 14 (by omega) x) (br_t (by rw [show c k = 15 from by omega]; rfl) go)
      · obtain ⟨t1, cw, _⟩ := co1 o
        have go : wX_conditionHolds_49 post (wX_conditionHolds_9 post nT eT xlv xpc xqc (nI n) xec mc lw rc (k + 1)) (nI (cs (k + 1))) (nI k) (nI (c k)) nT eT xlv xpc xqc (nI n) xec mc lw rc xla xpr xed sN sE sL sP sD pva pwa pam pdi plo phi ptk pco pex tr ds ch ar rN rM s1 s2 s3 s4 s5 := by
          refine br_f (ne 16 (by omega) (by omega)) (br_f (ne 14 (by omega) (by omega)) (br_f (ne 15 (by omega) (by omega)) (nm_e ?_)))
          rw [cw]
          refine ih tr (by omega) (fun l hl => ?_)
          rw [tk_op (by omega) t1]
          exact ht l (by omega)
        by_cases z : c k < 10
        · exact br_t (nI_lt (b := 10) z (by omega)) go
        · exact br_f (nI_nlt (b := 10) (by omega) (by omega)) (br_t (nI_lt (a := 13) (by omega) (by omega)) go)
  have K0 := K n tr (Nat.le_refl n) (fun l hl => absurd hl (by rw [hW.2.2.1]; exact Nat.not_lt_zero l))
  rw [hW.2.2.1] at K0
  exact nm_r (Int32.sub_eq_add_neg (nI n) 1) ⟨n + 1, K0⟩
/-! Y's truth -/
theorem yc_v {post : Int64 → Prop} {nm : Nat → Prop} {s : Nat → Int32} {t : Nat} (ht : op_ nm t) (hs : sn_ nT nm s) (hc : ∀ v, v < 4 → yno v = s v) (h : post (vo_ ypr s t)) : wpY_operand post (ylv, ypc, yqc, ycc, yec, yde, yus, ywe, yfo, yli, yso, ysu, yla, ypr, yfr, yto, yty, ywt, pva, pwa, pam, pdi, plo, phi, ptk, pco, pex, yst, ypa, ysp, ypl, ycp, ybo, ytk, yno, ych, yfa) (nI t) := by
  unfold vo_ at h
  rcases ht with ⟨h4, hn⟩ | ⟨h1, h2⟩
  · obtain ⟨m, hm, e, b⟩ := hs t h4 hn
    rw [if_pos h4] at h
    refine br_t (nI_lt (b := 1000) (by omega) (by omega)) ⟨vp_in_nI h4 (by omega), ?_⟩
    rw [nI_clamp (by omega), hc t h4]
    rw [e] at h ⊢
    exact ⟨vp_in_nI (by omega) (by omega), h⟩
  · rw [if_neg (by omega)] at h
    exact br_f (nI_nlt (b := 1000) (by omega) (by omega)) h
theorem yc_r {post : Int32 → Prop} {n : Nat} {c cs os : Nat → Nat} {nm nu : Nat → Prop} {s : Nat → Int32} (hW : cd_W c nm n cs os nu) (hs : sn_ nT nm s) (hc : ∀ v, v < 4 → yno v = s v) {k : Nat} {b : Int32} (hk : k < n) (ho : os k = 0) (h1 : 10 ≤ c k) (h2 : c k ≤ 13) (hb : c k ≠ 12 → b = nI (c (k + 2))) (h : post (yk (cm_ ypr s c k))) : wpY_result post (ylv, ypc, yqc, ycc, yec, yde, yus, ywe, yfo, yli, yso, ysu, yla, ypr, yfr, yto, yty, ywt, pva, pwa, pam, pdi, plo, phi, ptk, pco, pex, yst, ypa, ysp, ypl, ycp, ybo, ytk, yno, ych, yfa) (nI (c k)) (nI (c (k + 1))) b := by
  obtain ⟨_, _, k1, o1, s1, _, r⟩ := cd_op hW hk ho h1 h2
  have ne : ∀ a, a < 100 → c k ≠ a → ¬ nI (c k) = nI a := fun a ha q e => q ((nI_eq (by omega) (by omega)).mp e)
  unfold cm_ at h
  refine br_f (ne 14 (by omega) (by omega)) (br_f (ne 15 (by omega) (by omega)) (br_f (ne 16 (by omega) (by omega)) ?_))
  by_cases z : c k = 13
  · obtain ⟨_, k2, _, s2⟩ := r (by omega)
    obtain ⟨a1, _⟩ := s1 z
    obtain ⟨a2, _⟩ := s2 z
    rw [if_pos z] at h
    rw [hb (by omega)]
    refine br_t (by rw [z]; rfl) ⟨vp_in_nI a1 (by omega), vp_in_nI a2 (by omega), ?_⟩
    rw [nI_clamp (by omega), nI_clamp (by omega), hc _ a1, hc _ a2]
    by_cases q : s (c (k + 1)) = s (c (k + 2))
    · rw [if_pos q] at h; exact br_t q h
    · rw [if_neg q] at h; exact br_f q h
  rw [if_neg z] at h
  refine br_f (ne 13 (by omega) z) (yc_v o1 hs hc ?_)
  by_cases y : c k = 12
  · rw [if_pos y] at h
    refine br_t (by rw [y]; rfl) ?_
    by_cases q : vo_ ypr s (c (k + 1)) = 9000000000000000000
    · rw [if_pos q] at h; exact br_t q h
    · rw [if_neg q] at h; exact br_f q h
  rw [if_neg y] at h
  obtain ⟨_, k2, o2, _⟩ := r y
  rw [hb y]
  refine br_f (ne 12 (by omega) y) (yc_v o2 hs hc ?_)
  by_cases q : vo_ ypr s (c (k + 1)) = 9000000000000000000
  · rw [if_pos q] at h; exact br_t q h
  rw [if_neg q] at h
  refine br_f q ?_
  by_cases q2 : vo_ ypr s (c (k + 2)) = 9000000000000000000
  · rw [if_pos q2] at h; exact br_t q2 h
  rw [if_neg q2] at h
  refine br_f q2 ?_
  by_cases x : c k = 10
  · rw [if_neg (show ¬ c k = 11 by omega)] at h
    refine br_t (by rw [x]; rfl) ?_
    by_cases q3 : vo_ ypr s (c (k + 2)) ≤ vo_ ypr s (c (k + 1))
    · rw [if_pos q3] at h; exact br_t q3 h
    · rw [if_neg q3] at h; exact br_f q3 h
  · rw [if_pos (show c k = 11 by omega)] at h
    refine br_f (ne 10 (by omega) x) ?_
    by_cases q3 : vo_ ypr s (c (k + 1)) = vo_ ypr s (c (k + 2))
    · rw [if_pos q3] at h; exact br_t q3 h
    · rw [if_neg q3] at h; exact br_f q3 h
theorem yc_j {post : Int32 → Prop} {t a b : Nat} (ht : t = 14 ∨ t = 15) (ha : a ≤ 2) (hb : b ≤ 2) (h : post (yk (jn_ t a b))) : wpY_result post (ylv, ypc, yqc, ycc, yec, yde, yus, ywe, yfo, yli, yso, ysu, yla, ypr, yfr, yto, yty, ywt, pva, pwa, pam, pdi, plo, phi, ptk, pco, pex, yst, ypa, ysp, ypl, ycp, ybo, ytk, yno, ych, yfa) (nI t) (yk a) (yk b) := by
  have ha' : a < 3 := by omega
  have hb' : b < 3 := by omega
  rcases ht with rfl | rfl
  · refine br_t rfl (br_c (fun w1 => ?_) (fun w1 => br_c (fun w2 => ?_) (fun w2 => br_c (fun w3 => br_c (fun w4 => ?_) (fun w4 => ?_)) (fun w3 => ?_))))
    · rw [yk_a0 a ha' b hb' (Or.inl w1)] at h; exact h
    · rw [yk_a0 a ha' b hb' (Or.inr w2)] at h; exact h
    · rw [yk_a1 a ha' b hb' ⟨w3, w4⟩] at h; exact h
    · rw [yk_a2 a ha' b hb' ⟨w1, w2, fun q => w4 q.2⟩] at h; exact h
    · rw [yk_a2 a ha' b hb' ⟨w1, w2, fun q => w3 q.1⟩] at h; exact h
  · refine br_f (by decide) (br_t rfl (br_c (fun w1 => ?_) (fun w1 => br_c (fun w2 => ?_) (fun w2 => br_c (fun w3 => br_c (fun w4 => ?_) (fun w4 => ?_)) (fun w3 => ?_)))))
    · rw [yk_o1 a ha' b hb' (Or.inl w1)] at h; exact h
    · rw [yk_o1 a ha' b hb' (Or.inr w2)] at h; exact h
    · rw [yk_o0 a ha' b hb' ⟨w3, w4⟩] at h; exact h
    · rw [yk_o2 a ha' b hb' ⟨w1, w2, fun q => w4 q.2⟩] at h; exact h
    · rw [yk_o2 a ha' b hb' ⟨w1, w2, fun q => w3 q.1⟩] at h; exact h
theorem yc_n {post : Int32 → Prop} {a : Nat} {b : Int32} (ha : a ≤ 2) (h : post (yk (2 - a))) : wpY_result post (ylv, ypc, yqc, ycc, yec, yde, yus, ywe, yfo, yli, yso, ysu, yla, ypr, yfr, yto, yty, ywt, pva, pwa, pam, pdi, plo, phi, ptk, pco, pex, yst, ypa, ysp, ypl, ycp, ybo, ytk, yno, ych, yfa) (nI 16) (yk a) b := by
  have q := yk_not a (by omega)
  refine br_f (by decide) (br_f (by decide) (br_t rfl (br_c (fun w => ?_) (fun w => ?_))))
  · rw [q.1 w] at h; exact h
  · rw [q.2 w] at h; exact h
