/-! Y's truth: the loop -/
def st_T (pr : Nat → Int64) (s : Nat → Int32) (c cs os : Nat → Nat) (n : Nat) (yst : Nat → Int32) (i : Nat) : Prop :=
  (∀ l, l < cs i → yst l = yk (tk_ pr s c cs n i l)) ∧ ∀ m, m < os i → yst (cs i + os i - 1 - m) = nI (c (i + m))
theorem yk_1 : ∀ a, a < 3 → ¬ a = 2 → ¬ yk a = 1 := by decide +kernel
theorem st_op {pr : Nat → Int64} {s : Nat → Int32} {c cs os : Nat → Nat} {n k : Nat} {yst : Nat → Int32} (hk : k < n) (h : st_T pr s c cs os n yst (k + 1)) (ho : 0 < os k) (h1 : c k < 4 ∨ 1000 ≤ c k) (h2 : cs (k + 1) = cs k) (h3 : os (k + 1) = os k - 1) : st_T pr s c cs os n (upd yst (cs k + os k - 1) (nI (c k))) k := by
  refine ⟨fun l hl => ?_, fun m hm => ?_⟩
  · rw [pk_un (by omega), tk_op hk h1]
    exact h.1 l (by omega)
  · by_cases z : m = 0
    · subst z; exact pk_us
    · rw [pk_un (by omega)]
      have := h.2 (m - 1) (by omega)
      rw [h2, h3, show cs k + (os k - 1) - 1 - (m - 1) = cs k + os k - 1 - m from by omega, show k + 1 + (m - 1) = k + m from by omega] at this
      exact this
theorem st_re {pr : Nat → Int64} {s : Nat → Int32} {c cs os : Nat → Nat} {n k : Nat} {yst : Nat → Int32} (hk : k < n) (h : st_T pr s c cs os n yst (k + 1)) (ho : os k = 0) (hl : cs k - 1 ≤ cs (k + 1)) (hv : ∀ l, l ≠ cs k - 1 → tk_ pr s c cs n k l = tk_ pr s c cs n (k + 1) l) : st_T pr s c cs os n (upd yst (cs k - 1) (yk (tk_ pr s c cs n k (cs k - 1)))) k := by
  refine ⟨fun l hl => ?_, fun m hm => by omega⟩
  by_cases z : l = cs k - 1
  · rw [z, pk_us]
  · rw [pk_un z, hv l z]
    exact h.1 l (by omega)
variable {nT : Int32} {eT : Int32} {xlv : Int32} {xpc : Int32} {xqc : Int32} {xcc : Int32} {xec : Int32} {mc : Int32} {lw : Int32} {rc : Int32} {xla : Nat → Int32} {xpr : Nat → Int64} {xed : Nat → Int32} {sN : Nat → Int32} {sE : Nat → Int32} {sL : Nat → Int32} {sP : Nat → Int64} {sD : Nat → Int32} {pva : Nat → Int32} {pwa : Nat → Int32} {pam : Nat → Int32} {pdi : Nat → Int32} {plo : Nat → Int32} {phi : Nat → Int32} {ptk : Nat → Int32} {pco : Nat → Int32} {pex : Nat → Int32} {tr : Nat → Int32} {ds : Nat → Int32} {ch : Nat → Int32} {ar : Nat → Int32} {rN : Nat → Int32} {rM : Nat → Int32} {s1 : Nat → Int32} {s2 : Nat → Int32} {s3 : Nat → Int32} {s4 : Nat → Int32} {s5 : Nat → Int32}
variable {ylv : Int32} {ypc : Int32} {yqc : Int32} {ycc : Int32} {yec : Int32} {yde : Int32} {yus : Int32} {ywe : Int32} {yfo : Int32} {yli : Int32} {yso : Int32} {ysu : Int64} {yla : Nat → Int32} {ypr : Nat → Int64} {yfr : Nat → Int32} {yto : Nat → Int32} {yty : Nat → Int32} {ywt : Nat → Int32} {yst : Nat → Int32} {ypa : Nat → Int32} {ysp : Nat → Int32} {ypl : Nat → Int32} {ycp : Nat → Int32} {ybo : Nat → Int32} {ytk : Nat → Int32} {yno : Nat → Int32} {ych : Nat → Int32} {yfa : Nat → Int32}
theorem yc_l {post : Int32 → SY → Prop} {n : Nat} {c cs os : Nat → Nat} {nm nu : Nat → Prop} {s : Nat → Int32} (hn : n ≤ 12) (hco : ∀ k, k < n → pco k = nI (c k)) (hW : n = 0 ∨ cd_W c nm n cs os nu) (hs : sn_ nT nm s) (hc : ∀ v, v < 4 → yno v = s v)
    (h1 : cv_ ypr s c cs n = true → ∀ yst, post 1 (ylv, ypc, yqc, (nI n), yec, yde, yus, ywe, yfo, yli, yso, ysu, yla, ypr, yfr, yto, yty, ywt, pva, pwa, pam, pdi, plo, phi, ptk, pco, pex, yst, ypa, ysp, ypl, ycp, ybo, ytk, yno, ych, yfa)) (h0 : cv_ ypr s c cs n = false → ∀ yst r, ¬ r = 1 → post r (ylv, ypc, yqc, (nI n), yec, yde, yus, ywe, yfo, yli, yso, ysu, yla, ypr, yfr, yto, yty, ywt, pva, pwa, pam, pdi, plo, phi, ptk, pco, pex, yst, ypa, ysp, ypl, ycp, ybo, ytk, yno, ych, yfa)) : wpY_truth post (ylv, ypc, yqc, (nI n), yec, yde, yus, ywe, yfo, yli, yso, ysu, yla, ypr, yfr, yto, yty, ywt, pva, pwa, pam, pdi, plo, phi, ptk, pco, pex, yst, ypa, ysp, ypl, ycp, ybo, ytk, yno, ych, yfa) := by
  rcases Nat.eq_zero_or_pos n with z0 | z0
  · subst z0
    have e : cv_ ypr s c cs 0 = true := decide_eq_true (Or.inl rfl)
    exact nm_e ⟨1, br_t (by decide) (br_t rfl (h1 e yst))⟩
  have hW := hW.resolve_left (by omega)
  have K : ∀ i yst, i ≤ n → st_T ypr s c cs os n yst i → wY_truth_9 post ylv ypc yqc (nI n) yec yde yus ywe yfo yli yso ysu (i + 1) (nI (cs i + os i)) (nI i + (-1)) yla ypr yfr yto yty ywt pva pwa pam pdi plo phi ptk pco pex yst ypa ysp ypl ycp ybo ytk yno ych yfa := by
    intro i
    induction i with
    | zero =>
      intro yst hi ht
      have t0 := ht.1 0 (by rw [hW.1]; omega)
      have hle := tk_le ypr s c cs n 0 0
      refine br_t (by decide) (br_f (nI_ne0 z0 (by omega)) ?_)
      rw [t0]
      by_cases q : tk_ ypr s c cs n 0 0 = 2
      · rw [q]
        exact h1 (decide_eq_true (Or.inr q)) yst
      · exact h0 (decide_eq_false (by omega)) yst _ (yk_1 _ (by omega) q)
    | succ k ih =>
      intro yst hi ht
      have wb := cd_wb hW (n - (k + 1)) (k + 1) (by omega)
      have wb0 := cd_wb hW (n - k) k (by omega)
      obtain ⟨cl, co1, co2⟩ := cd_10 hW (k := k) (by omega)
      have ne : ∀ a, a < 100 → c k ≠ a → ¬ nI (c k) = nI a := fun a ha q e => q ((nI_eq (by omega) (by omega)).mp e)
      rw [pk_m1]
      refine br_f (nI_pos (by omega)) ⟨vp_in_nI (by omega) (by omega), nm_r (show _ = nI (c k) from by rw [nI_clamp (by omega), hco k (by omega)]) ?_⟩
      rcases Nat.eq_zero_or_pos (os k) with o | o
      · obtain ⟨t1, t2, w0, b1, b2⟩ := co2 o
        have fin : ∀ r : Int32, r = yk (tk_ ypr s c cs n k (cs k - 1)) → cs k - 1 ≤ cs (k + 1) → (∀ l, l ≠ cs k - 1 → tk_ ypr s c cs n k l = tk_ ypr s c cs n (k + 1) l) → (vp_in (nI (cs k - 1)) 30 ∧ ∀ a_stack_56 : Nat → Int32, a_stack_56 = upd yst (nI (cs k - 1)).toNatClampNeg r → ∀ x2_57 : Int32, x2_57 = nI k + (-1) → wY_truth_9 post ylv ypc yqc (nI n) yec yde yus ywe yfo yli yso ysu (k + 1) (nI (cs k)) x2_57 yla ypr yfr yto yty ywt pva pwa pam pdi plo phi ptk pco pex a_stack_56 ypa ysp ypl ycp ybo ytk yno ych yfa) := fun r hr hl hv => by
          refine ⟨vp_in_nI (by omega) (by omega), nm_r (tg_u (by omega)) (nm_e ?_)⟩
          rw [hr]
          have := ih _ (by omega) (st_re (by omega) ht o hl hv)
          rw [o, Nat.add_zero] at this
          exact this
        have pl : nI (cs k - 1) + 1 = nI (cs k) := by rw [nI_1]; exact congrArg nI (by omega)
        have hv0 : ∀ l, l ≠ cs k - 1 → tk_ ypr s c cs n k l = tk_ ypr s c cs n (k + 1) l := fun l hl => by rw [tk_e (k := k) (by omega), if_neg hl]
        refine br_f (nI_nlt (b := 10) t1 (by omega)) (br_t (nI_lt (b := 1000) (by omega) (by omega)) ?_)
        by_cases z : c k ≤ 13
        · obtain ⟨_, cw, k1, _, _, r1, r2⟩ := cd_op hW (by omega) o t1 z
          have vt : tk_ ypr s c cs n k (cs k - 1) = cm_ ypr s c k := by rw [tk_e (k := k) (by omega), if_pos rfl, if_neg (by omega), if_pos z]
          by_cases y : c k = 12
          · have o1 := r1 y
            have e0 : nI (cs (k + 1) + os (k + 1)) + (-1) = nI (cs k - 1) := by rw [o1, cw, pk_m1]
            have a0 := ht.2 0 (by omega)
            rw [o1, cw, show cs k - 1 + 1 - 1 - 0 = cs k - 1 from by omega, Nat.add_zero] at a0
            refine nm_r e0 ⟨vp_in_nI (by omega) (by omega), nm_r (show _ = nI (c (k + 1)) from by rw [nI_clamp (by omega), a0]) (br_t (by rw [y]; rfl) (nm_r pl (yc_r hW hs hc (by omega) o t1 z (fun q => absurd y q) (fin _ (by rw [vt]) (by omega) hv0))))⟩
          · obtain ⟨o1, k2, _⟩ := r2 y
            have e0 : nI (cs (k + 1) + os (k + 1)) + (-1) = nI (cs k) := by rw [o1, cw, show cs k - 1 + 2 = cs k + 1 from by omega, pk_m1]
            have e1 : nI (cs k) + (-1) = nI (cs k - 1) := by rw [show cs k = cs k - 1 + 1 from by omega, pk_m1]; rfl
            have a0 := ht.2 0 (by omega)
            have a1 := ht.2 1 (by omega)
            rw [o1, cw, show cs k - 1 + 2 - 1 - 0 = cs k from by omega, Nat.add_zero] at a0
            rw [o1, cw, show cs k - 1 + 2 - 1 - 1 = cs k - 1 from by omega, show k + 1 + 1 = k + 2 from rfl] at a1
            refine nm_r e0 ⟨vp_in_nI (by omega) (by omega), nm_r (show _ = nI (c (k + 1)) from by rw [nI_clamp (by omega), a0]) (br_f (ne 12 (by omega) y) (br_f (ne 16 (by omega) (by omega)) (nm_r e1 ⟨vp_in_nI (by omega) (by omega), nm_r pl (yc_r hW hs hc (by omega) o t1 z (fun _ => by rw [nI_clamp (by omega), a1]) (fin _ (by rw [vt]) (by omega) hv0))⟩)))⟩
        · by_cases y : c k = 16
          · obtain ⟨cw, o1⟩ := b2 y
            have vt : tk_ ypr s c cs n k (cs k - 1) = 2 - tk_ ypr s c cs n (k + 1) (cs k - 1) := by rw [tk_e (k := k) (by omega), if_pos rfl, if_neg (by omega), if_neg (by omega), if_neg (by omega), if_pos y]
            have e0 : nI (cs (k + 1) + os (k + 1)) + (-1) = nI (cs k - 1) := by rw [o1, cw, show cs k + 0 = cs k - 1 + 1 from by omega, pk_m1]
            have a0 := ht.1 (cs k - 1) (by omega)
            refine nm_r e0 ⟨vp_in_nI (by omega) (by omega), nm_r (show _ = yk (tk_ ypr s c cs n (k + 1) (cs k - 1)) from by rw [nI_clamp (by omega), a0]) (br_f (ne 12 (by omega) (by omega)) (br_t (by rw [y]; rfl) (nm_r pl ?_)))⟩
            rw [y]
            exact yc_n (tk_le _ _ _ _ _ _ _) (fin _ (by rw [vt]) (by omega) hv0)
          · obtain ⟨cw, o1⟩ := b1 (by omega) (by omega)
            have vt : tk_ ypr s c cs n k (cs k - 1) = jn_ (c k) (tk_ ypr s c cs n (k + 1) (cs k)) (tk_ ypr s c cs n (k + 1) (cs k - 1)) := by rw [tk_e (k := k) (by omega), if_pos rfl, if_neg (by omega), if_neg (by omega), if_pos (by omega)]
            have e0 : nI (cs (k + 1) + os (k + 1)) + (-1) = nI (cs k) := by rw [o1, cw, Nat.add_zero, pk_m1]
            have e1 : nI (cs k) + (-1) = nI (cs k - 1) := by rw [show cs k = cs k - 1 + 1 from by omega, pk_m1]; rfl
            have a0 := ht.1 (cs k) (by omega)
            have a1 := ht.1 (cs k - 1) (by omega)
            refine nm_r e0 ⟨vp_in_nI (by omega) (by omega), nm_r (show _ = yk (tk_ ypr s c cs n (k + 1) (cs k)) from by rw [nI_clamp (by omega), a0]) (br_f (ne 12 (by omega) (by omega)) (br_f (ne 16 (by omega) y) (nm_r e1 ⟨vp_in_nI (by omega) (by omega), nm_r pl ?_⟩)))⟩
            rw [nI_clamp (show cs k - 1 < 2 ^ 31 by omega), a1]
            have := fin _ (by rw [vt]) (by omega) hv0
            rw [nI_clamp (show cs k - 1 < 2 ^ 31 by omega)] at this
            exact yc_j (by omega) (tk_le _ _ _ _ _ _ _) (tk_le _ _ _ _ _ _ _) this
      · obtain ⟨t1, cw, o1⟩ := co1 o
        have go : wY_truth_33 post (wY_truth_9 post ylv ypc yqc (nI n) yec yde yus ywe yfo yli yso ysu (k + 1)) (nI (cs (k + 1) + os (k + 1))) (nI k) (nI (c k)) ylv ypc yqc (nI n) yec yde yus ywe yfo yli yso ysu yla ypr yfr yto yty ywt pva pwa pam pdi plo phi ptk pco pex yst ypa ysp ypl ycp ybo ytk yno ych yfa := by
          have e0 : nI (cs (k + 1) + os (k + 1)) + 1 = nI (cs k + os k) := by rw [cw, o1, nI_1]; exact congrArg nI (by omega)
          refine nm_r e0 ⟨vp_in_nI (by omega) (by omega), nm_r (tg_u (by omega)) (nm_e ?_)⟩
          rw [show cs (k + 1) + os (k + 1) = cs k + os k - 1 from by omega]
          exact ih _ (by omega) (st_op (by omega) ht o t1 cw o1)
        by_cases z : c k < 10
        · exact br_t (nI_lt (b := 10) z (by omega)) go
        · exact br_f (nI_nlt (b := 10) (by omega) (by omega)) (br_f (nI_nlt (b := 1000) (by omega) (by omega)) go)
  have K0 := K n yst (Nat.le_refl n) ⟨fun l hl => absurd hl (by rw [hW.2.2.1]; exact Nat.not_lt_zero l), fun m hm => absurd hm (by rw [hW.2.2.2.1]; exact Nat.not_lt_zero m)⟩
  rw [hW.2.2.1, hW.2.2.2.1] at K0
  exact nm_r (Int32.sub_eq_add_neg (nI n) 1) ⟨n + 1, K0⟩
