/-! the condition for chosen nodes: a pure stack of truths (0 false, 1 unknown, 2 true) -/
def vo_ (pr : Nat → Int64) (s : Nat → Int32) (t : Nat) : Int64 := if t < 4 then pr (s t).toNatClampNeg else (nI t - 1000).toInt64
def cm_ (pr : Nat → Int64) (s : Nat → Int32) (c : Nat → Nat) (i : Nat) : Nat :=
  if c i = 13 then (if s (c (i + 1)) = s (c (i + 2)) then 2 else 0)
  else if c i = 12 then (if vo_ pr s (c (i + 1)) = 9000000000000000000 then 2 else 0)
  else if vo_ pr s (c (i + 1)) = 9000000000000000000 then 1
  else if vo_ pr s (c (i + 2)) = 9000000000000000000 then 1
  else if c i = 11 then (if vo_ pr s (c (i + 1)) = vo_ pr s (c (i + 2)) then 2 else 0)
  else (if vo_ pr s (c (i + 2)) ≤ vo_ pr s (c (i + 1)) then 0 else 2)
def jn_ (t a b : Nat) : Nat := if t = 14 then (if b ≤ a then b else a) else (if b ≤ a then a else b)
def ts_ (pr : Nat → Int64) (s : Nat → Int32) (c cs : Nat → Nat) (n : Nat) : Nat → Nat → Nat
  | 0 => fun _ => 0
  | j + 1 => fun l =>
    if l = cs (n - 1 - j) - 1 then
      (if c (n - 1 - j) < 10 then ts_ pr s c cs n j l
      else if c (n - 1 - j) ≤ 13 then cm_ pr s c (n - 1 - j)
      else if c (n - 1 - j) ≤ 15 then jn_ (c (n - 1 - j)) (ts_ pr s c cs n j (cs (n - 1 - j))) (ts_ pr s c cs n j (cs (n - 1 - j) - 1))
      else if c (n - 1 - j) = 16 then 2 - ts_ pr s c cs n j (cs (n - 1 - j) - 1)
      else ts_ pr s c cs n j l)
    else ts_ pr s c cs n j l
def tk_ (pr : Nat → Int64) (s : Nat → Int32) (c cs : Nat → Nat) (n k : Nat) : Nat → Nat := ts_ pr s c cs n (n - k)
theorem tk_e {pr : Nat → Int64} {s : Nat → Int32} {c cs : Nat → Nat} {n k : Nat} (hk : k < n) (l : Nat) : tk_ pr s c cs n k l = if l = cs k - 1 then
      (if c k < 10 then tk_ pr s c cs n (k + 1) l
      else if c k ≤ 13 then cm_ pr s c k
      else if c k ≤ 15 then jn_ (c k) (tk_ pr s c cs n (k + 1) (cs k)) (tk_ pr s c cs n (k + 1) (cs k - 1))
      else if c k = 16 then 2 - tk_ pr s c cs n (k + 1) (cs k - 1)
      else tk_ pr s c cs n (k + 1) l)
    else tk_ pr s c cs n (k + 1) l := by
  unfold tk_
  obtain ⟨j, hj⟩ : ∃ j, n - k = j + 1 := ⟨n - k - 1, by omega⟩
  have e1 : n - 1 - j = k := by omega
  have e3 : n - (k + 1) = j := by omega
  rw [hj, e3]
  show (if l = cs (n - 1 - j) - 1 then _ else _) = _
  rw [e1]
theorem cm_2 (pr : Nat → Int64) (s : Nat → Int32) (c : Nat → Nat) (i : Nat) : cm_ pr s c i ≤ 2 := by
  unfold cm_
  repeat' split
  all_goals omega
theorem jn_2 {t a b : Nat} (ha : a ≤ 2) (hb : b ≤ 2) : jn_ t a b ≤ 2 := by
  unfold jn_
  repeat' split
  all_goals omega
theorem tk_2 (pr : Nat → Int64) (s : Nat → Int32) (c cs : Nat → Nat) (n : Nat) : ∀ j l, ts_ pr s c cs n j l ≤ 2
  | 0, _ => Nat.zero_le 2
  | j + 1, l => by
    have ih := tk_2 pr s c cs n j
    unfold ts_
    split
    · split
      · exact ih l
      · split
        · exact cm_2 pr s c _
        · split
          · exact jn_2 (ih _) (ih _)
          · split
            · omega
            · exact ih l
    · exact ih l
/-- operands behind a comparison -/
def op_ (nm : Nat → Prop) (t : Nat) : Prop := (t < 4 ∧ nm t) ∨ (1000 ≤ t ∧ t ≤ 10999)
theorem cd_op {c : Nat → Nat} {nm : Nat → Prop} {n : Nat} {cs os : Nat → Nat} {nu : Nat → Prop} (h : cd_W c nm n cs os nu) {k : Nat} (hk : k < n) (ho : os k = 0) (h1 : 10 ≤ c k) (h2 : c k ≤ 13) :
    0 < cs k ∧ cs (k + 1) = cs k - 1 ∧ k + 1 < n ∧ op_ nm (c (k + 1)) ∧ (c k = 13 → c (k + 1) < 4 ∧ nm (c (k + 1))) ∧ (c k = 12 → os (k + 1) = 1) ∧ (c k ≠ 12 → os (k + 1) = 2 ∧ k + 2 < n ∧ op_ nm (c (k + 2)) ∧ (c k = 13 → c (k + 2) < 4 ∧ nm (c (k + 2)))) := by
  have hn := h.2.2.2.1
  rcases h.2.2.2.2 k hk with ⟨a, _⟩ | ⟨_, _, a, _⟩ | ⟨_, _, a, _⟩ | ⟨_, z, _, _, w, o, v⟩
  · omega
  · omega
  · omega
  · have o1 : 0 < os (k + 1) := by rw [o]; split <;> omega
    have k1 : k + 1 < n := by
      rcases Nat.lt_or_ge (k + 1) n with q | q
      · exact q
      · have : k + 1 = n := by omega
        rw [this, hn] at o1
        omega
    rcases h.2.2.2.2 (k + 1) k1 with ⟨_, c1, b, d, f⟩ | ⟨a, _⟩ | ⟨a, _⟩ | ⟨a, _⟩
    · refine ⟨z, w, k1, f.imp id (fun q => q.2), fun e => ?_, fun e => by rw [o, if_pos e], fun e => ?_⟩
      · rcases f with f | f
        · exact f
        · exact absurd (v.mp f.1) (fun q => q e)
      · have o2 : os (k + 1) = 2 := by rw [o, if_neg e]
        have o3 : os (k + 2) = 1 := by
          have : os (k + 1 + 1) = os (k + 1) - 1 := b
          rw [o2] at this
          exact this
        have k2 : k + 2 < n := by
          rcases Nat.lt_or_ge (k + 2) n with q | q
          · exact q
          · have : k + 2 = n := by omega
            rw [this, hn] at o3
            omega
        rcases h.2.2.2.2 (k + 2) k2 with ⟨_, _, _, _, f2⟩ | ⟨a, _⟩ | ⟨a, _⟩ | ⟨a, _⟩
        · refine ⟨o2, k2, f2.imp id (fun q => q.2), fun e' => ?_⟩
          rcases f2 with f2 | f2
          · exact f2
          · have : nu (k + 1) := d.mp f2.1
            exact absurd (v.mp this) (fun q => q e')
        · omega
        · omega
        · omega
    · omega
    · omega
    · omega
theorem cd_wb {c : Nat → Nat} {nm : Nat → Prop} {n : Nat} {cs os : Nat → Nat} {nu : Nat → Prop} (h : cd_W c nm n cs os nu) : ∀ d i, i + d = n → cs i + os i ≤ d
  | 0, i, hi => by rw [show i = n from by omega, h.2.2.1, h.2.2.2.1]; exact Nat.le_refl 0
  | d + 1, i, hi => by
    have a := cd_wb h d (i + 1) (by omega)
    rcases h.2.2.2.2 i (by omega) with ⟨_, b, c, _⟩ | ⟨b, b', _, _, c, d⟩ | ⟨b, b', _, c, d⟩ | ⟨b, b', _, _, c, d, _⟩
    · omega
    · omega
    · omega
    · rw [d] at a
      split at a <;> omega
theorem cd_10 {c : Nat → Nat} {nm : Nat → Prop} {n : Nat} {cs os : Nat → Nat} {nu : Nat → Prop} (h : cd_W c nm n cs os nu) {k : Nat} (hk : k < n) : c k ≤ 10999 ∧ (0 < os k → (c k < 4 ∨ 1000 ≤ c k) ∧ cs (k + 1) = cs k ∧ os (k + 1) = os k - 1) ∧ (os k = 0 → 10 ≤ c k ∧ c k ≤ 16 ∧ 0 < cs k ∧ (14 ≤ c k → c k ≤ 15 → cs (k + 1) = cs k + 1 ∧ os (k + 1) = 0) ∧ (c k = 16 → cs (k + 1) = cs k ∧ os (k + 1) = 0)) := by
  rcases h.2.2.2.2 k hk with ⟨a, b, b', _, c⟩ | ⟨a, b, b1, b2, c, d⟩ | ⟨a, b, b1, c, d⟩ | ⟨a, b, b1, b2, c, d, _⟩
  · refine ⟨by omega, fun _ => ⟨by omega, b, b'⟩, fun q => by omega⟩
  · exact ⟨by omega, fun q => by omega, fun _ => ⟨by omega, by omega, b, fun _ _ => ⟨c, d⟩, fun q => by omega⟩⟩
  · exact ⟨by omega, fun q => by omega, fun _ => ⟨by omega, by omega, b, fun _ q => by omega, fun _ => ⟨c, d⟩⟩⟩
  · exact ⟨by omega, fun q => by omega, fun _ => ⟨by omega, by omega, b, fun q _ => by omega, fun q => by omega⟩⟩
/-- the named variables stand for nodes that are there -/
def sn_ (nT : Int32) (nm : Nat → Prop) (s : Nat → Int32) : Prop := ∀ v, v < 4 → nm v → ∃ m, m < 8 ∧ s v = nI m ∧ bt nT m = true
variable {nT : Int32} {eT : Int32} {xlv : Int32} {xpc : Int32} {xqc : Int32} {xcc : Int32} {xec : Int32} {mc : Int32} {lw : Int32} {rc : Int32} {xla : Nat → Int32} {xpr : Nat → Int64} {xed : Nat → Int32} {sN : Nat → Int32} {sE : Nat → Int32} {sL : Nat → Int32} {sP : Nat → Int64} {sD : Nat → Int32} {pva : Nat → Int32} {pwa : Nat → Int32} {pam : Nat → Int32} {pdi : Nat → Int32} {plo : Nat → Int32} {phi : Nat → Int32} {ptk : Nat → Int32} {pco : Nat → Int32} {pex : Nat → Int32} {tr : Nat → Int32} {ds : Nat → Int32} {ch : Nat → Int32} {ar : Nat → Int32} {rN : Nat → Int32} {rM : Nat → Int32} {s1 : Nat → Int32} {s2 : Nat → Int32} {s3 : Nat → Int32} {s4 : Nat → Int32} {s5 : Nat → Int32}
variable {ylv : Int32} {ypc : Int32} {yqc : Int32} {ycc : Int32} {yec : Int32} {yde : Int32} {yus : Int32} {ywe : Int32} {yfo : Int32} {yli : Int32} {yso : Int32} {ysu : Int64} {yla : Nat → Int32} {ypr : Nat → Int64} {yfr : Nat → Int32} {yto : Nat → Int32} {yty : Nat → Int32} {ywt : Nat → Int32} {yst : Nat → Int32} {ypa : Nat → Int32} {ysp : Nat → Int32} {ypl : Nat → Int32} {ycp : Nat → Int32} {ybo : Nat → Int32} {ytk : Nat → Int32} {yno : Nat → Int32} {ych : Nat → Int32} {yfa : Nat → Int32}
theorem xc_v {post : Int64 → Prop} {nm : Nat → Prop} {s : Nat → Int32} {t : Nat} (hR : gr_R nT eT xla xpr xed yla ypr yfr yto yty ywt) (ht : op_ nm t) (hs : sn_ nT nm s) (hc : ∀ v, v < 4 → ch v = s v) (h : post (vo_ ypr s t)) : wpX_valueOf post (nT, eT, xlv, xpc, xqc, xcc, xec, mc, lw, rc, xla, xpr, xed, sN, sE, sL, sP, sD, pva, pwa, pam, pdi, plo, phi, ptk, pco, pex, tr, ds, ch, ar, rN, rM, s1, s2, s3, s4, s5) (nI t) := by
  unfold vo_ at h
  rcases ht with ⟨h4, hn⟩ | ⟨h1, h2⟩
  · obtain ⟨m, hm, e, b⟩ := hs t h4 hn
    have ep : ypr m = xpr m := by
      rcases hR.2.2.1 m hm with ⟨_, _, q⟩ | ⟨q, _⟩
      · exact q
      · rw [q] at b; exact absurd b (by decide)
    rw [if_pos h4, e, nI_clamp (by omega), ep] at h
    refine br_f (nI_ge (b := 4) h4 (by omega)) ⟨vp_in_nI h4 (by omega), ?_⟩
    rw [nI_clamp (by omega), hc t h4, e]
    refine ⟨vp_in_nI hm (by omega), ?_⟩
    rw [nI_clamp (by omega)]
    exact h
  · rw [if_neg (by omega)] at h
    exact br_t (nI_le (a := 4) (by omega) (by omega)) h
theorem xc_c {post : Int32 → Prop} {n : Nat} {c cs os : Nat → Nat} {nm nu : Nat → Prop} {s : Nat → Int32} (hn : n ≤ 12) (hco : ∀ k, k < n → pco k = nI (c k)) (hR : gr_R nT eT xla xpr xed yla ypr yfr yto yty ywt) (hW : cd_W c nm n cs os nu) (hs : sn_ nT nm s) (hc : ∀ v, v < 4 → ch v = s v) {k : Nat} (hk : k < n) (ho : os k = 0) (h1 : 10 ≤ c k) (h2 : c k ≤ 13) (h : post (nI (cm_ ypr s c k))) : wpX_comparison post (nT, eT, xlv, xpc, xqc, xcc, xec, mc, lw, rc, xla, xpr, xed, sN, sE, sL, sP, sD, pva, pwa, pam, pdi, plo, phi, ptk, pco, pex, tr, ds, ch, ar, rN, rM, s1, s2, s3, s4, s5) (nI k) := by
  obtain ⟨_, _, k1, o1, s1, _, r⟩ := cd_op hW hk ho h1 h2
  have e1 : nI k + 1 = nI (k + 1) := nI_1 k
  have e2 : nI k + 2 = nI (k + 2) := nI_add k 2
  have ne : ∀ a, a < 100 → c k ≠ a → ¬ nI (c k) = nI a := fun a ha q e => q ((nI_eq (by omega) (by omega)).mp e)
  have wk : vp_in (nI k) 12 := vp_in_nI (by omega) (by omega)
  have w1 : vp_in (nI (k + 1)) 12 := vp_in_nI (by omega) (by omega)
  have d0 : pco (nI k).toNatClampNeg = nI (c k) := by rw [nI_clamp (by omega), hco k hk]
  have d1 : pco (nI (k + 1)).toNatClampNeg = nI (c (k + 1)) := by rw [nI_clamp (by omega), hco _ k1]
  unfold cm_ at h
  unfold wpX_comparison
  dsimp only
  rw [e1, e2, d0, d1]
  refine ⟨wk, ?_⟩
  by_cases z : c k = 13
  · obtain ⟨_, k2, _, s2⟩ := r (by omega)
    have d2 : pco (nI (k + 2)).toNatClampNeg = nI (c (k + 2)) := by rw [nI_clamp (by omega), hco _ k2]
    obtain ⟨a1, _⟩ := s1 z
    obtain ⟨a2, _⟩ := s2 z
    rw [if_pos z] at h
    rw [d2]
    refine br_t (by rw [z]; rfl) ⟨w1, vp_in_nI a1 (by omega), vp_in_nI (by omega) (by omega), vp_in_nI a2 (by omega), ?_⟩
    rw [nI_clamp (by omega), nI_clamp (by omega), hc _ a1, hc _ a2]
    by_cases q : s (c (k + 1)) = s (c (k + 2))
    · rw [if_pos q] at h; exact br_t q h
    · rw [if_neg q] at h; exact br_f q h
  rw [if_neg z] at h
  refine br_f (ne 13 (by omega) z) ⟨w1, xc_v hR o1 hs hc ⟨wk, ?_⟩⟩
  by_cases y : c k = 12
  · rw [if_pos y] at h
    refine br_t (by rw [y]; rfl) ?_
    by_cases q : vo_ ypr s (c (k + 1)) = 9000000000000000000
    · rw [if_pos q] at h; exact br_t q h
    · rw [if_neg q] at h; exact br_f q h
  rw [if_neg y] at h
  obtain ⟨_, k2, o2, _⟩ := r y
  have d2 : pco (nI (k + 2)).toNatClampNeg = nI (c (k + 2)) := by rw [nI_clamp (by omega), hco _ k2]
  rw [d2]
  refine br_f (ne 12 (by omega) y) ⟨vp_in_nI (by omega) (by omega), xc_v hR o2 hs hc ?_⟩
  by_cases q : vo_ ypr s (c (k + 1)) = 9000000000000000000
  · rw [if_pos q] at h; exact br_t q h
  rw [if_neg q] at h
  refine br_f q ?_
  by_cases q2 : vo_ ypr s (c (k + 2)) = 9000000000000000000
  · rw [if_pos q2] at h; exact br_t q2 h
  rw [if_neg q2] at h
  refine br_f q2 ⟨wk, ?_⟩
  by_cases x : c k = 11
  · rw [if_pos x] at h
    refine br_t (by rw [x]; rfl) ?_
    by_cases q3 : vo_ ypr s (c (k + 1)) = vo_ ypr s (c (k + 2))
    · rw [if_pos q3] at h; exact br_t q3 (br_f tg_10 h)
    · rw [if_neg q3] at h; exact br_f q3 (br_t rfl h)
  · rw [if_neg x] at h
    refine br_f (ne 11 (by omega) x) ?_
    by_cases q3 : vo_ ypr s (c (k + 2)) ≤ vo_ ypr s (c (k + 1))
    · rw [if_pos q3] at h; exact br_t q3 (br_t rfl h)
    · rw [if_neg q3] at h; exact br_f q3 (br_f tg_10 h)
