/-! the state relation and the small methods -/
def tg_z (b : Bool) : Int32 := if b then 1 else 0
theorem tg_z1 : tg_z true = 1 := rfl
theorem tg_z0 : tg_z false = 0 := rfl
theorem tg_zn (b : Bool) : narrow .boolean (.int (tg_z b)) = .int (tg_z b) := by cases b <;> rfl
theorem tg_10 : ¬ (1 : Int32) = 0 := by decide
theorem tg_zbr {b : Bool} {A B : Prop} (f : b = false → A) (g : b = true → B) : (tg_z b = 0 → A) ∧ (¬ tg_z b = 0 → B) := by
  cases b
  · exact br_t rfl (f rfl)
  · exact br_f tg_10 (g rfl)
theorem tg_b1 (i : Nat) : bt 1 i = decide (i = 0) := by
  rcases Nat.lt_or_ge i 32 with h | h
  · exact (by decide +kernel : ∀ i, i < 32 → bt 1 i = decide (i = 0)) i h
  · rw [b_big h, decide_eq_false (by omega)]
theorem tg_bit (x : Int32) {n : Nat} (hn : n < 32) : ((x >>> (nI n &&& 31)) &&& 1) = 0 ↔ bt x n = false := by
  constructor
  · intro h
    have h1 := congrArg (fun z => bt z 0) h
    simp only [b_and, tg_b1, b_0] at h1
    rw [b_sshr n hn x (by omega)] at h1
    simpa [hn] using h1
  · intro h
    apply b_ext
    intro i hi
    rw [b_and, tg_b1, b_0]
    by_cases z : i = 0
    · subst z
      rw [b_sshr n hn x (by omega)]
      simp [hn, h]
    · simp [z]
theorem tg_isIn {post : Int32 → Prop} {x : Int32} {n : Nat} (hn : n < 32) (h : post (tg_z (bt x n))) : wpX_isIn post x (nI n) := by
  unfold wpX_isIn
  cases e : bt x n
  · rw [e] at h
    exact br_t ((tg_bit x hn).mpr e) h
  · rw [e] at h
    exact br_f (fun z => by rw [(tg_bit x hn).mp z] at e; exact absurd e (by decide)) h
theorem tg_sh {n i : Nat} (hn : n < 32) : bt ((1 : Int32) <<< (nI n &&& 31)) i = decide (i = n) := by
  rcases Nat.lt_or_ge i 32 with h | h
  · rw [b_shl n hn 1 h, tg_b1]
    by_cases e : i = n
    · subst e; simp
    · by_cases z : n ≤ i
      · simp [e, z]; omega
      · simp [e, z]
  · rw [b_big h, decide_eq_false (by omega)]
theorem tg_or (x : Int32) {n : Nat} (hn : n < 32) (i : Nat) : bt (x ||| ((1 : Int32) <<< (nI n &&& 31))) i = (bt x i || decide (i = n)) := by
  rw [b_or, tg_sh hn]
theorem tg_andn (x : Int32) {n : Nat} (hn : n < 32) (i : Nat) : bt (x &&& (((1 : Int32) <<< (nI n &&& 31)) ^^^ (-1))) i = (bt x i && !decide (i = n)) := by
  rcases Nat.lt_or_ge i 32 with h | h
  · rw [b_and, b_xor, tg_sh hn, b_m1 i h]
    simp
  · rw [b_big h, b_big h]; rfl
theorem tg_lf2 {post : Int32 → Prop} {x : Int32} {c : Nat} (hc : c ≤ 12) (h : ∀ j, j ≤ c → (∀ i, i < j → bt x i = true) → (j < c → bt x j = false) → post (nI j)) : ∀ d j, j + d = c → (∀ i, i < j → bt x i = true) → wX_leastFree_2 post x (nI c) (d + 1) (nI j) := by
  intro d
  induction d with
  | zero =>
    intro j hj hi
    exact br_t (nI_le (by omega) (by omega)) (h j (by omega) hi (by omega))
  | succ d ih =>
    intro j hj hi
    refine br_f (nI_ge (by omega) (by omega)) (tg_isIn (by omega) (tg_zbr (fun e => h j (by omega) hi (fun _ => e)) (fun e => nm_r (nI_1 j) (ih (j + 1) (by omega) (fun i hi' => ?_)))))
    by_cases z : i = j
    · subst z; exact e
    · exact hi i (by omega)
theorem tg_lf {post : Int32 → Prop} {x : Int32} (c : Nat) (hc : c ≤ 12) (h : ∀ j, j ≤ c → (∀ i, i < j → bt x i = true) → (j < c → bt x j = false) → post (nI j)) : wpX_leastFree post x (nI c) :=
  ⟨c + 1, tg_lf2 hc h c 0 (by omega) (fun i h => absurd h (Nat.not_lt_zero i))⟩
/-! one graph: X's masks and packed edges against Y's arrays -/
def gr_N (m : Int32) (la : Nat → Int32) (pr : Nat → Int64) (yla : Nat → Int32) (ypr : Nat → Int64) (n : Nat) : Prop :=
  (bt m n = true ∧ (∃ l, l < 16 ∧ la n = nI l ∧ yla n = nI l) ∧ ypr n = pr n) ∨ (bt m n = false ∧ yla n = -1)
def gr_E (m em : Int32) (ed yfr yto yty ywt : Nat → Int32) (e : Nat) : Prop :=
  (bt em e = true ∧ ∃ f t y w, f < 8 ∧ t < 8 ∧ y < 3 ∧ w ≤ 100 ∧ bt m f = true ∧ bt m t = true ∧ ed e = nI (f + 8 * t + 64 * y + 256 * w) ∧ yfr e = nI f ∧ yto e = nI t ∧ yty e = nI y ∧ ywt e = nI w) ∨ (bt em e = false ∧ yto e = -1)
def gr_R (m em : Int32) (la : Nat → Int32) (pr : Nat → Int64) (ed yla : Nat → Int32) (ypr : Nat → Int64) (yfr yto yty ywt : Nat → Int32) : Prop :=
  (∀ i, 8 ≤ i → bt m i = false) ∧ (∀ i, 12 ≤ i → bt em i = false) ∧ (∀ n, n < 8 → gr_N m la pr yla ypr n) ∧ (∀ e, e < 12 → gr_E m em ed yfr yto yty ywt e)
def gr_S (L : Nat) (sN sE sL : Nat → Int32) (sP : Nat → Int64) (sD yla : Nat → Int32) (ypr : Nat → Int64) (yfr yto yty ywt : Nat → Int32) : Prop :=
  ∀ b, b < L → gr_R (sN b) (sE b) (fun n => sL (b * 8 + n)) (fun n => sP (b * 8 + n)) (fun n => sD (b * 12 + n)) (fun n => yla (8 * (b + 1) + n)) (fun n => ypr (8 * (b + 1) + n)) (fun n => yfr (12 * (b + 1) + n)) (fun n => yto (12 * (b + 1) + n)) (fun n => yty (12 * (b + 1) + n)) (fun n => ywt (12 * (b + 1) + n))
theorem gr_cong {m em : Int32} {la la' : Nat → Int32} {pr pr' : Nat → Int64} {ed ed' yla yla' : Nat → Int32} {ypr ypr' : Nat → Int64} {yfr yfr' yto yto' yty yty' ywt ywt' : Nat → Int32} (h : gr_R m em la pr ed yla ypr yfr yto yty ywt)
    (h1 : ∀ n, n < 8 → la' n = la n ∧ pr' n = pr n ∧ yla' n = yla n ∧ ypr' n = ypr n) (h2 : ∀ e, e < 12 → ed' e = ed e ∧ yfr' e = yfr e ∧ yto' e = yto e ∧ yty' e = yty e ∧ ywt' e = ywt e) : gr_R m em la' pr' ed' yla' ypr' yfr' yto' yty' ywt' := by
  refine ⟨h.1, h.2.1, fun n hn => ?_, fun e he => ?_⟩
  · obtain ⟨a, b, c, d⟩ := h1 n hn
    unfold gr_N
    rw [a, b, c, d]
    exact h.2.2.1 n hn
  · obtain ⟨a, b, c, d, f⟩ := h2 e he
    unfold gr_E
    rw [a, b, c, d, f]
    exact h.2.2.2 e he
theorem gr_keep {L : Nat} {sN sE sL : Nat → Int32} {sP : Nat → Int64} {sD yla yla' : Nat → Int32} {ypr ypr' : Nat → Int64} {yfr yfr' yto yto' yty yty' ywt ywt' : Nat → Int32} (h : gr_S L sN sE sL sP sD yla ypr yfr yto yty ywt)
    (h1 : ∀ j, 8 ≤ j → yla' j = yla j ∧ ypr' j = ypr j) (h2 : ∀ j, 12 ≤ j → yfr' j = yfr j ∧ yto' j = yto j ∧ yty' j = yty j ∧ ywt' j = ywt j) : gr_S L sN sE sL sP sD yla' ypr' yfr' yto' yty' ywt' := fun b hb =>
  gr_cong (h b hb) (fun n _ => ⟨rfl, rfl, (h1 _ (by omega)).1, (h1 _ (by omega)).2⟩) (fun e _ => ⟨rfl, (h2 _ (by omega)).1, (h2 _ (by omega)).2.1, (h2 _ (by omega)).2.2.1, (h2 _ (by omega)).2.2.2⟩)
/-! the query -/
def qu_P (va wa am di lo hi : Nat → Int32) (k : Nat) : Prop :=
  ∃ v w t, v < 4 ∧ w < 16 ∧ t < 8 ∧ va k = nI v ∧ wa k = nI w ∧ am k = nI t ∧ (0 < t → 0 < k ∧ ∃ d l h, d < 3 ∧ 1 ≤ l ∧ l ≤ h ∧ h ≤ 3 ∧ di k = nI d ∧ lo k = nI l ∧ hi k = nI h)
def qu_H (am hi : Nat → Int32) : Nat → Nat
  | 0 => 0
  | k + 1 => qu_H am hi k + (if am k = 0 then 0 else (hi k).toNatClampNeg)
def qu_T (t : Nat) : Prop := t ≤ 5 ∨ (10 ≤ t ∧ t ≤ 16) ∨ (1000 ≤ t ∧ t ≤ 10999)
/-- what is wanted before token k of a condition: so many conditions, so many operands, and whether numbers may stand there -/
def cd_W (c : Nat → Nat) (nm : Nat → Prop) (n : Nat) (cs os : Nat → Nat) (nu : Nat → Prop) : Prop :=
  cs 0 = 1 ∧ os 0 = 0 ∧ cs n = 0 ∧ os n = 0 ∧ ∀ k, k < n →
    (0 < os k ∧ cs (k + 1) = cs k ∧ os (k + 1) = os k - 1 ∧ (nu (k + 1) ↔ nu k) ∧ ((c k < 4 ∧ nm (c k)) ∨ (nu k ∧ 1000 ≤ c k ∧ c k ≤ 10999))) ∨
    (os k = 0 ∧ 0 < cs k ∧ 14 ≤ c k ∧ c k ≤ 15 ∧ cs (k + 1) = cs k + 1 ∧ os (k + 1) = 0) ∨
    (os k = 0 ∧ 0 < cs k ∧ c k = 16 ∧ cs (k + 1) = cs k ∧ os (k + 1) = 0) ∨
    (os k = 0 ∧ 0 < cs k ∧ 10 ≤ c k ∧ c k ≤ 13 ∧ cs (k + 1) = cs k - 1 ∧ os (k + 1) = (if c k = 12 then 1 else 2) ∧ (nu (k + 1) ↔ c k ≠ 13))
/-- what is wanted before token k of an expression -/
def ep_W (c : Nat → Nat) (n : Nat) (ws : Nat → Nat) : Prop :=
  ws 0 = 1 ∧ ws n = 0 ∧ ∀ k, k < n → 0 < ws k ∧ ((c k ≤ 5 ∧ ws (k + 1) = ws k - 1) ∨ ((c k = 10 ∨ c k = 11) ∧ ws (k + 1) = ws k + 1) ∨ (12 ≤ c k ∧ c k ≤ 14 ∧ ws (k + 1) = ws k))
def rl_G (nT eT xlv : Int32) (xla : Nat → Int32) (xpr : Nat → Int64) (xed sN sE sL : Nat → Int32) (sP : Nat → Int64) (sD : Nat → Int32) (ylv : Int32) (yla : Nat → Int32) (ypr : Nat → Int64) (yfr yto yty ywt : Nat → Int32) : Prop :=
  gr_R nT eT xla xpr xed yla ypr yfr yto yty ywt ∧ ∃ L, L ≤ 4 ∧ xlv = nI L ∧ ylv = nI L ∧ gr_S L sN sE sL sP sD yla ypr yfr yto yty ywt
def rl_Q (xpc ypc : Int32) (va wa am di lo hi : Nat → Int32) : Prop :=
  ∃ P, P ≤ 6 ∧ xpc = nI P ∧ ypc = nI P ∧ (∀ k, k < P → qu_P va wa am di lo hi k) ∧ qu_H am hi P ≤ 5
def rl_T (xqc yqc : Int32) (tk : Nat → Int32) : Prop := ∃ n, n ≤ 12 ∧ xqc = nI n ∧ yqc = nI n ∧ ∀ k, k < n → ∃ t, qu_T t ∧ tk k = nI t
def rl_C (xcc ycc xpc : Int32) (va co : Nat → Int32) : Prop := ∃ n c, n ≤ 12 ∧ xcc = nI n ∧ ycc = nI n ∧ (∀ k, k < n → co k = nI (c k)) ∧ (n = 0 ∨ ∃ cs os nu, cd_W c (fun v => ∃ k P, k < P ∧ P ≤ 6 ∧ xpc = nI P ∧ va k = nI v) n cs os nu)
def rl_E (xec yec : Int32) (ex : Nat → Int32) : Prop := ∃ n c, n ≤ 10 ∧ xec = nI n ∧ yec = nI n ∧ (∀ k, k < n → ex k = nI (c k)) ∧ (n = 0 ∨ ∃ ws, ep_W c n ws)
def i_Rel (k : Nat) (u : SX) (v : SY) : Prop :=
  match u, v with
  | (nT, eT, xlv, xpc, xqc, xcc, xec, mc, lw, rc, xla, xpr, xed, sN, sE, sL, sP, sD, pva, pwa, pam, pdi, plo, phi, ptk, pco, pex, tr, ds, ch, ar, rN, rM, s1, s2, s3, s4, s5), (ylv, ypc, yqc, ycc, yec, _, _, _, _, _, _, _, yla, ypr, yfr, yto, yty, ywt, yva, ywa, yam, ydi, ylo, yhi, ytkn, yco, yex, _, _, _, _, _, _, _, _, _, _) =>
    (pva = yva ∧ pwa = ywa ∧ pam = yam ∧ pdi = ydi ∧ plo = ylo ∧ phi = yhi ∧ ptk = ytkn ∧ pco = yco ∧ pex = yex) ∧
    rl_G nT eT xlv xla xpr xed sN sE sL sP sD ylv yla ypr yfr yto yty ywt ∧ rl_Q xpc ypc pva pwa pam pdi plo phi ∧ rl_T xqc yqc ptk ∧ rl_C xcc ycc xpc pva pco ∧ rl_E xec yec pex
theorem i_up {k : Nat} {u : SX} {v : SY} (h : i_Rel k u v) : i_Rel (k + 7) u v := h
variable {nT : Int32} {eT : Int32} {xlv : Int32} {xpc : Int32} {xqc : Int32} {xcc : Int32} {xec : Int32} {mc : Int32} {lw : Int32} {rc : Int32} {xla : Nat → Int32} {xpr : Nat → Int64} {xed : Nat → Int32} {sN : Nat → Int32} {sE : Nat → Int32} {sL : Nat → Int32} {sP : Nat → Int64} {sD : Nat → Int32} {pva : Nat → Int32} {pwa : Nat → Int32} {pam : Nat → Int32} {pdi : Nat → Int32} {plo : Nat → Int32} {phi : Nat → Int32} {ptk : Nat → Int32} {pco : Nat → Int32} {pex : Nat → Int32} {tr : Nat → Int32} {ds : Nat → Int32} {ch : Nat → Int32} {ar : Nat → Int32} {rN : Nat → Int32} {rM : Nat → Int32} {s1 : Nat → Int32} {s2 : Nat → Int32} {s3 : Nat → Int32} {s4 : Nat → Int32} {s5 : Nat → Int32}
variable {ylv : Int32} {ypc : Int32} {yqc : Int32} {ycc : Int32} {yec : Int32} {yde : Int32} {yus : Int32} {ywe : Int32} {yfo : Int32} {yli : Int32} {yso : Int32} {ysu : Int64} {yla : Nat → Int32} {ypr : Nat → Int64} {yfr : Nat → Int32} {yto : Nat → Int32} {yty : Nat → Int32} {ywt : Nat → Int32} {yst : Nat → Int32} {ypa : Nat → Int32} {ysp : Nat → Int32} {ypl : Nat → Int32} {ycp : Nat → Int32} {ybo : Nat → Int32} {ytk : Nat → Int32} {yno : Nat → Int32} {ych : Nat → Int32} {yfa : Nat → Int32}
theorem rl_mk (k : Nat) (hG : rl_G nT eT xlv xla xpr xed sN sE sL sP sD ylv yla ypr yfr yto yty ywt) (hQ : rl_Q xpc ypc pva pwa pam pdi plo phi) (hT : rl_T xqc yqc ptk) (hC : rl_C xcc ycc xpc pva pco) (hE : rl_E xec yec pex) : i_Rel k (nT, eT, xlv, xpc, xqc, xcc, xec, mc, lw, rc, xla, xpr, xed, sN, sE, sL, sP, sD, pva, pwa, pam, pdi, plo, phi, ptk, pco, pex, tr, ds, ch, ar, rN, rM, s1, s2, s3, s4, s5) (ylv, ypc, yqc, ycc, yec, yde, yus, ywe, yfo, yli, yso, ysu, yla, ypr, yfr, yto, yty, ywt, pva, pwa, pam, pdi, plo, phi, ptk, pco, pex, yst, ypa, ysp, ypl, ycp, ybo, ytk, yno, ych, yfa) :=
  ⟨⟨rfl, rfl, rfl, rfl, rfl, rfl, rfl, rfl, rfl⟩, hG, hQ, hT, hC, hE⟩
theorem tg_nit {post : Int32 → Prop} {j : Nat} (hj : j < 8) (h : post (tg_z (bt nT j))) : wpX_nodeIsThere post (nT, eT, xlv, xpc, xqc, xcc, xec, mc, lw, rc, xla, xpr, xed, sN, sE, sL, sP, sD, pva, pwa, pam, pdi, plo, phi, ptk, pco, pex, tr, ds, ch, ar, rN, rM, s1, s2, s3, s4, s5) (nI j) :=
  br_f (nI_pos (by omega)) (br_f (nI_ge (b := 8) hj (by decide)) (tg_isIn (by omega) (tg_zbr (fun e => by rw [e] at h; exact h) (fun e => by rw [e] at h; exact h))))
theorem tg_nit0 {post : Int32 → Prop} {x : Int32} (hx : x < 0 ∨ nI 8 ≤ x) (h : post 0) : wpX_nodeIsThere post (nT, eT, xlv, xpc, xqc, xcc, xec, mc, lw, rc, xla, xpr, xed, sN, sE, sL, sP, sD, pva, pwa, pam, pdi, plo, phi, ptk, pco, pex, tr, ds, ch, ar, rN, rM, s1, s2, s3, s4, s5) x := by
  by_cases c : x < 0
  · exact br_t c h
  · exact br_f c (br_t (hx.resolve_left c) h)
theorem tg_yin {post : Int32 → Prop} {j : Nat} (hj : j < 8) (hR : gr_R nT eT xla xpr xed yla ypr yfr yto yty ywt) (h : post (tg_z (bt nT j))) : wpY_isNode post (ylv, ypc, yqc, ycc, yec, yde, yus, ywe, yfo, yli, yso, ysu, yla, ypr, yfr, yto, yty, ywt, pva, pwa, pam, pdi, plo, phi, ptk, pco, pex, yst, ypa, ysp, ypl, ycp, ybo, ytk, yno, ych, yfa) (nI j) := by
  have e : yla (nI j).toNatClampNeg = yla j := by rw [nI_clamp (by omega)]
  refine br_f (nI_pos (by omega)) (br_f (nI_ge (b := 8) hj (by decide)) ⟨vp_in_nI (by omega) (by omega), ?_⟩)
  rw [e]
  rcases hR.2.2.1 j hj with ⟨a, ⟨l, hl, _, b⟩, _⟩ | ⟨a, b⟩
  · rw [a] at h
    rw [b]
    exact br_f (nI_pos (by omega)) h
  · rw [a] at h
    rw [b]
    exact br_t (by decide) h
theorem tg_yin0 {post : Int32 → Prop} {x : Int32} (hx : x < 0 ∨ nI 8 ≤ x) (h : post 0) : wpY_isNode post (ylv, ypc, yqc, ycc, yec, yde, yus, ywe, yfo, yli, yso, ysu, yla, ypr, yfr, yto, yty, ywt, pva, pwa, pam, pdi, plo, phi, ptk, pco, pex, yst, ypa, ysp, ypl, ycp, ybo, ytk, yno, ych, yfa) x := by
  by_cases c : x < 0
  · exact br_t c h
  · exact br_f c (br_t (hx.resolve_left c) h)
theorem tg_yie {post : Int32 → Prop} {j : Nat} (hj : j < 12) (hR : gr_R nT eT xla xpr xed yla ypr yfr yto yty ywt) (h : post (tg_z (bt eT j))) : wpY_isEdge post (ylv, ypc, yqc, ycc, yec, yde, yus, ywe, yfo, yli, yso, ysu, yla, ypr, yfr, yto, yty, ywt, pva, pwa, pam, pdi, plo, phi, ptk, pco, pex, yst, ypa, ysp, ypl, ycp, ybo, ytk, yno, ych, yfa) (nI j) := by
  have e : yto (nI j).toNatClampNeg = yto j := by rw [nI_clamp (by omega)]
  refine br_f (nI_pos (by omega)) (br_f (nI_ge (b := 12) hj (by decide)) ⟨vp_in_nI (by omega) (by omega), ?_⟩)
  rw [e]
  rcases hR.2.2.2 j hj with ⟨a, f, t, y, w, _, ht, _, _, _, _, _, _, b, _⟩ | ⟨a, b⟩
  · rw [a] at h
    rw [b]
    exact br_f (nI_pos (by omega)) h
  · rw [a] at h
    rw [b]
    exact br_t (by decide) h
theorem tg_yie0 {post : Int32 → Prop} {x : Int32} (hx : x < 0 ∨ nI 12 ≤ x) (h : post 0) : wpY_isEdge post (ylv, ypc, yqc, ycc, yec, yde, yus, ywe, yfo, yli, yso, ysu, yla, ypr, yfr, yto, yty, ywt, pva, pwa, pam, pdi, plo, phi, ptk, pco, pex, yst, ypa, ysp, ypl, ycp, ybo, ytk, yno, ych, yfa) x := by
  by_cases c : x < 0
  · exact br_t c h
  · exact br_f c (br_t (hx.resolve_left c) h)
theorem tg_wi {post : Int32 → Prop} {x : Int32} (a b : Nat) (hb : b < 2 ^ 30) (ha : a ≤ b) (h0 : (x < nI a ∨ nI b < x) → post 0) (h1 : ∀ j, a ≤ j → j ≤ b → x = nI j → post 1) : wpY_within post x (nI a) (nI b) := by
  by_cases c : x < nI a
  · exact br_t c (h0 (Or.inl c))
  · by_cases d : nI b < x
    · exact br_f c (br_t d (h0 (Or.inr d)))
    · refine br_f c (br_f d ?_)
      rcases pk_ix x (n := b + 1) (by omega) with z | z | ⟨j, hj, rfl⟩
      · exact absurd (Int32.lt_of_lt_of_le z (nI_pos' (by omega))) c
      · exact absurd (Int32.lt_of_lt_of_le (nI_lt (Nat.lt_succ_self b) (by omega)) z) d
      · rw [nI_ltI (by omega) (by omega)] at c
        exact h1 j (by omega) (by omega) rfl
