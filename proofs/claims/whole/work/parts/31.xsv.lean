/-! survey -/
def sm_ (X : Nat → List Int32) : Nat → Nat
  | 0 => 0
  | c + 1 => sm_ X c + (X c).length
def rr_ (X : Nat → List Int32) : Nat → Nat
  | 0 => 0
  | c + 1 => rr_ X c + (if X c = [] then 0 else 1)
def ml_ (w : Int32 → Nat) (X : Nat → List Int32) : Nat → Nat
  | 0 => 1000000
  | c + 1 => lm_ w (ml_ w X c) (X c)
theorem sm_m (X : Nat → List Int32) (c : Nat) : ∀ d, sm_ X c ≤ sm_ X (c + d)
  | 0 => Nat.le_refl _
  | d + 1 => Nat.le_trans (sm_m X c d) (Nat.le_add_right _ _)
theorem rr_m (X : Nat → List Int32) (c : Nat) : ∀ d, rr_ X c ≤ rr_ X (c + d)
  | 0 => Nat.le_refl _
  | d + 1 => Nat.le_trans (rr_m X c d) (Nat.le_add_right _ _)
theorem rr_l (X : Nat → List Int32) : ∀ c, rr_ X c ≤ sm_ X c
  | 0 => Nat.le_refl 0
  | c + 1 => by
    have := rr_l X c
    show rr_ X c + (if X c = [] then 0 else 1) ≤ sm_ X c + (X c).length
    split
    · omega
    · next z =>
      have := List.length_pos_iff.mpr z
      omega
theorem ml_l (w : Int32 → Nat) (X : Nat → List Int32) : ∀ c, ml_ w X c ≤ 1000000
  | 0 => Nat.le_refl _
  | c + 1 => Nat.le_trans (lm_le w (X c) _) (ml_l w X c)
theorem rr_1 {X : Nat → List Int32} {c : Nat} (h : ¬ X c = []) : rr_ X (c + 1) = rr_ X c + 1 := by show rr_ X c + _ = _; rw [if_neg h]
theorem rr_lt {X : Nat → List Int32} {i c : Nat} (h : i < c) (hi : ¬ X i = []) : rr_ X i < rr_ X c := by
  have := rr_m X (i + 1) (c - (i + 1))
  rw [show i + 1 + (c - (i + 1)) = c from by omega] at this
  have e : rr_ X (i + 1) = rr_ X i + 1 := by show rr_ X i + _ = _; rw [if_neg hi]
  omega
def sv_ (w : Int32 → Nat) (X : Nat → List Int32) (c : Nat) (mc lw rc : Int32) (rN rM : Nat → Int32) : Prop :=
  (sm_ X c ≤ 1000 ∧ mc = nI (sm_ X c) ∧ lw = nI (ml_ w X c) ∧ rc = nI (rr_ X c) ∧ ∀ i, i < c → ¬ X i = [] → rN (rr_ X i) = nI (pkc i) ∧ rM (rr_ X i) = nI (X i).length) ∨ (1000 < sm_ X 4096 ∧ mc = nI 1001)
theorem sv_nil {w : Int32 → Nat} {X : Nat → List Int32} {c : Nat} {mc lw rc : Int32} {rN rM : Nat → Int32} (h : sv_ w X c mc lw rc rN rM) (hX : X c = []) : sv_ w X (c + 1) mc lw rc rN rM := by
  rcases h with ⟨a, b, d, e, f⟩ | q
  · have e1 : sm_ X (c + 1) = sm_ X c := by show sm_ X c + _ = _; rw [hX]; rfl
    have e2 : rr_ X (c + 1) = rr_ X c := by show rr_ X c + _ = _; rw [if_pos hX]; rfl
    have e3 : ml_ w X (c + 1) = ml_ w X c := by show lm_ w _ _ = _; rw [hX]; rfl
    refine Or.inl ⟨by rw [e1]; exact a, by rw [e1]; exact b, by rw [e3]; exact d, by rw [e2]; exact e, fun i hi hn => ?_⟩
    by_cases z : i = c
    · rw [z] at hn; exact absurd hX hn
    · exact f i (by omega) hn
  · exact Or.inr q
theorem sv_nils {w : Int32 → Nat} {X : Nat → List Int32} {c : Nat} {mc lw rc : Int32} {rN rM : Nat → Int32} (h : sv_ w X c mc lw rc rN rM) : ∀ d, (∀ i, c ≤ i → i < c + d → X i = []) → sv_ w X (c + d) mc lw rc rN rM
  | 0, _ => h
  | d + 1, hX => sv_nil (sv_nils h d (fun i h1 h2 => hX i h1 (by omega))) (hX (c + d) (by omega) (by omega))
theorem dgs {a b c d : Nat} (ha : a < 8) (hb : b < 8) (hc : c < 8) (hd : d < 8) : dg (a * 512 + b * 64 + c * 8 + d) 0 = a ∧ dg (a * 512 + b * 64 + c * 8 + d) 1 = b ∧ dg (a * 512 + b * 64 + c * 8 + d) 2 = c ∧ dg (a * 512 + b * 64 + c * 8 + d) 3 = d := by
  unfold dg
  rw [show (8 : Nat) ^ (3 - 0) = 512 from rfl, show (8 : Nat) ^ (3 - 1) = 64 from rfl, show (8 : Nat) ^ (3 - 2) = 8 from rfl, show (8 : Nat) ^ (3 - 3) = 1 from rfl]
  refine ⟨?_, ?_, ?_, ?_⟩ <;> omega
/-- X c is X's list of the matches with code c -/
def xl_ (P n : Nat) (nT eT : Int32) (xla pva pwa pam pdi plo phi yfr yto yty : Nat → Int32) (ypr : Nat → Int64) (c cs : Nat → Nat) (X : Nat → List Int32) : Prop :=
  ∀ cc, cc < 4096 → (pa_ nT xla pva pwa P cc → (cv_ ypr (fun v => nI (dg cc v)) c cs n = true → X cc = fl_ P (Vf pva) (Vf plo) (Vf phi) (fe_ eT yfr yto yty pam pdi) (nx_ pam P) (dg cc)) ∧ (cv_ ypr (fun v => nI (dg cc v)) c cs n = false → X cc = [])) ∧ (¬ pa_ nT xla pva pwa P cc → X cc = [])
variable {nT : Int32} {eT : Int32} {xlv : Int32} {xpc : Int32} {xqc : Int32} {xcc : Int32} {xec : Int32} {mc : Int32} {lw : Int32} {rc : Int32} {xla : Nat → Int32} {xpr : Nat → Int64} {xed : Nat → Int32} {sN : Nat → Int32} {sE : Nat → Int32} {sL : Nat → Int32} {sP : Nat → Int64} {sD : Nat → Int32} {pva : Nat → Int32} {pwa : Nat → Int32} {pam : Nat → Int32} {pdi : Nat → Int32} {plo : Nat → Int32} {phi : Nat → Int32} {ptk : Nat → Int32} {pco : Nat → Int32} {pex : Nat → Int32} {tr : Nat → Int32} {ds : Nat → Int32} {ch : Nat → Int32} {ar : Nat → Int32} {rN : Nat → Int32} {rM : Nat → Int32} {s1 : Nat → Int32} {s2 : Nat → Int32} {s3 : Nat → Int32} {s4 : Nat → Int32} {s5 : Nat → Int32}
variable {ylv : Int32} {ypc : Int32} {yqc : Int32} {ycc : Int32} {yec : Int32} {yde : Int32} {yus : Int32} {ywe : Int32} {yfo : Int32} {yli : Int32} {yso : Int32} {ysu : Int64} {yla : Nat → Int32} {ypr : Nat → Int64} {yfr : Nat → Int32} {yto : Nat → Int32} {yty : Nat → Int32} {ywt : Nat → Int32} {yst : Nat → Int32} {ypa : Nat → Int32} {ysp : Nat → Int32} {ypl : Nat → Int32} {ycp : Nat → Int32} {ybo : Nat → Int32} {ytk : Nat → Int32} {yno : Nat → Int32} {ych : Nat → Int32} {yfa : Nat → Int32}
theorem xs_d {post : SX → Prop} {J56 J78 J100 : _} {m1 m2 m3 m4 : Int32} {P n a b c0 : Nat} {c cs os : Nat → Nat} {nu : Nat → Prop} {X : Nat → List Int32} (hP : P ≤ 6) (hP0 : 0 < P) (hp : ∀ k, k < P → qu_P pva pwa pam pdi plo phi k) (h00 : pam 0 = 0) (hR : gr_R nT eT xla xpr xed yla ypr yfr yto yty ywt)
    (hn : n ≤ 12) (hco : ∀ k, k < n → pco k = nI (c k)) (hW : n = 0 ∨ cd_W c (nm_P pva P) n cs os nu) (har : ∀ k, k < P → ¬ pam k = 0 → ar_ pam plo phi (fe_ eT yfr yto yty pam pdi) ar k)
    (hX : xl_ P n nT eT xla pva pwa pam pdi plo phi yfr yto yty ypr c cs X) (h3 : ∀ i, i < 8 → (bt m4 i = true ↔ cn_ nT xla pva pwa P 3 i)) (ha : a < 8) (hb : b < 8) (hc0 : c0 < 8) (na : cn_ nT xla pva pwa P 0 a) (nb : cn_ nT xla pva pwa P 1 b) (nc : cn_ nT xla pva pwa P 2 c0)
    (hJ : ∀ mc lw rc (rN rM tr ch s1 s2 s3 s4 s5 : Nat → Int32), sv_ (ws_ ywt) X (a * 512 + b * 64 + c0 * 8 + 8) mc lw rc rN rM → J100 (nI (c0 + 1)) nT eT xlv (nI P) xqc (nI n) xec mc lw rc xla xpr xed sN sE sL sP sD pva pwa pam pdi plo phi ptk pco pex tr ds ch ar rN rM s1 s2 s3 s4 s5) :
    ∀ dd d mc lw rc (rN rM tr ch s1 s2 s3 s4 s5 : Nat → Int32), d + dd = 8 → sv_ (ws_ ywt) X (a * 512 + b * 64 + c0 * 8 + d) mc lw rc rN rM → wX_survey_122 post J56 J78 J100 m1 m2 m3 m4 (nI a) (nI b) (nI c0) (dd + 1) (nI d) nT eT xlv (nI P) xqc (nI n) xec mc lw rc xla xpr xed sN sE sL sP sD pva pwa pam pdi plo phi ptk pco pex tr ds ch ar rN rM s1 s2 s3 s4 s5 := by
  intro dd
  induction dd with
  | zero =>
    intro d mc lw rc rN rM tr ch s1 s2 s3 s4 s5 hd hs
    have z : d = 8 := by omega
    subst z
    exact br_t (nI_le (a := 8) (by omega) (by omega)) (nm_r (nI_1 c0) (hJ mc lw rc rN rM tr ch s1 s2 s3 s4 s5 hs))
  | succ dd ih =>
    intro d mc lw rc rN rM tr ch s1 s2 s3 s4 s5 hd hs
    obtain ⟨g0, g1, g2, g3⟩ := dgs ha hb hc0 (show d < 8 by omega)
    have hX' := hX (a * 512 + b * 64 + c0 * 8 + d) (by omega)
    have pi : cn_ nT xla pva pwa P 3 d → pa_ nT xla pva pwa P (a * 512 + b * 64 + c0 * 8 + d) := fun q v hv => by
      have : v = 0 ∨ v = 1 ∨ v = 2 ∨ v = 3 := by omega
      rcases this with rfl | rfl | rfl | rfl
      · rw [g0]; exact na
      · rw [g1]; exact nb
      · rw [g2]; exact nc
      · rw [g3]; exact q
    refine br_f (nI_ge (b := 8) (by omega) (by decide)) (tg_isIn (by omega) (tg_zbr (fun e => nm_r (nI_1 d) (ih (d + 1) _ _ _ _ _ _ _ _ _ _ _ _ (by omega) (sv_nil hs (hX'.2 (fun q => ?_))))) (fun e => ?_)))
    · have := q 3 (by omega)
      rw [g3] at this
      rw [(h3 d (by omega)).mpr this] at e
      exact absurd e (by decide)
    · have pc := pi ((h3 d (by omega)).mp e)
      obtain ⟨x1, x0⟩ := hX'.1 pc
      rcases hs with ⟨q1, rfl, rfl, rfl, q5⟩ | ⟨q1, rfl⟩
      · refine br_f (nI_nlt (b := sm_ X (a * 512 + b * 64 + c0 * 8 + d)) (a := 1000) q1 (by omega)) ?_
        have rl := rr_l X (a * 512 + b * 64 + c0 * 8 + d)
        have T := fun (post : SX → Prop) hx h0 h1 => xm_tn (post := post) (l := ml_ (ws_ ywt) X (a * 512 + b * 64 + c0 * 8 + d)) (R := rr_ X (a * 512 + b * 64 + c0 * 8 + d)) (nT := nT) (eT := eT) (xlv := xlv) (xqc := xqc) (xec := xec) (xla := xla) (xpr := xpr) (xed := xed) (sN := sN) (sE := sE) (sL := sL) (sP := sP) (sD := sD) (ptk := ptk) (pex := pex) (tr := tr) (ds := ds) (ch := ch) (rN := rN) (rM := rM) (s1 := s1) (s2 := s2) (s3 := s3) (s4 := s4) (s5 := s5) hP hP0 hp h00 hR hn hco hW har pc q1 (ml_l (ws_ ywt) X _) (by omega) x1 x0 hx h0 h1
        rw [g0, g1, g2, g3] at T
        refine T _ (fun q lw rc rN rM tr ch s1 s2 s3 s4 s5 => nm_r (nI_1 d) (ih (d + 1) _ _ _ _ _ _ _ _ _ _ _ _ (by omega) (Or.inr ⟨?_, rfl⟩))) (fun q tr ch s1 s2 s3 s4 s5 => nm_r (nI_1 d) (ih (d + 1) _ _ _ _ _ _ _ _ _ _ _ _ (by omega) (sv_nil (Or.inl ⟨q1, rfl, rfl, rfl, q5⟩) q))) (fun q q' tr ch s1 s2 s3 s4 s5 => nm_r (nI_1 d) (ih (d + 1) _ _ _ _ _ _ _ _ _ _ _ _ (by omega) (Or.inl ⟨q', rfl, rfl, ?_, fun i hi hne => ?_⟩)))
        · have := sm_m X (a * 512 + b * 64 + c0 * 8 + d + 1) (4096 - (a * 512 + b * 64 + c0 * 8 + d + 1))
          rw [show a * 512 + b * 64 + c0 * 8 + d + 1 + (4096 - (a * 512 + b * 64 + c0 * 8 + d + 1)) = 4096 from by omega] at this
          have e : sm_ X (a * 512 + b * 64 + c0 * 8 + d + 1) = sm_ X (a * 512 + b * 64 + c0 * 8 + d) + (X (a * 512 + b * 64 + c0 * 8 + d)).length := rfl
          omega
        · exact congrArg nI (rr_1 q).symm
        · by_cases z : i = a * 512 + b * 64 + c0 * 8 + d
          · rw [z]; exact ⟨pk_us, pk_us⟩
          · have := rr_lt (c := a * 512 + b * 64 + c0 * 8 + d) (by omega) hne
            rw [pk_un (by omega), pk_un (by omega)]
            exact q5 i (by omega) hne
      · exact br_t (by decide) (nm_r (nI_1 d) (ih (d + 1) _ _ _ _ _ _ _ _ _ _ _ _ (by omega) (Or.inr ⟨q1, rfl⟩)))
theorem xs_c {post : SX → Prop} {J56 J78 : _} {m1 m2 m3 m4 : Int32} {P n a b : Nat} {c cs os : Nat → Nat} {nu : Nat → Prop} {X : Nat → List Int32} (hP : P ≤ 6) (hP0 : 0 < P) (hp : ∀ k, k < P → qu_P pva pwa pam pdi plo phi k) (h00 : pam 0 = 0) (hR : gr_R nT eT xla xpr xed yla ypr yfr yto yty ywt)
    (hn : n ≤ 12) (hco : ∀ k, k < n → pco k = nI (c k)) (hW : n = 0 ∨ cd_W c (nm_P pva P) n cs os nu) (har : ∀ k, k < P → ¬ pam k = 0 → ar_ pam plo phi (fe_ eT yfr yto yty pam pdi) ar k)
    (hX : xl_ P n nT eT xla pva pwa pam pdi plo phi yfr yto yty ypr c cs X) (h2 : ∀ i, i < 8 → (bt m3 i = true ↔ cn_ nT xla pva pwa P 2 i)) (h3 : ∀ i, i < 8 → (bt m4 i = true ↔ cn_ nT xla pva pwa P 3 i)) (ha : a < 8) (hb : b < 8) (na : cn_ nT xla pva pwa P 0 a) (nb : cn_ nT xla pva pwa P 1 b)
    (hJ : ∀ mc lw rc (rN rM tr ch s1 s2 s3 s4 s5 : Nat → Int32), sv_ (ws_ ywt) X (a * 512 + b * 64 + 64) mc lw rc rN rM → J78 (nI (b + 1)) nT eT xlv (nI P) xqc (nI n) xec mc lw rc xla xpr xed sN sE sL sP sD pva pwa pam pdi plo phi ptk pco pex tr ds ch ar rN rM s1 s2 s3 s4 s5) :
    ∀ dd d mc lw rc (rN rM tr ch s1 s2 s3 s4 s5 : Nat → Int32), d + dd = 8 → sv_ (ws_ ywt) X (a * 512 + b * 64 + d * 8) mc lw rc rN rM → wX_survey_100 post J56 J78 m1 m2 m3 m4 (nI a) (nI b) (dd + 1) (nI d) nT eT xlv (nI P) xqc (nI n) xec mc lw rc xla xpr xed sN sE sL sP sD pva pwa pam pdi plo phi ptk pco pex tr ds ch ar rN rM s1 s2 s3 s4 s5 := by
  intro dd
  induction dd with
  | zero =>
    intro d mc lw rc rN rM tr ch s1 s2 s3 s4 s5 hd hs
    have z : d = 8 := by omega
    subst z
    exact br_t (nI_le (a := 8) (by omega) (by omega)) (nm_r (nI_1 b) (hJ mc lw rc rN rM tr ch s1 s2 s3 s4 s5 hs))
  | succ dd ih =>
    intro d mc lw rc rN rM tr ch s1 s2 s3 s4 s5 hd hs
    refine br_f (nI_ge (b := 8) (by omega) (by decide)) (tg_isIn (by omega) (tg_zbr (fun e => nm_r (nI_1 d) (ih (d + 1) _ _ _ _ _ _ _ _ _ _ _ _ (by omega) ?_)) (fun e => ⟨9, ?_⟩)))
    · have := sv_nils hs 8 (fun i i1 i2 => (hX i (by omega)).2 (fun q => by
        have q2 := q 2 (by omega)
        obtain ⟨_, _, g2, _⟩ := dgs ha hb (show d < 8 by omega) (show i - (a * 512 + b * 64 + d * 8) < 8 by omega)
        rw [show a * 512 + b * 64 + d * 8 + (i - (a * 512 + b * 64 + d * 8)) = i from by omega] at g2
        rw [g2] at q2
        rw [(h2 d (by omega)).mpr q2] at e
        exact absurd e (by decide)))
      rw [show a * 512 + b * 64 + (d + 1) * 8 = a * 512 + b * 64 + d * 8 + 8 from by omega]
      exact this
    · refine xs_d hP hP0 hp h00 hR hn hco hW har hX h3 ha hb (by omega) na nb ((h2 d (by omega)).mp e) (fun mc lw rc rN rM tr ch s1 s2 s3 s4 s5 hs' => ih (d + 1) mc lw rc rN rM tr ch s1 s2 s3 s4 s5 (by omega) ?_) 8 0 mc lw rc rN rM tr ch s1 s2 s3 s4 s5 (by omega) hs
      rw [show a * 512 + b * 64 + (d + 1) * 8 = a * 512 + b * 64 + d * 8 + 8 from by omega]
      exact hs'
theorem xs_b {post : SX → Prop} {J56 : _} {m1 m2 m3 m4 : Int32} {P n a : Nat} {c cs os : Nat → Nat} {nu : Nat → Prop} {X : Nat → List Int32} (hP : P ≤ 6) (hP0 : 0 < P) (hp : ∀ k, k < P → qu_P pva pwa pam pdi plo phi k) (h00 : pam 0 = 0) (hR : gr_R nT eT xla xpr xed yla ypr yfr yto yty ywt)
    (hn : n ≤ 12) (hco : ∀ k, k < n → pco k = nI (c k)) (hW : n = 0 ∨ cd_W c (nm_P pva P) n cs os nu) (har : ∀ k, k < P → ¬ pam k = 0 → ar_ pam plo phi (fe_ eT yfr yto yty pam pdi) ar k)
    (hX : xl_ P n nT eT xla pva pwa pam pdi plo phi yfr yto yty ypr c cs X) (h1 : ∀ i, i < 8 → (bt m2 i = true ↔ cn_ nT xla pva pwa P 1 i)) (h2 : ∀ i, i < 8 → (bt m3 i = true ↔ cn_ nT xla pva pwa P 2 i)) (h3 : ∀ i, i < 8 → (bt m4 i = true ↔ cn_ nT xla pva pwa P 3 i)) (ha : a < 8) (na : cn_ nT xla pva pwa P 0 a)
    (hJ : ∀ mc lw rc (rN rM tr ch s1 s2 s3 s4 s5 : Nat → Int32), sv_ (ws_ ywt) X (a * 512 + 512) mc lw rc rN rM → J56 (nI (a + 1)) nT eT xlv (nI P) xqc (nI n) xec mc lw rc xla xpr xed sN sE sL sP sD pva pwa pam pdi plo phi ptk pco pex tr ds ch ar rN rM s1 s2 s3 s4 s5) :
    ∀ dd d mc lw rc (rN rM tr ch s1 s2 s3 s4 s5 : Nat → Int32), d + dd = 8 → sv_ (ws_ ywt) X (a * 512 + d * 64) mc lw rc rN rM → wX_survey_78 post J56 m1 m2 m3 m4 (nI a) (dd + 1) (nI d) nT eT xlv (nI P) xqc (nI n) xec mc lw rc xla xpr xed sN sE sL sP sD pva pwa pam pdi plo phi ptk pco pex tr ds ch ar rN rM s1 s2 s3 s4 s5 := by
  intro dd
  induction dd with
  | zero =>
    intro d mc lw rc rN rM tr ch s1 s2 s3 s4 s5 hd hs
    have z : d = 8 := by omega
    subst z
    exact br_t (nI_le (a := 8) (by omega) (by omega)) (nm_r (nI_1 a) (hJ mc lw rc rN rM tr ch s1 s2 s3 s4 s5 hs))
  | succ dd ih =>
    intro d mc lw rc rN rM tr ch s1 s2 s3 s4 s5 hd hs
    refine br_f (nI_ge (b := 8) (by omega) (by decide)) (tg_isIn (by omega) (tg_zbr (fun e => nm_r (nI_1 d) (ih (d + 1) _ _ _ _ _ _ _ _ _ _ _ _ (by omega) ?_)) (fun e => ⟨9, ?_⟩)))
    · have := sv_nils hs 64 (fun i i1 i2 => (hX i (by omega)).2 (fun q => by
        have q2 := q 1 (by omega)
        obtain ⟨_, g2, _, _⟩ := dgs ha (show d < 8 by omega) (show (i - (a * 512 + d * 64)) / 8 < 8 by omega) (show (i - (a * 512 + d * 64)) % 8 < 8 by omega)
        rw [show a * 512 + d * 64 + (i - (a * 512 + d * 64)) / 8 * 8 + (i - (a * 512 + d * 64)) % 8 = i from by omega] at g2
        rw [g2] at q2
        rw [(h1 d (by omega)).mpr q2] at e
        exact absurd e (by decide)))
      rw [show a * 512 + (d + 1) * 64 = a * 512 + d * 64 + 64 from by omega]
      exact this
    · refine xs_c hP hP0 hp h00 hR hn hco hW har hX h2 h3 ha (by omega) na ((h1 d (by omega)).mp e) (fun mc lw rc rN rM tr ch s1 s2 s3 s4 s5 hs' => ih (d + 1) mc lw rc rN rM tr ch s1 s2 s3 s4 s5 (by omega) ?_) 8 0 mc lw rc rN rM tr ch s1 s2 s3 s4 s5 (by omega) hs
      rw [show a * 512 + (d + 1) * 64 = a * 512 + d * 64 + 64 from by omega]
      exact hs'
theorem xs_a {post : SX → Prop} {m1 m2 m3 m4 : Int32} {P n : Nat} {c cs os : Nat → Nat} {nu : Nat → Prop} {X : Nat → List Int32} (hP : P ≤ 6) (hP0 : 0 < P) (hp : ∀ k, k < P → qu_P pva pwa pam pdi plo phi k) (h00 : pam 0 = 0) (hR : gr_R nT eT xla xpr xed yla ypr yfr yto yty ywt)
    (hn : n ≤ 12) (hco : ∀ k, k < n → pco k = nI (c k)) (hW : n = 0 ∨ cd_W c (nm_P pva P) n cs os nu) (har : ∀ k, k < P → ¬ pam k = 0 → ar_ pam plo phi (fe_ eT yfr yto yty pam pdi) ar k)
    (hX : xl_ P n nT eT xla pva pwa pam pdi plo phi yfr yto yty ypr c cs X) (h0 : ∀ i, i < 8 → (bt m1 i = true ↔ cn_ nT xla pva pwa P 0 i)) (h1 : ∀ i, i < 8 → (bt m2 i = true ↔ cn_ nT xla pva pwa P 1 i)) (h2 : ∀ i, i < 8 → (bt m3 i = true ↔ cn_ nT xla pva pwa P 2 i)) (h3 : ∀ i, i < 8 → (bt m4 i = true ↔ cn_ nT xla pva pwa P 3 i))
    (hJ : ∀ mc lw rc (rN rM tr ch s1 s2 s3 s4 s5 : Nat → Int32), sv_ (ws_ ywt) X 4096 mc lw rc rN rM → post (nT, eT, xlv, (nI P), xqc, (nI n), xec, mc, lw, rc, xla, xpr, xed, sN, sE, sL, sP, sD, pva, pwa, pam, pdi, plo, phi, ptk, pco, pex, tr, ds, ch, ar, rN, rM, s1, s2, s3, s4, s5)) :
    ∀ dd d mc lw rc (rN rM tr ch s1 s2 s3 s4 s5 : Nat → Int32), d + dd = 8 → sv_ (ws_ ywt) X (d * 512) mc lw rc rN rM → wX_survey_56 post m1 m2 m3 m4 (dd + 1) (nI d) nT eT xlv (nI P) xqc (nI n) xec mc lw rc xla xpr xed sN sE sL sP sD pva pwa pam pdi plo phi ptk pco pex tr ds ch ar rN rM s1 s2 s3 s4 s5 := by
  intro dd
  induction dd with
  | zero =>
    intro d mc lw rc rN rM tr ch s1 s2 s3 s4 s5 hd hs
    have z : d = 8 := by omega
    subst z
    exact br_t (nI_le (a := 8) (by omega) (by omega)) (hJ mc lw rc rN rM tr ch s1 s2 s3 s4 s5 hs)
  | succ dd ih =>
    intro d mc lw rc rN rM tr ch s1 s2 s3 s4 s5 hd hs
    refine br_f (nI_ge (b := 8) (by omega) (by decide)) (tg_isIn (by omega) (tg_zbr (fun e => nm_r (nI_1 d) (ih (d + 1) _ _ _ _ _ _ _ _ _ _ _ _ (by omega) ?_)) (fun e => ⟨9, ?_⟩)))
    · have := sv_nils hs 512 (fun i i1 i2 => (hX i (by omega)).2 (fun q => by
        have q2 := q 0 (by omega)
        obtain ⟨g2, _, _, _⟩ := dgs (show d < 8 by omega) (show (i - d * 512) / 64 < 8 by omega) (show (i - d * 512) / 8 % 8 < 8 by omega) (show (i - d * 512) % 8 < 8 by omega)
        rw [show d * 512 + (i - d * 512) / 64 * 64 + (i - d * 512) / 8 % 8 * 8 + (i - d * 512) % 8 = i from by omega] at g2
        rw [g2] at q2
        rw [(h0 d (by omega)).mpr q2] at e
        exact absurd e (by decide)))
      rw [show (d + 1) * 512 = d * 512 + 512 from by omega]
      exact this
    · refine xs_b hP hP0 hp h00 hR hn hco hW har hX h1 h2 h3 (by omega) ((h0 d (by omega)).mp e) (fun mc lw rc rN rM tr ch s1 s2 s3 s4 s5 hs' => ih (d + 1) mc lw rc rN rM tr ch s1 s2 s3 s4 s5 (by omega) ?_) 8 0 mc lw rc rN rM tr ch s1 s2 s3 s4 s5 (by omega) hs
      rw [show (d + 1) * 512 = d * 512 + 512 from by omega]
      exact hs'
theorem xs_ {post : SX → Prop} {P n : Nat} {c cs os : Nat → Nat} {nu : Nat → Prop} {X : Nat → List Int32} (hP : P ≤ 6) (hp : ∀ k, k < P → qu_P pva pwa pam pdi plo phi k) (hR : gr_R nT eT xla xpr xed yla ypr yfr yto yty ywt)
    (hn : n ≤ 12) (hco : ∀ k, k < n → pco k = nI (c k)) (hW : n = 0 ∨ cd_W c (nm_P pva P) n cs os nu)
    (hX : 0 < P → xl_ P n nT eT xla pva pwa pam pdi plo phi yfr yto yty ypr c cs X) (hX0 : P = 0 → ∀ i, X i = [])
    (hJ : ∀ mc lw rc (rN rM tr ch ar s1 s2 s3 s4 s5 : Nat → Int32), sv_ (ws_ ywt) X 4096 mc lw rc rN rM → post (nT, eT, xlv, (nI P), xqc, (nI n), xec, mc, lw, rc, xla, xpr, xed, sN, sE, sL, sP, sD, pva, pwa, pam, pdi, plo, phi, ptk, pco, pex, tr, ds, ch, ar, rN, rM, s1, s2, s3, s4, s5)) : wpX_survey post (nT, eT, xlv, (nI P), xqc, (nI n), xec, mc, lw, rc, xla, xpr, xed, sN, sE, sL, sP, sD, pva, pwa, pam, pdi, plo, phi, ptk, pco, pex, tr, ds, ch, ar, rN, rM, s1, s2, s3, s4, s5) := by
  have s0 : sv_ (ws_ ywt) X 0 0 1000000 0 rN rM := Or.inl ⟨Nat.zero_le _, rfl, rfl, rfl, fun i hi => absurd hi (Nat.not_lt_zero i)⟩
  rcases Nat.eq_zero_or_pos P with z | z
  · subst z
    refine br_t rfl (hJ _ _ _ _ _ _ _ _ _ _ _ _ _ ?_)
    have := sv_nils s0 4096 (fun i _ _ => hX0 rfl i)
    rw [Nat.zero_add] at this
    exact this
  · have h00 : pam 0 = 0 := by
      obtain ⟨_, _, _, v⟩ := q_f (hp 0 z)
      by_cases q : pam 0 = 0
      · exact q
      · exact absurd (v q).1 (Nat.lt_irrefl 0)
    refine br_f (nI_ne0 z (by omega)) (xm_fa hP hp hR (fun ar har => xm_cd (v := 0) hP (by omega) hp (fun r0 e0 => xm_cd (v := 1) hP (by omega) hp (fun r1 e1 => xm_cd (v := 2) hP (by omega) hp (fun r2 e2 => xm_cd (v := 3) hP (by omega) hp (fun r3 e3 => ⟨9, ?_⟩))))))
    exact xs_a hP z hp h00 hR hn hco hW har (hX z) e0 e1 e2 e3 (fun mc lw rc rN rM tr ch s1 s2 s3 s4 s5 hs => hJ mc lw rc rN rM tr ch ar s1 s2 s3 s4 s5 hs) 8 0 0 1000000 0 rN rM tr ch s1 s2 s3 s4 s5 (by omega) s0
