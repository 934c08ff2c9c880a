/-! Y's search: goOn -/
def hp_ (pr : Nat → Int64) (s : Nat → Int32) (v : Nat) : Bool := decide (¬ s v < 0) && decide (¬ pr (s v).toNatClampNeg = 9000000000000000000)
def yc_f : (Nat → Int32) → List ((Nat → Int32) × Int32) → Nat → Int32
  | ch, [] => ch
  | ch, x :: L => yc_f (upd ch (cde x.1) 1) L
def yo_f (pr : Nat → Int64) (v : Nat) : Int32 → List ((Nat → Int32) × Int32) → Int32
  | so, [] => so
  | so, x :: L => yo_f pr v (if hp_ pr x.1 v = true then 1 else so) L
def yu_f (pr : Nat → Int64) (v : Nat) : Int64 → List ((Nat → Int32) × Int32) → Int64
  | su, [] => su
  | su, x :: L => yu_f pr v (if hp_ pr x.1 v = true then su + pr (x.1 v).toNatClampNeg else su) L
theorem yc_app : ∀ (A : List ((Nat → Int32) × Int32)) ch B, yc_f ch (A ++ B) = yc_f (yc_f ch A) B
  | [], _, _ => rfl
  | _ :: A, _, B => yc_app A _ B
theorem yo_app (pr : Nat → Int64) (v : Nat) : ∀ (A : List ((Nat → Int32) × Int32)) so B, yo_f pr v so (A ++ B) = yo_f pr v (yo_f pr v so A) B
  | [], _, _ => rfl
  | _ :: A, _, B => yo_app pr v A _ B
theorem yu_app (pr : Nat → Int64) (v : Nat) : ∀ (A : List ((Nat → Int32) × Int32)) su B, yu_f pr v su (A ++ B) = yu_f pr v (yu_f pr v su A) B
  | [], _, _ => rfl
  | _ :: A, _, B => yu_app pr v A _ B
def cdi (s : Nat → Int32) : Nat → Nat
  | 0 => 0
  | i + 1 => cdi s i * 8 + zc (s i)
theorem cdi_4 (s : Nat → Int32) : cdi s 4 = cde s := by
  show (((0 * 8 + zc (s 0)) * 8 + zc (s 1)) * 8 + zc (s 2)) * 8 + zc (s 3) = _
  unfold cde
  omega
theorem cdi_l {s : Nat → Int32} (hs : s_ok s) : ∀ i, i ≤ 4 → cdi s i < 8 ^ i
  | 0, _ => Nat.zero_lt_one
  | i + 1, h => by
    have a := cdi_l hs i (by omega)
    have b := (zc_lt (hs i (by omega))).1
    show cdi s i * 8 + zc (s i) < 8 ^ i * 8
    omega
/-- the parts below k have nodes that are there -/
def bs_ (nT : Int32) (va s : Nat → Int32) (k : Nat) : Prop := ∀ j, j < k → ∃ m, m < 8 ∧ s (Vf va j) = nI m ∧ bt nT m = true
theorem bs_s {nT : Int32} {va s : Nat → Int32} {k m : Nat} (h : bs_ nT va s k) (hm : m < 8) (hb : bt nT m = true) : bs_ nT va (upd s (Vf va k) (nI m)) (k + 1) := fun j hj => by
  by_cases z : Vf va j = Vf va k
  · rw [z, pk_us]; exact ⟨m, hm, rfl, hb⟩
  · rw [pk_un z]
    by_cases y : j = k
    · subst y; exact absurd rfl z
    · exact h j (by omega)
variable {nT : Int32} {eT : Int32} {xlv : Int32} {xpc : Int32} {xqc : Int32} {xcc : Int32} {xec : Int32} {mc : Int32} {lw : Int32} {rc : Int32} {xla : Nat → Int32} {xpr : Nat → Int64} {xed : Nat → Int32} {sN : Nat → Int32} {sE : Nat → Int32} {sL : Nat → Int32} {sP : Nat → Int64} {sD : Nat → Int32} {pva : Nat → Int32} {pwa : Nat → Int32} {pam : Nat → Int32} {pdi : Nat → Int32} {plo : Nat → Int32} {phi : Nat → Int32} {ptk : Nat → Int32} {pco : Nat → Int32} {pex : Nat → Int32} {tr : Nat → Int32} {ds : Nat → Int32} {ch : Nat → Int32} {ar : Nat → Int32} {rN : Nat → Int32} {rM : Nat → Int32} {s1 : Nat → Int32} {s2 : Nat → Int32} {s3 : Nat → Int32} {s4 : Nat → Int32} {s5 : Nat → Int32}
variable {ylv : Int32} {ypc : Int32} {yqc : Int32} {ycc : Int32} {yec : Int32} {yde : Int32} {yus : Int32} {ywe : Int32} {yfo : Int32} {yli : Int32} {yso : Int32} {ysu : Int64} {yla : Nat → Int32} {ypr : Nat → Int64} {yfr : Nat → Int32} {yto : Nat → Int32} {yty : Nat → Int32} {ywt : Nat → Int32} {yst : Nat → Int32} {ypa : Nat → Int32} {ysp : Nat → Int32} {ypl : Nat → Int32} {ycp : Nat → Int32} {ybo : Nat → Int32} {ytk : Nat → Int32} {yno : Nat → Int32} {ych : Nat → Int32} {yfa : Nat → Int32}
theorem ym_lf {post : SY → Prop} {v w l : Nat} (hv : v < 4) (hs : s_ok yno) (hw : w < 2 ^ 31) (hl : l < 2 ^ 31) (h : post (ylv, ypc, yqc, ycc, yec, yde, yus, (nI w), yfo, (nI (mn_ w l)), (if hp_ ypr yno v = true then 1 else yso), (if hp_ ypr yno v = true then ysu + ypr (yno v).toNatClampNeg else ysu), yla, ypr, yfr, yto, yty, ywt, pva, pwa, pam, pdi, plo, phi, ptk, pco, pex, yst, ypa, ysp, ypl, ycp, ybo, ytk, yno, (upd ych (cde yno) 1), yfa)) : ∃ n, wY_goOn_55 post (nI v) ylv ypc yqc ycc yec yde yus (nI w) yfo (nI l) yso ysu yla ypr yfr yto yty ywt pva pwa pam pdi plo phi ptk pco pex yst ypa ysp ypl ycp ybo ytk yno ych yfa n 0 0 := by
  have wv : vp_in (nI v) 4 := vp_in_nI hv (by omega)
  have cv : (nI v).toNatClampNeg = v := nI_clamp (by omega)
  have K3 : ∀ (yli : Int32) (ych : Nat → Int32), post (ylv, ypc, yqc, ycc, yec, yde, yus, (nI w), yfo, yli, (if hp_ ypr yno v = true then 1 else yso), (if hp_ ypr yno v = true then ysu + ypr (yno v).toNatClampNeg else ysu), yla, ypr, yfr, yto, yty, ywt, pva, pwa, pam, pdi, plo, phi, ptk, pco, pex, yst, ypa, ysp, ypl, ycp, ybo, ytk, yno, ych, yfa) → wY_goOn_123 post (nI v) ylv ypc yqc ycc yec yde yus (nI w) yfo yli yso ysu yla ypr yfr yto yty ywt pva pwa pam pdi plo phi ptk pco pex yst ypa ysp ypl ycp ybo ytk yno ych yfa := by
    intro yli ych h
    refine ⟨wv, ?_⟩
    rw [cv]
    refine br_c (fun z => ?_) (fun z => ⟨wv, ?_⟩)
    · have e : hp_ ypr yno v = false := by unfold hp_; rw [decide_eq_false (fun q => q z)]; rfl
      rw [e, if_neg (by decide), if_neg (by decide)] at h
      exact h
    · obtain ⟨m, hm, em⟩ := (hs v hv).resolve_left (fun q => z (by rw [q]; decide))
      have wm : vp_in (yno v) 40 := by rw [em]; exact vp_in_nI (by omega) (by omega)
      refine ⟨wm, br_c (fun y => ?_) (fun y => ⟨wv, wm, nm_e ?_⟩)⟩
      · have e : hp_ ypr yno v = false := by
          have d : decide (¬ ypr (yno v).toNatClampNeg = 9000000000000000000) = false := decide_eq_false (fun q => q y)
          unfold hp_; rw [d]; exact Bool.and_false _
        rw [e, if_neg (by decide), if_neg (by decide)] at h
        exact h
      · have e : hp_ ypr yno v = true := by unfold hp_; rw [decide_eq_true z, decide_eq_true y]; rfl
        rw [e, if_pos rfl, if_pos rfl] at h
        exact h
  have K : ∀ d i, i + d = 4 → wY_goOn_55 post (nI v) ylv ypc yqc ycc yec yde yus (nI w) yfo (nI l) yso ysu yla ypr yfr yto yty ywt pva pwa pam pdi plo phi ptk pco pex yst ypa ysp ypl ycp ybo ytk yno ych yfa (d + 1) (nI (cdi yno i)) (nI i) := by
    intro d
    induction d with
    | zero =>
      intro i hi
      have e : i = 4 := by omega
      subst e
      have cl := cdi_l hs 4 (by omega)
      rw [show (8 : Nat) ^ 4 = 4096 from rfl] at cl
      rw [cdi_4] at cl ⊢
      refine br_t (nI_le (a := 4) (by omega) (by omega)) ⟨vp_in_nI cl (by omega), nm_r (show _ = upd ych (cde yno) 1 from by rw [nI_clamp (by omega)]; rfl) ?_⟩
      unfold mn_ at h
      by_cases z : w < l
      · rw [if_pos z] at h
        exact br_f (nI_ge z (by omega)) (K3 _ _ h)
      · rw [if_neg z] at h
        exact br_t (nI_le (by omega) (by omega)) (K3 _ _ h)
    | succ d ih =>
      intro i hi
      have cl := cdi_l hs i (by omega)
      have p8 : (8 : Nat) ^ i ≤ 8 ^ 4 := Nat.pow_le_pow_right (by omega) (by omega)
      rw [show (8 : Nat) ^ 4 = 4096 from rfl] at p8
      have wi : vp_in (nI i) 4 := vp_in_nI (by omega) (by omega)
      have e8 : nI (cdi yno i) * 8 = nI (cdi yno i * 8) := pk_mul _ 8
      refine br_f (nI_ge (b := 4) (by omega) (by decide)) ⟨wi, ?_⟩
      rw [nI_clamp (by omega), e8]
      have nx := ih (i + 1) (by omega)
      rcases hs i (by omega) with q | ⟨m, hm, q⟩
      · have ez : zc (yno i) = 0 := by rw [q]; exact if_pos (by decide)
        rw [q]
        refine br_f (by decide) (nm_r (show _ = nI (cdi yno (i + 1)) from ?_) (nm_r (nI_1 i) nx))
        show _ = nI (cdi yno i * 8 + zc (yno i))
        rw [ez]; exact Int32.add_zero _
      · have ez : zc (yno i) = m := by rw [q]; exact (if_neg (nI_pos (by omega))).trans (nI_clamp (by omega))
        rw [q]
        refine br_t (nI_pos' (by omega)) ⟨wi, nm_r (show _ = nI (cdi yno (i + 1)) from ?_) (nm_r (nI_1 i) nx)⟩
        show _ = nI (cdi yno i * 8 + zc (yno i))
        rw [ez, nI_add]
  exact ⟨5, K 4 0 (by omega)⟩
theorem ym_go {post : SY → Prop} {P n d D k m v fo w l : Nat} {c cs os : Nat → Nat} {nu : Nat → Prop} (hP : P ≤ 6) (hp : ∀ k, k < P → qu_P pva pwa pam pdi plo phi k) (hn : n ≤ 12) (hco : ∀ k, k < n → pco k = nI (c k)) (hW : n = 0 ∨ cd_W c (nm_P pva P) n cs os nu)
    (hd : d < 14) (hk : k < P) (f1 : ypa d = nI k) (hv : v < 4) (hs : s_ok yno) (hb : bs_ nT pva yno (k + 1)) (hw : w < 2 ^ 31) (hl : l < 2 ^ 31) (hD : k + 1 < P → D < 14)
    (he : k + 1 < P → post (ylv, (nI P), yqc, (nI n), yec, (nI (D + 1)), yus, (nI w), (nI fo), (nI l), yso, ysu, yla, ypr, yfr, yto, yty, ywt, pva, pwa, pam, pdi, plo, phi, ptk, pco, pex, yst, (upd ypa D (nI (k + 1))), (upd ysp D 0), (upd ypl D (nI m)), (upd ycp D 0), (upd ybo D (-1)), (upd ytk D (-1)), yno, ych, yfa))
    (hm : ¬ k + 1 < P → cv_ ypr yno c cs n = true → ∀ yst, post (ylv, (nI P), yqc, (nI n), yec, (nI D), yus, (nI w), (nI (fo + 1)), (nI (mn_ w l)), (if hp_ ypr yno v = true then 1 else yso), (if hp_ ypr yno v = true then ysu + ypr (yno v).toNatClampNeg else ysu), yla, ypr, yfr, yto, yty, ywt, pva, pwa, pam, pdi, plo, phi, ptk, pco, pex, yst, ypa, ysp, ypl, ycp, ybo, ytk, yno, (upd ych (cde yno) 1), yfa))
    (h0 : ¬ k + 1 < P → cv_ ypr yno c cs n = false → ∀ yst, post (ylv, (nI P), yqc, (nI n), yec, (nI D), yus, (nI w), (nI fo), (nI l), yso, ysu, yla, ypr, yfr, yto, yty, ywt, pva, pwa, pam, pdi, plo, phi, ptk, pco, pex, yst, ypa, ysp, ypl, ycp, ybo, ytk, yno, ych, yfa)) :
    wpY_goOn post (ylv, (nI P), yqc, (nI n), yec, (nI D), yus, (nI w), (nI fo), (nI l), yso, ysu, yla, ypr, yfr, yto, yty, ywt, pva, pwa, pam, pdi, plo, phi, ptk, pco, pex, yst, ypa, ysp, ypl, ycp, ybo, ytk, yno, ych, yfa) (nI d) (nI m) (nI v) := by
  have wd : vp_in (nI d) 14 := vp_in_nI hd (by omega)
  refine ⟨wd, ?_⟩
  rw [nI_clamp (show d < 2 ^ 31 by omega), f1, nI_1]
  by_cases z : k + 1 < P
  · exact br_f (nI_ge z (by omega)) ⟨wd, ym_en (hD z) (he z)⟩
  · have ek : k + 1 = P := by omega
    refine br_t (nI_le (by omega) (by omega)) (yc_l (nT := nT) (s := yno) hn hco hW (fun v' hv' hnm => ?_) (fun _ _ => rfl) (fun e yst => br_t rfl (nm_r (nI_1 fo) (ym_lf hv hs hw hl (hm z e yst)))) (fun e yst r hr => br_f hr (h0 z e yst)))
    obtain ⟨j, hj, e⟩ := hnm
    obtain ⟨b1, b2, _, _⟩ := q_f (hp j hj)
    have ev : Vf pva j = v' := (nI_eq (by omega) (by omega)).mp (b1.symm.trans e)
    obtain ⟨m', m1, m2, m3⟩ := hb j (by omega)
    rw [ev] at m2
    exact ⟨m', m1, m2, m3⟩
