/-! search -/
theorem s_m1 {yno : Nat → Int32} (h : ∀ v, v < 4 → yno v = -1) : s_ok yno := fun v hv => Or.inl (h v hv)
variable {nT : Int32} {eT : Int32} {xlv : Int32} {xpc : Int32} {xqc : Int32} {xcc : Int32} {xec : Int32} {mc : Int32} {lw : Int32} {rc : Int32} {xla : Nat → Int32} {xpr : Nat → Int64} {xed : Nat → Int32} {sN : Nat → Int32} {sE : Nat → Int32} {sL : Nat → Int32} {sP : Nat → Int64} {sD : Nat → Int32} {pva : Nat → Int32} {pwa : Nat → Int32} {pam : Nat → Int32} {pdi : Nat → Int32} {plo : Nat → Int32} {phi : Nat → Int32} {ptk : Nat → Int32} {pco : Nat → Int32} {pex : Nat → Int32} {tr : Nat → Int32} {ds : Nat → Int32} {ch : Nat → Int32} {ar : Nat → Int32} {rN : Nat → Int32} {rM : Nat → Int32} {s1 : Nat → Int32} {s2 : Nat → Int32} {s3 : Nat → Int32} {s4 : Nat → Int32} {s5 : Nat → Int32}
variable {ylv : Int32} {ypc : Int32} {yqc : Int32} {ycc : Int32} {yec : Int32} {yde : Int32} {yus : Int32} {ywe : Int32} {yfo : Int32} {yli : Int32} {yso : Int32} {ysu : Int64} {yla : Nat → Int32} {ypr : Nat → Int64} {yfr : Nat → Int32} {yto : Nat → Int32} {yty : Nat → Int32} {ywt : Nat → Int32} {yst : Nat → Int32} {ypa : Nat → Int32} {ysp : Nat → Int32} {ypl : Nat → Int32} {ycp : Nat → Int32} {ybo : Nat → Int32} {ytk : Nat → Int32} {yno : Nat → Int32} {ych : Nat → Int32} {yfa : Nat → Int32}
theorem ym_fr {post : SY → Prop} {P nn v T0 : Nat} {c cs os : Nat → Nat} {nu : Nat → Prop} (hP : P ≤ 6) (hp : ∀ k, k < P → qu_P pva pwa pam pdi plo phi k) (hR : gr_R nT eT xla xpr xed yla ypr yfr yto yty ywt) (hn : nn ≤ 12) (hco : ∀ k, k < nn → pco k = nI (c k)) (hW : nn = 0 ∨ cd_W c (nm_P pva P) nn cs os nu) (hv : v < 4)
    (hx : 1000 < T0 → ∀ yde yus ywe yli yso ysu (yst ypa ysp ypl ycp ybo ytk yno ych : Nat → Int32), post (ylv, (nI P), yqc, (nI nn), yec, yde, yus, ywe, (nI 1001), yli, yso, ysu, yla, ypr, yfr, yto, yty, ywt, pva, pwa, pam, pdi, plo, phi, ptk, pco, pex, yst, ypa, ysp, ypl, ycp, ybo, ytk, yno, ych, yfa)) :
    ∀ f d, d + (f + 1) = 14 → ∀ k n p s u, k < P → (¬ pam k = 0 → n ≤ Vf phi k ∧ p < 8) → (pam k = 0 → n = 0) → P + qu_H pam phi P ≤ k + qu_H pam phi k + n + (f + 1) → s_ok s → bs_ nT pva s k → us_ eT u →
      ∀ N0 N fo l yso ysu (yst ypa ysp ypl ycp ybo ytk ych : Nat → Int32), N0 + cy (f + 1) ≤ N → yf_ pam ypa ysp ypl ycp d k n p 0 → ybo d = -1 → ytk d = -1 → fo ≤ 1000 → l ≤ 1000000 → fo + (mt_Y P (Vf pva) (Vf plo) (Vf phi) (stp pam) (ok_ nT yla pwa) (al_ eT yfr yto yty pam pdi) (trp ypr c cs nn) (f + 1) k n p s u).length ≤ T0 →
      (∀ N' (yst a1 a2 a3 a4 a5 a6 : Nat → Int32), N0 ≤ N' → yg_ d ypa ysp ypl ycp ybo ytk a1 a2 a3 a4 a5 a6 → fo + (mt_Y P (Vf pva) (Vf plo) (Vf phi) (stp pam) (ok_ nT yla pwa) (al_ eT yfr yto yty pam pdi) (trp ypr c cs nn) (f + 1) k n p s u).length ≤ 1000 →
        wY_search_92 post (nI v) N' ylv (nI P) yqc (nI nn) yec (nI d) u (nI (ws_ ywt u)) (nI (fo + (mt_Y P (Vf pva) (Vf plo) (Vf phi) (stp pam) (ok_ nT yla pwa) (al_ eT yfr yto yty pam pdi) (trp ypr c cs nn) (f + 1) k n p s u).length)) (nI (lm_ (ws_ ywt) l ((mt_Y P (Vf pva) (Vf plo) (Vf phi) (stp pam) (ok_ nT yla pwa) (al_ eT yfr yto yty pam pdi) (trp ypr c cs nn) (f + 1) k n p s u).map Prod.snd))) (yo_f ypr v yso (mt_Y P (Vf pva) (Vf plo) (Vf phi) (stp pam) (ok_ nT yla pwa) (al_ eT yfr yto yty pam pdi) (trp ypr c cs nn) (f + 1) k n p s u)) (yu_f ypr v ysu (mt_Y P (Vf pva) (Vf plo) (Vf phi) (stp pam) (ok_ nT yla pwa) (al_ eT yfr yto yty pam pdi) (trp ypr c cs nn) (f + 1) k n p s u)) yla ypr yfr yto yty ywt pva pwa pam pdi plo phi ptk pco pex yst a1 a2 a3 a4 a5 a6 s (yc_f ych (mt_Y P (Vf pva) (Vf plo) (Vf phi) (stp pam) (ok_ nT yla pwa) (al_ eT yfr yto yty pam pdi) (trp ypr c cs nn) (f + 1) k n p s u)) yfa) →
      wY_search_92 post (nI v) N ylv (nI P) yqc (nI nn) yec (nI (d + 1)) u (nI (ws_ ywt u)) (nI fo) (nI l) yso ysu yla ypr yfr yto yty ywt pva pwa pam pdi plo phi ptk pco pex yst ypa ysp ypl ycp ybo ytk s ych yfa := by
  intro f
  induction f with
  | zero =>
    intro d hd k n p s u hk hh hz nd hs hb hu N0 N fo l yso ysu yst ypa ysp ypl ycp ybo ytk ych hN hf h5 h6 hfo hl hT hnx
    rw [mt_YW] at hT hnx
    refine ym_in hP hp hR hn hco hW hv hx hd (fun q => absurd q (by omega)) hk hh hz nd hs hb hu _ 0 N0 N fo l yso ysu u (nI (ws_ ywt u)) yst ypa ysp ypl ycp ybo ytk s ych (Nat.zero_add _) ?_ hf (Or.inl ⟨h5, rfl⟩) (Or.inl ⟨h6, rfl, rfl⟩) hfo hl hT hnx
    have e : cy (0 + 1) = 25 * (1 + cy 0) + 1 := rfl
    split
    · omega
    · omega
  | succ f ihf =>
    intro d hd k n p s u hk hh hz nd hs hb hu N0 N fo l yso ysu yst ypa ysp ypl ycp ybo ytk ych hN hf h5 h6 hfo hl hT hnx
    rw [mt_YW] at hT hnx
    refine ym_in hP hp hR hn hco hW hv hx hd (fun _ => ihf (d + 1) (by omega)) hk hh hz nd hs hb hu _ 0 N0 N fo l yso ysu u (nI (ws_ ywt u)) yst ypa ysp ypl ycp ybo ytk s ych (Nat.zero_add _) ?_ hf (Or.inl ⟨h5, rfl⟩) (Or.inl ⟨h6, rfl, rfl⟩) hfo hl hT hnx
    have e : cy (f + 1 + 1) = 25 * (1 + cy (f + 1)) + 1 := rfl
    have e8 : 8 * (1 + cy (f + 1)) ≤ 25 * (1 + cy (f + 1)) := Nat.mul_le_mul_right _ (by omega)
    split
    · omega
    · omega
/-- all that Y finds -/
def ly_ (P : Nat) (V Lo Hi : Nat → Nat) (st : Nat → Bool) (ok : Nat → Nat → Bool) (al : Nat → Nat → Nat → Option Nat) (tru : (Nat → Int32) → Bool) (s : Nat → Int32) : List ((Nat → Int32) × Int32) := if 0 < P then mt_Y P V Lo Hi st ok al tru 14 0 0 0 s 0 else []
theorem ys_ {post : SY → Prop} {P nn v : Nat} {c cs os : Nat → Nat} {nu : Nat → Prop} (hP : P ≤ 6) (hp : ∀ k, k < P → qu_P pva pwa pam pdi plo phi k) (hH : qu_H pam phi P ≤ 5) (hR : gr_R nT eT xla xpr xed yla ypr yfr yto yty ywt) (hn : nn ≤ 12) (hco : ∀ k, k < nn → pco k = nI (c k)) (hW : nn = 0 ∨ cd_W c (nm_P pva P) nn cs os nu) (hv : v < 4)
    (hx : ∀ s, (∀ v, v < 4 → s v = -1) → 1000 < (ly_ P (Vf pva) (Vf plo) (Vf phi) (stp pam) (ok_ nT yla pwa) (al_ eT yfr yto yty pam pdi) (trp ypr c cs nn) s).length → ∀ yde yus ywe yli yso ysu (yst ypa ysp ypl ycp ybo ytk yno ych : Nat → Int32), post (ylv, (nI P), yqc, (nI nn), yec, yde, yus, ywe, (nI 1001), yli, yso, ysu, yla, ypr, yfr, yto, yty, ywt, pva, pwa, pam, pdi, plo, phi, ptk, pco, pex, yst, ypa, ysp, ypl, ycp, ybo, ytk, yno, ych, yfa))
    (h : ∀ s, (∀ v, v < 4 → s v = -1) → (ly_ P (Vf pva) (Vf plo) (Vf phi) (stp pam) (ok_ nT yla pwa) (al_ eT yfr yto yty pam pdi) (trp ypr c cs nn) s).length ≤ 1000 → ∀ ch0, (∀ i, i < 4096 → ch0 i = 0) → ∀ yde yus ywe (yst ypa ysp ypl ycp ybo ytk yno : Nat → Int32), post (ylv, (nI P), yqc, (nI nn), yec, yde, yus, ywe, (nI (ly_ P (Vf pva) (Vf plo) (Vf phi) (stp pam) (ok_ nT yla pwa) (al_ eT yfr yto yty pam pdi) (trp ypr c cs nn) s).length), (nI (lm_ (ws_ ywt) 1000000 ((ly_ P (Vf pva) (Vf plo) (Vf phi) (stp pam) (ok_ nT yla pwa) (al_ eT yfr yto yty pam pdi) (trp ypr c cs nn) s).map Prod.snd))), (yo_f ypr v 0 (ly_ P (Vf pva) (Vf plo) (Vf phi) (stp pam) (ok_ nT yla pwa) (al_ eT yfr yto yty pam pdi) (trp ypr c cs nn) s)), (yu_f ypr v 0 (ly_ P (Vf pva) (Vf plo) (Vf phi) (stp pam) (ok_ nT yla pwa) (al_ eT yfr yto yty pam pdi) (trp ypr c cs nn) s)), yla, ypr, yfr, yto, yty, ywt, pva, pwa, pam, pdi, plo, phi, ptk, pco, pex, yst, ypa, ysp, ypl, ycp, ybo, ytk, yno, (yc_f ch0 (ly_ P (Vf pva) (Vf plo) (Vf phi) (stp pam) (ok_ nT yla pwa) (al_ eT yfr yto yty pam pdi) (trp ypr c cs nn) s)), yfa)) :
    wpY_search post (ylv, (nI P), yqc, (nI nn), yec, yde, yus, ywe, yfo, yli, yso, ysu, yla, ypr, yfr, yto, yty, ywt, pva, pwa, pam, pdi, plo, phi, ptk, pco, pex, yst, ypa, ysp, ypl, ycp, ybo, ytk, yno, ych, yfa) (nI v) := by
  have K3 : ∀ (yno ych : Nat → Int32), (∀ v, v < 4 → yno v = -1) → (∀ i, i < 4096 → ych i = 0) → ((nI P ≤ 0 → (∃ n92 : Nat, wY_search_92 post (nI v) n92 ylv (nI P) yqc (nI nn) yec 0 0 0 0 1000000 0 0 yla ypr yfr yto yty ywt pva pwa pam pdi plo phi ptk pco pex yst ypa ysp ypl ycp ybo ytk yno ych yfa)) ∧ (¬ nI P ≤ 0 → (wpY_enter (fun u => match u with | (ylv, ypc, yqc, ycc, yec, yde, yus, ywe, yfo, yli, yso, ysu, yla, ypr, yfr, yto, yty, ywt, pva, pwa, pam, pdi, plo, phi, ptk, pco, pex, yst, ypa, ysp, ypl, ycp, ybo, ytk, yno, ych, yfa) => (∃ n92 : Nat, wY_search_92 post (nI v) n92 ylv ypc yqc ycc yec yde yus ywe yfo yli yso ysu yla ypr yfr yto yty ywt pva pwa pam pdi plo phi ptk pco pex yst ypa ysp ypl ycp ybo ytk yno ych yfa)) (ylv, (nI P), yqc, (nI nn), yec, 0, 0, 0, 0, 1000000, 0, 0, yla, ypr, yfr, yto, yty, ywt, pva, pwa, pam, pdi, plo, phi, ptk, pco, pex, yst, ypa, ysp, ypl, ycp, ybo, ytk, yno, ych, yfa) 0 0 (-1)))) := by
    intro yno ych h1 h2
    rcases Nat.eq_zero_or_pos P with z | z
    · have hl := h yno h1 (by unfold ly_; rw [if_neg (by omega)]; exact Nat.zero_le _) ych h2
      unfold ly_ at hl
      rw [if_neg (by omega)] at hl
      exact br_t (by rw [z]; decide) ⟨1, br_t (by decide) (hl 0 0 0 yst ypa ysp ypl ycp ybo ytk yno)⟩
    · have hl := h yno h1
      have hx' := hx yno h1
      unfold ly_ at hl hx'
      rw [if_pos z] at hl hx'
      have h00 : pam 0 = 0 := by
        obtain ⟨_, _, _, v⟩ := q_f (hp 0 z)
        by_cases q : pam 0 = 0
        · exact q
        · exact absurd (v q).1 (Nat.lt_irrefl 0)
      refine br_f (nI_nle z (by omega)) (ym_en (d := 0) (by omega) ⟨1 + cy (13 + 1), ?_⟩)
      exact ym_fr hP hp hR hn hco hW hv hx' 13 0 rfl 0 0 0 yno 0 z (fun q => absurd h00 q) (fun _ => rfl) (by show P + qu_H pam phi P ≤ 0 + 0 + 0 + (13 + 1); omega) (s_m1 h1) (fun j hj => absurd hj (Nat.not_lt_zero j)) (us_0 eT) 1 _ 0 1000000 0 0 yst _ _ _ _ _ _ ych (Nat.le_refl _) ⟨pk_us, pk_us, fun q => absurd h00 q, pk_us⟩ pk_us pk_us (by omega) (by omega) (Nat.le_of_eq (Nat.zero_add _)) (fun N' yst a1 a2 a3 a4 a5 a6 g1 g2 g3 => by
        obtain ⟨M, rfl⟩ : ∃ M, N' = M + 1 := ⟨N' - 1, by omega⟩
        rw [Nat.zero_add] at g3 ⊢
        exact br_t (by decide) (hl g3 ych h2 _ _ _ yst a1 a2 a3 a4 a5 a6 yno))
  have K2 : ∀ (yno : Nat → Int32), (∀ v, v < 4 → yno v = -1) → ∀ d i (ych : Nat → Int32), i + d = 4096 → (∀ j, j < i → ych j = 0) → wY_search_22 post (nI v) ylv (nI P) yqc (nI nn) yec yde yus ywe yfo yli yso ysu (d + 1) (nI i) yla ypr yfr yto yty ywt pva pwa pam pdi plo phi ptk pco pex yst ypa ysp ypl ycp ybo ytk yno ych yfa := by
    intro yno h1 d
    induction d with
    | zero =>
      intro i ych hi h2
      exact br_t (nI_le (a := 4096) (by omega) (by omega)) (K3 yno ych h1 (fun j hj => h2 j (by omega)))
    | succ d ih =>
      intro i ych hi h2
      refine br_f (nI_ge (b := 4096) (by omega) (by decide)) ⟨vp_in_nI (by omega) (by omega), nm_r (show _ = upd ych i 0 from by rw [nI_clamp (by omega)]; rfl) (nm_r (nI_1 i) (ih (i + 1) _ (by omega) (fun j hj => ?_)))⟩
      by_cases z : j = i
      · rw [z, pk_us]
      · rw [pk_un z]; exact h2 j (by omega)
  have K1 : ∀ d i (yno : Nat → Int32), i + d = 4 → (∀ j, j < i → yno j = -1) → wY_search_2 post (nI v) ylv (nI P) yqc (nI nn) yec yde yus ywe yfo yli yso ysu (d + 1) (nI i) yla ypr yfr yto yty ywt pva pwa pam pdi plo phi ptk pco pex yst ypa ysp ypl ycp ybo ytk yno ych yfa := by
    intro d
    induction d with
    | zero =>
      intro i yno hi h1
      exact br_t (nI_le (a := 4) (by omega) (by omega)) ⟨4097, K2 yno (fun j hj => h1 j (by omega)) 4096 0 ych (by omega) (fun j hj => absurd hj (Nat.not_lt_zero j))⟩
    | succ d ih =>
      intro i yno hi h1
      refine br_f (nI_ge (b := 4) (by omega) (by decide)) ⟨vp_in_nI (by omega) (by omega), nm_r (tg_u (by omega)) (nm_r (nI_1 i) (ih (i + 1) _ (by omega) (fun j hj => ?_)))⟩
      by_cases z : j = i
      · rw [z, pk_us]
      · rw [pk_un z]; exact h1 j (by omega)
  exact ⟨5, K1 4 0 yno (by omega) (fun j hj => absurd hj (Nat.not_lt_zero j))⟩
