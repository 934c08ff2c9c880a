/-! Y's depth-first search -/
def stp (am : Nat → Int32) (k : Nat) : Bool := decide (am k = 0)
def trp (pr : Nat → Int64) (c cs : Nat → Nat) (n : Nat) (s : Nat → Int32) : Bool := cv_ pr s c cs n
def mt_W (P : Nat) (V Lo Hi : Nat → Nat) (st : Nat → Bool) (ok : Nat → Nat → Bool) (al : Nat → Nat → Nat → Option Nat) (tru : (Nat → Int32) → Bool) (f k n p : Nat) (s : Nat → Int32) (u : Int32) (c : Nat) : List ((Nat → Int32) × Int32) :=
  if st k = true then (if ok k c = true ∧ (s (V k) < 0 ∨ s (V k) = nI c) then (if k + 1 < P then mt_Y P V Lo Hi st ok al tru f (k + 1) 0 c (upd s (V k) (nI c)) u else if tru (upd s (V k) (nI c)) = true then [(upd s (V k) (nI c), u)] else []) else [])
  else if c = 0 then (if Lo k ≤ n ∧ ok k p = true ∧ (s (V k) < 0 ∨ s (V k) = nI p) then (if k + 1 < P then mt_Y P V Lo Hi st ok al tru f (k + 1) 0 p (upd s (V k) (nI p)) u else if tru (upd s (V k) (nI p)) = true then [(upd s (V k) (nI p), u)] else []) else [])
  else (if bt u ((c - 1) / 2) = true then [] else if n = Hi k then [] else om (al k (c - 1) p) (fun q => mt_Y P V Lo Hi st ok al tru f k (n + 1) q s (ub u ((c - 1) / 2))))
theorem fm_sh {α : Type} (g : Nat → List α) : ∀ m j, fm (fun c => g (c - 1)) m (j + 1) = fm g m j
  | 0, _ => rfl
  | m + 1, j => by
    show g (j + 1 - 1) ++ fm (fun c => g (c - 1)) m (j + 1 + 1) = g j ++ fm g m (j + 1)
    rw [fm_sh g m (j + 1), Nat.add_sub_cancel]
theorem mt_YW (P : Nat) (V Lo Hi : Nat → Nat) (st : Nat → Bool) (ok : Nat → Nat → Bool) (al : Nat → Nat → Nat → Option Nat) (tru : (Nat → Int32) → Bool) (f k n p : Nat) (s : Nat → Int32) (u : Int32) : mt_Y P V Lo Hi st ok al tru (f + 1) k n p s u = fm (mt_W P V Lo Hi st ok al tru f k n p s u) (if st k = true then 8 else 25) 0 := by
  unfold mt_Y
  by_cases z : st k = true
  · rw [if_pos z, if_pos z]
    exact fm_cong (fun i _ _ => by unfold mt_W; rw [if_pos z])
  · rw [if_neg z, if_neg z]
    show _ = mt_W P V Lo Hi st ok al tru f k n p s u 0 ++ fm (mt_W P V Lo Hi st ok al tru f k n p s u) 24 (0 + 1)
    rw [← fm_sh]
    congr 1
    · unfold mt_W; rw [if_neg z, if_pos rfl]
    · exact fm_cong (fun i i1 i2 => by
        have i0 : ¬ i = 0 := by omega
        unfold mt_W; rw [if_neg z, if_neg i0])
def cy : Nat → Nat
  | 0 => 0
  | f + 1 => 25 * (1 + cy f) + 1
def yf_ (am ypa ysp ypl ycp : Nat → Int32) (d k n p j : Nat) : Prop := ypa d = nI k ∧ ysp d = nI n ∧ (¬ am k = 0 → ypl d = nI p) ∧ ycp d = nI j
def yg_ (d : Nat) (a1 a2 a3 a4 a5 a6 b1 b2 b3 b4 b5 b6 : Nat → Int32) : Prop := ∀ i, i < d → b1 i = a1 i ∧ b2 i = a2 i ∧ b3 i = a3 i ∧ b4 i = a4 i ∧ b5 i = a5 i ∧ b6 i = a6 i
variable {nT : Int32} {eT : Int32} {xlv : Int32} {xpc : Int32} {xqc : Int32} {xcc : Int32} {xec : Int32} {mc : Int32} {lw : Int32} {rc : Int32} {xla : Nat → Int32} {xpr : Nat → Int64} {xed : Nat → Int32} {sN : Nat → Int32} {sE : Nat → Int32} {sL : Nat → Int32} {sP : Nat → Int64} {sD : Nat → Int32} {pva : Nat → Int32} {pwa : Nat → Int32} {pam : Nat → Int32} {pdi : Nat → Int32} {plo : Nat → Int32} {phi : Nat → Int32} {ptk : Nat → Int32} {pco : Nat → Int32} {pex : Nat → Int32} {tr : Nat → Int32} {ds : Nat → Int32} {ch : Nat → Int32} {ar : Nat → Int32} {rN : Nat → Int32} {rM : Nat → Int32} {s1 : Nat → Int32} {s2 : Nat → Int32} {s3 : Nat → Int32} {s4 : Nat → Int32} {s5 : Nat → Int32}
variable {ylv : Int32} {ypc : Int32} {yqc : Int32} {ycc : Int32} {yec : Int32} {yde : Int32} {yus : Int32} {ywe : Int32} {yfo : Int32} {yli : Int32} {yso : Int32} {ysu : Int64} {yla : Nat → Int32} {ypr : Nat → Int64} {yfr : Nat → Int32} {yto : Nat → Int32} {yty : Nat → Int32} {ywt : Nat → Int32} {yst : Nat → Int32} {ypa : Nat → Int32} {ysp : Nat → Int32} {ypl : Nat → Int32} {ycp : Nat → Int32} {ybo : Nat → Int32} {ytk : Nat → Int32} {yno : Nat → Int32} {ych : Nat → Int32} {yfa : Nat → Int32}
theorem ym_in {post : SY → Prop} {P nn v T0 : Nat} {c cs os : Nat → Nat} {nu : Nat → Prop} (hP : P ≤ 6) (hp : ∀ k, k < P → qu_P pva pwa pam pdi plo phi k) (hR : gr_R nT eT xla xpr xed yla ypr yfr yto yty ywt) (hn : nn ≤ 12) (hco : ∀ k, k < nn → pco k = nI (c k)) (hW : nn = 0 ∨ cd_W c (nm_P pva P) nn cs os nu) (hv : v < 4)
    (hx : 1000 < T0 → ∀ yde yus ywe yli yso ysu (yst ypa ysp ypl ycp ybo ytk yno ych : Nat → Int32), post (ylv, (nI P), yqc, (nI nn), yec, yde, yus, ywe, (nI 1001), yli, yso, ysu, yla, ypr, yfr, yto, yty, ywt, pva, pwa, pam, pdi, plo, phi, ptk, pco, pex, yst, ypa, ysp, ypl, ycp, ybo, ytk, yno, ych, yfa))
    {f d : Nat} (hd : d + (f + 1) = 14)
    (hch : 0 < f → ∀ k' n' p' s' u', k' < P → (¬ pam k' = 0 → n' ≤ Vf phi k' ∧ p' < 8) → (pam k' = 0 → n' = 0) → P + qu_H pam phi P ≤ k' + qu_H pam phi k' + n' + f → s_ok s' → bs_ nT pva s' k' → us_ eT u' →
      ∀ N0 N fo l yso ysu (yst ypa ysp ypl ycp ybo ytk ych : Nat → Int32), N0 + cy f ≤ N → yf_ pam ypa ysp ypl ycp (d + 1) k' n' p' 0 → ybo (d + 1) = -1 → ytk (d + 1) = -1 → fo ≤ 1000 → l ≤ 1000000 → fo + (mt_Y P (Vf pva) (Vf plo) (Vf phi) (stp pam) (ok_ nT yla pwa) (al_ eT yfr yto yty pam pdi) (trp ypr c cs nn) f k' n' p' s' u').length ≤ T0 →
      (∀ N' (yst a1 a2 a3 a4 a5 a6 : Nat → Int32), N0 ≤ N' → yg_ (d + 1) ypa ysp ypl ycp ybo ytk a1 a2 a3 a4 a5 a6 → fo + (mt_Y P (Vf pva) (Vf plo) (Vf phi) (stp pam) (ok_ nT yla pwa) (al_ eT yfr yto yty pam pdi) (trp ypr c cs nn) f k' n' p' s' u').length ≤ 1000 →
        wY_search_92 post (nI v) N' ylv (nI P) yqc (nI nn) yec (nI (d + 1)) u' (nI (ws_ ywt u')) (nI (fo + (mt_Y P (Vf pva) (Vf plo) (Vf phi) (stp pam) (ok_ nT yla pwa) (al_ eT yfr yto yty pam pdi) (trp ypr c cs nn) f k' n' p' s' u').length)) (nI (lm_ (ws_ ywt) l ((mt_Y P (Vf pva) (Vf plo) (Vf phi) (stp pam) (ok_ nT yla pwa) (al_ eT yfr yto yty pam pdi) (trp ypr c cs nn) f k' n' p' s' u').map Prod.snd))) (yo_f ypr v yso (mt_Y P (Vf pva) (Vf plo) (Vf phi) (stp pam) (ok_ nT yla pwa) (al_ eT yfr yto yty pam pdi) (trp ypr c cs nn) f k' n' p' s' u')) (yu_f ypr v ysu (mt_Y P (Vf pva) (Vf plo) (Vf phi) (stp pam) (ok_ nT yla pwa) (al_ eT yfr yto yty pam pdi) (trp ypr c cs nn) f k' n' p' s' u')) yla ypr yfr yto yty ywt pva pwa pam pdi plo phi ptk pco pex yst a1 a2 a3 a4 a5 a6 s' (yc_f ych (mt_Y P (Vf pva) (Vf plo) (Vf phi) (stp pam) (ok_ nT yla pwa) (al_ eT yfr yto yty pam pdi) (trp ypr c cs nn) f k' n' p' s' u')) yfa) →
      wY_search_92 post (nI v) N ylv (nI P) yqc (nI nn) yec (nI (d + 1 + 1)) u' (nI (ws_ ywt u')) (nI fo) (nI l) yso ysu yla ypr yfr yto yty ywt pva pwa pam pdi plo phi ptk pco pex yst ypa ysp ypl ycp ybo ytk s' ych yfa)
    {k n p : Nat} {s : Nat → Int32} {u : Int32} (hk : k < P) (hh : ¬ pam k = 0 → n ≤ Vf phi k ∧ p < 8) (hz : pam k = 0 → n = 0) (nd : P + qu_H pam phi P ≤ k + qu_H pam phi k + n + (f + 1)) (hs : s_ok s) (hb : bs_ nT pva s k) (hu : us_ eT u) :
    ∀ r j N0 N fo l yso ysu yus ywe (yst ypa ysp ypl ycp ybo ytk yno ych : Nat → Int32), j + r = (if stp pam k = true then 8 else 25) → N0 + r * (1 + cy f) + 1 ≤ N → yf_ pam ypa ysp ypl ycp d k n p j → db_ s yno (ybo d) → dt_ ywt eT u yus ywe (ytk d) → fo ≤ 1000 → l ≤ 1000000 → fo + (fm (mt_W P (Vf pva) (Vf plo) (Vf phi) (stp pam) (ok_ nT yla pwa) (al_ eT yfr yto yty pam pdi) (trp ypr c cs nn) f k n p s u) r j).length ≤ T0 →
    (∀ N' (yst a1 a2 a3 a4 a5 a6 : Nat → Int32), N0 ≤ N' → yg_ d ypa ysp ypl ycp ybo ytk a1 a2 a3 a4 a5 a6 → fo + (fm (mt_W P (Vf pva) (Vf plo) (Vf phi) (stp pam) (ok_ nT yla pwa) (al_ eT yfr yto yty pam pdi) (trp ypr c cs nn) f k n p s u) r j).length ≤ 1000 →
      wY_search_92 post (nI v) N' ylv (nI P) yqc (nI nn) yec (nI d) u (nI (ws_ ywt u)) (nI (fo + (fm (mt_W P (Vf pva) (Vf plo) (Vf phi) (stp pam) (ok_ nT yla pwa) (al_ eT yfr yto yty pam pdi) (trp ypr c cs nn) f k n p s u) r j).length)) (nI (lm_ (ws_ ywt) l ((fm (mt_W P (Vf pva) (Vf plo) (Vf phi) (stp pam) (ok_ nT yla pwa) (al_ eT yfr yto yty pam pdi) (trp ypr c cs nn) f k n p s u) r j).map Prod.snd))) (yo_f ypr v yso (fm (mt_W P (Vf pva) (Vf plo) (Vf phi) (stp pam) (ok_ nT yla pwa) (al_ eT yfr yto yty pam pdi) (trp ypr c cs nn) f k n p s u) r j)) (yu_f ypr v ysu (fm (mt_W P (Vf pva) (Vf plo) (Vf phi) (stp pam) (ok_ nT yla pwa) (al_ eT yfr yto yty pam pdi) (trp ypr c cs nn) f k n p s u) r j)) yla ypr yfr yto yty ywt pva pwa pam pdi plo phi ptk pco pex yst a1 a2 a3 a4 a5 a6 s (yc_f ych (fm (mt_W P (Vf pva) (Vf plo) (Vf phi) (stp pam) (ok_ nT yla pwa) (al_ eT yfr yto yty pam pdi) (trp ypr c cs nn) f k n p s u) r j)) yfa) →
    wY_search_92 post (nI v) N ylv (nI P) yqc (nI nn) yec (nI (d + 1)) yus ywe (nI fo) (nI l) yso ysu yla ypr yfr yto yty ywt pva pwa pam pdi plo phi ptk pco pex yst ypa ysp ypl ycp ybo ytk yno ych yfa := by
  have w : vp_in (nI d) 14 := vp_in_nI (by omega) (by omega)
  have cd : (nI d).toNatClampNeg = d := nI_clamp (by omega)
  have wk : vp_in (nI k) 6 := vp_in_nI (by omega) (by omega)
  have ck : (nI k).toNatClampNeg = k := nI_clamp (by omega)
  obtain ⟨vv1, vv2, _, vv3⟩ := q_f (hp k hk)
  have wle := wz_le hR hu 12 (by omega)
  have wlt : ws_ ywt u < 2 ^ 31 := by unfold ws_; omega
  have shp := sh_of hp
  have hsm := hs_m shp (P - (k + 1)) (k + 1) (by omega)
  rw [show k + 1 + (P - (k + 1)) = P from by omega] at hsm
  intro r
  induction r with
  | zero =>
    intro j N0 N fo l yso ysu yus ywe yst ypa ysp ypl ycp ybo ytk yno ych hj hN hf hdb hdt hfo hl hT hnx
    obtain ⟨f1, f2, f3, f4⟩ := hf
    obtain ⟨M, rfl⟩ : ∃ M, N = M + 1 := ⟨N - 1, by omega⟩
    refine br_f (nI_nle (by omega) (by omega)) (br_f (nI_nlt (b := fo) (a := 1000) hfo (by omega)) (nm_r (nI_pred d) (ym_tb hR (by omega) hdb hdt ⟨w, w, nm_r (show _ = upd ycp d (nI (j + 1)) from by rw [cd, f4, nI_1]) (nm_r (show _ = nI j from by rw [cd, f4]) ⟨w, ?_⟩)⟩)))
    rw [cd, f1, ck]
    have go : wY_search_92 post (nI v) M ylv (nI P) yqc (nI nn) yec (nI d) u (nI (ws_ ywt u)) (nI fo) (nI l) yso ysu yla ypr yfr yto yty ywt pva pwa pam pdi plo phi ptk pco pex yst ypa ysp ypl (upd ycp d (nI (j + 1))) (upd ybo d (-1)) (upd ytk d (-1)) s ych yfa :=
      hnx M yst ypa ysp ypl _ _ _ (by omega) (fun i hi => ⟨rfl, rfl, rfl, pk_un (by omega), pk_un (by omega), pk_un (by omega)⟩) hfo
    refine ⟨wk, br_c (fun z => ?_) (fun z => ?_)⟩
    · have e : stp pam k = true := decide_eq_true z
      rw [e, if_pos rfl] at hj
      exact br_f tg_10 (br_t (by rw [show j = 8 from by omega]; rfl) (nm_r (nI_pred d) go))
    · have e : stp pam k = false := decide_eq_false z
      rw [e, if_neg (by decide)] at hj
      exact br_t rfl (br_t (by rw [show j = 25 from by omega]; rfl) (nm_r (nI_pred d) go))
  | succ r ih =>
    intro j N0 N fo l yso ysu yus ywe yst ypa ysp ypl ycp ybo ytk yno ych hj hN hf hdb hdt hfo hl hT hnx
    obtain ⟨f1, f2, f3, f4⟩ := hf
    obtain ⟨M, rfl⟩ : ∃ M, N = M + 1 := ⟨N - 1, by omega⟩
    have hr : (r + 1) * (1 + cy f) = r * (1 + cy f) + (1 + cy f) := Nat.succ_mul _ _
    have eF : fm (mt_W P (Vf pva) (Vf plo) (Vf phi) (stp pam) (ok_ nT yla pwa) (al_ eT yfr yto yty pam pdi) (trp ypr c cs nn) f k n p s u) (r + 1) j = ((mt_W P (Vf pva) (Vf plo) (Vf phi) (stp pam) (ok_ nT yla pwa) (al_ eT yfr yto yty pam pdi) (trp ypr c cs nn) f k n p s u) j) ++ (fm (mt_W P (Vf pva) (Vf plo) (Vf phi) (stp pam) (ok_ nT yla pwa) (al_ eT yfr yto yty pam pdi) (trp ypr c cs nn) f k n p s u) r (j + 1)) := rfl
    rw [eF] at hnx hT
    rw [List.length_append] at hT
    have res : ∀ M' fo' l' so' su' yus ywe (yst a1 a2 a3 a4 a5 a6 yno ych' : Nat → Int32), N0 + r * (1 + cy f) + 1 ≤ M' → yf_ pam a1 a2 a3 a4 d k n p (j + 1) → db_ s yno (a5 d) → dt_ ywt eT u yus ywe (a6 d) → yg_ d ypa ysp ypl ycp ybo ytk a1 a2 a3 a4 a5 a6 → fo' = fo + ((mt_W P (Vf pva) (Vf plo) (Vf phi) (stp pam) (ok_ nT yla pwa) (al_ eT yfr yto yty pam pdi) (trp ypr c cs nn) f k n p s u) j).length → l' = lm_ (ws_ ywt) l (((mt_W P (Vf pva) (Vf plo) (Vf phi) (stp pam) (ok_ nT yla pwa) (al_ eT yfr yto yty pam pdi) (trp ypr c cs nn) f k n p s u) j).map Prod.snd) → so' = yo_f ypr v yso ((mt_W P (Vf pva) (Vf plo) (Vf phi) (stp pam) (ok_ nT yla pwa) (al_ eT yfr yto yty pam pdi) (trp ypr c cs nn) f k n p s u) j) → su' = yu_f ypr v ysu ((mt_W P (Vf pva) (Vf plo) (Vf phi) (stp pam) (ok_ nT yla pwa) (al_ eT yfr yto yty pam pdi) (trp ypr c cs nn) f k n p s u) j) → ych' = yc_f ych ((mt_W P (Vf pva) (Vf plo) (Vf phi) (stp pam) (ok_ nT yla pwa) (al_ eT yfr yto yty pam pdi) (trp ypr c cs nn) f k n p s u) j) → fo' ≤ 1001 →
        wY_search_92 post (nI v) M' ylv (nI P) yqc (nI nn) yec (nI (d + 1)) yus ywe (nI fo') (nI l') so' su' yla ypr yfr yto yty ywt pva pwa pam pdi plo phi ptk pco pex yst a1 a2 a3 a4 a5 a6 yno ych' yfa := by
      intro M' fo' l' so' su' yus ywe yst a1 a2 a3 a4 a5 a6 yno ych' h1 h2 h3 h4 h5 h6 h7 h8 h9 h10 h11
      by_cases z : fo' ≤ 1000
      · have ll := lm_le (ws_ ywt) (((mt_W P (Vf pva) (Vf plo) (Vf phi) (stp pam) (ok_ nT yla pwa) (al_ eT yfr yto yty pam pdi) (trp ypr c cs nn) f k n p s u) j).map Prod.snd) l
        refine ih (j + 1) N0 M' fo' l' so' su' yus ywe yst a1 a2 a3 a4 a5 a6 yno ych' (by omega) h1 h2 h3 h4 z (by omega) (by omega) (fun N' yst b1 b2 b3 b4 b5 b6 g1 g2 g3 => ?_)
        have := hnx N' yst b1 b2 b3 b4 b5 b6 g1 (fun i hi => ⟨(g2 i hi).1.trans (h5 i hi).1, (g2 i hi).2.1.trans (h5 i hi).2.1, (g2 i hi).2.2.1.trans (h5 i hi).2.2.1, (g2 i hi).2.2.2.1.trans (h5 i hi).2.2.2.1, (g2 i hi).2.2.2.2.1.trans (h5 i hi).2.2.2.2.1, (g2 i hi).2.2.2.2.2.trans (h5 i hi).2.2.2.2.2⟩) (by rw [List.length_append]; omega)
        rw [List.length_append, List.map_append, lm_app, yo_app, yu_app, yc_app, ← h7, ← h8, ← h9, ← h10, ← Nat.add_assoc, ← h6] at this
        exact this
      · have e : fo' = 1001 := by omega
        obtain ⟨M2, rfl⟩ : ∃ M2, M' = M2 + 1 := ⟨M' - 1, by omega⟩
        rw [e]
        exact br_f (nI_nle (by omega) (by omega)) (br_t (by decide) (hx (by omega) _ _ _ _ _ _ _ _ _ _ _ _ _ _ _))
    have gg : ∀ {b5 b6 : Nat → Int32}, (∀ i, i < d → b5 i = ybo i) → (∀ i, i < d → b6 i = ytk i) → yg_ d ypa ysp ypl ycp ybo ytk ypa ysp ypl (upd ycp d (nI (j + 1))) b5 b6 := fun q5 q6 i hi => ⟨rfl, rfl, rfl, pk_un (by omega), q5 i hi, q6 i hi⟩
    have fj : yf_ pam ypa ysp ypl (upd ycp d (nI (j + 1))) d k n p (j + 1) := ⟨f1, f2, f3, pk_us⟩
    have hM : N0 + r * (1 + cy f) + 1 + cy f ≤ M := by omega
    have skip : ((mt_W P (Vf pva) (Vf plo) (Vf phi) (stp pam) (ok_ nT yla pwa) (al_ eT yfr yto yty pam pdi) (trp ypr c cs nn) f k n p s u) j) = [] → wY_search_92 post (nI v) M ylv (nI P) yqc (nI nn) yec (nI (d + 1)) u (nI (ws_ ywt u)) (nI fo) (nI l) yso ysu yla ypr yfr yto yty ywt pva pwa pam pdi plo phi ptk pco pex yst ypa ysp ypl (upd ycp d (nI (j + 1))) (upd ybo d (-1)) (upd ytk d (-1)) s ych yfa := fun q =>
      res M fo l yso ysu u (nI (ws_ ywt u)) yst ypa ysp ypl _ _ _ s ych (by omega) fj (Or.inl ⟨pk_us, rfl⟩) (Or.inl ⟨pk_us, rfl, rfl⟩) (gg (fun i hi => pk_un (by omega)) (fun i hi => pk_un (by omega))) (by rw [q]; rfl) (by rw [q]; rfl) (by rw [q]; rfl) (by rw [q]; rfl) (by rw [q]; rfl) (by omega)
    have goon : ∀ m, m < 8 → ok_ nT yla pwa k m = true → (s (Vf pva k) < 0 ∨ s (Vf pva k) = nI m) → ((mt_W P (Vf pva) (Vf plo) (Vf phi) (stp pam) (ok_ nT yla pwa) (al_ eT yfr yto yty pam pdi) (trp ypr c cs nn) f k n p s u) j) = (if k + 1 < P then mt_Y P (Vf pva) (Vf plo) (Vf phi) (stp pam) (ok_ nT yla pwa) (al_ eT yfr yto yty pam pdi) (trp ypr c cs nn) f (k + 1) 0 m (upd s (Vf pva k) (nI m)) u else if trp ypr c cs nn (upd s (Vf pva k) (nI m)) = true then [(upd s (Vf pva k) (nI m), u)] else []) →
        ∀ ybo', ybo' = (if s (Vf pva k) = -1 then upd (upd ybo d (-1)) d (nI (Vf pva k)) else upd ybo d (-1)) → wY_search_269 post (wY_search_92 post (nI v) M) (nI v) (nI m) (nI d) ylv (nI P) yqc (nI nn) yec (nI (d + 1)) u (nI (ws_ ywt u)) (nI fo) (nI l) yso ysu yla ypr yfr yto yty ywt pva pwa pam pdi plo phi ptk pco pex yst ypa ysp ypl (upd ycp d (nI (j + 1))) ybo' (upd ytk d (-1)) (upd s (Vf pva k) (nI m)) ych yfa := by
      intro m hm hok hsv eB ybo' hyb
      have bm : bt nT m = true := by
        unfold ok_ at hok
        simp at hok
        exact hok.2.1
      have hs' := s_up hs (v := Vf pva k) hm
      have hb' := bs_s hb hm bm
      have hdb' : db_ s (upd s (Vf pva k) (nI m)) (ybo' d) := by
        rcases hs _ vv2 with q | ⟨m', hm', q⟩
        · rw [hyb, if_pos q, pk_us]
          exact Or.inr ⟨Vf pva k, nI m, vv2, rfl, rfl, q⟩
        · have nq : ¬ s (Vf pva k) = -1 := fun x => by
            rw [q] at x
            exact nI_m1 (by omega) x
          rw [hyb, if_neg nq, pk_us]
          refine Or.inl ⟨rfl, up_id ?_⟩
          rcases hsv with x | x
          · rw [q] at x; exact absurd x (nI_pos (by omega))
          · exact x
      have lowb : ∀ i, i < d → ybo' i = ybo i := fun i hi => by
        rw [hyb]
        split
        · rw [pk_un (by omega), pk_un (by omega)]
        · rw [pk_un (by omega)]
      have lowt : ∀ i, i < d → upd ytk d (-1) i = ytk i := fun i hi => pk_un (by omega)
      unfold wY_search_269
      refine ym_go (nT := nT) hP hp hn hco hW (by omega) hk f1 hv hs' hb' wlt (by omega) (fun z => ?_) (fun z => ?_) (fun z e yst => ?_) (fun z e yst => ?_)
      · cases st : stp pam k with
        | true =>
          have := shp.2.1 k hk st
          have n0 := hz (of_decide_eq_true st)
          omega
        | false =>
          have a1 := (hh (of_decide_eq_false st)).1
          have := (shp.2.2 k hk st).1
          omega
      · rw [if_pos z] at eB
        have nd' : P + qu_H pam phi P ≤ k + 1 + qu_H pam phi (k + 1) + 0 + f := by
          cases st : stp pam k with
          | true =>
            have := shp.2.1 k hk st
            have n0 := hz (of_decide_eq_true st)
            omega
          | false =>
            have a1 := (hh (of_decide_eq_false st)).1
            have := (shp.2.2 k hk st).1
            omega
        refine hch (by omega) (k + 1) 0 m (upd s (Vf pva k) (nI m)) u z (fun _ => ⟨Nat.zero_le _, hm⟩) (fun _ => rfl) nd' hs' hb' hu (N0 + r * (1 + cy f) + 1) M fo l yso ysu yst _ _ _ _ _ _ ych hM ⟨pk_us, pk_us, fun _ => pk_us, pk_us⟩ pk_us pk_us hfo hl (by rw [← eB]; omega) (fun N' yst a1 a2 a3 a4 a5 a6 g1 g2 g3 => ?_)
        obtain ⟨x1, x2, x3, x4, x5, x6⟩ := g2 d (by omega)
        rw [pk_un (by omega)] at x1 x2 x3 x4 x5 x6
        refine res N' _ _ _ _ u (nI (ws_ ywt u)) yst a1 a2 a3 a4 a5 a6 _ _ g1 ⟨x1.trans f1, x2.trans f2, fun q => x3.trans (f3 q), x4.trans pk_us⟩ (by rw [x5]; exact hdb') (by rw [x6]; exact Or.inl ⟨pk_us, rfl, rfl⟩) (fun i hi => ?_) (by rw [eB]) (by rw [eB]) (by rw [eB]) (by rw [eB]) (by rw [eB]) (by omega)
        obtain ⟨y1, y2, y3, y4, y5, y6⟩ := g2 i (by omega)
        rw [pk_un (by omega)] at y1 y2 y3 y4 y5 y6
        exact ⟨y1, y2, y3, y4.trans (pk_un (by omega)), y5.trans (lowb i hi), y6.trans (lowt i hi)⟩
      · have e' : trp ypr c cs nn (upd s (Vf pva k) (nI m)) = true := e
        rw [if_neg z, if_pos e'] at eB
        exact res M _ _ _ _ u (nI (ws_ ywt u)) yst ypa ysp ypl _ _ _ _ _ (by omega) fj hdb' (Or.inl ⟨pk_us, rfl, rfl⟩) (gg lowb lowt) (by rw [eB]; rfl) (by rw [eB]; rfl) (by rw [eB]; rfl) (by rw [eB]; rfl) (by rw [eB]; rfl) (by omega)
      · have e' : ¬ trp ypr c cs nn (upd s (Vf pva k) (nI m)) = true := by
          show ¬ cv_ ypr _ c cs nn = true
          rw [e]; decide
        rw [if_neg z, if_neg e'] at eB
        exact res M _ _ _ _ u (nI (ws_ ywt u)) yst ypa ysp ypl _ _ _ _ _ (by omega) fj hdb' (Or.inl ⟨pk_us, rfl, rfl⟩) (gg lowb lowt) (by rw [eB]; rfl) (by rw [eB]; rfl) (by rw [eB]; rfl) (by rw [eB]; rfl) (by rw [eB]; rfl) (by omega)
    refine br_f (nI_nle (by omega) (by omega)) (br_f (nI_nlt (b := fo) (a := 1000) hfo (by omega)) (nm_r (nI_pred d) (ym_tb hR (by omega) hdb hdt ⟨w, w, nm_r (show _ = upd ycp d (nI (j + 1)) from by rw [cd, f4, nI_1]) (nm_r (show _ = nI j from by rw [cd, f4]) ⟨w, ?_⟩)⟩)))
    rw [cd, f1, ck]
    refine ⟨wk, br_c (fun z => ?_) (fun z => ?_)⟩
    · have e : stp pam k = true := decide_eq_true z
      rw [e, if_pos rfl] at hj
      have nj : ¬ nI j = 8 := fun q => by
        have := (nI_eq (b := 8) (by omega) (by omega)).mp q
        omega
      refine br_f tg_10 (br_f nj (br_f tg_10 (br_f tg_10 (br_f tg_10 (br_f tg_10 (ym_se hR hp hP hk (by omega) (by omega) f1 hs (fun q => br_t rfl (skip ?_)) (fun q1 q2 => br_f tg_10 (br_f tg_10 (goon j (by omega) q1 (Or.inl (by rw [q2]; decide)) ?_ _ ?_))) (fun q1 q2 => br_f tg_10 (br_f tg_10 (goon j (by omega) q1 (Or.inr q2) ?_ _ ?_)))))))))
      · unfold mt_W; rw [if_pos e, if_neg q]
      · unfold mt_W; rw [if_pos e, if_pos ⟨q1, Or.inl (by rw [q2]; decide)⟩]
      · rw [if_pos q2]
      · unfold mt_W; rw [if_pos e, if_pos ⟨q1, Or.inr q2⟩]
      · rw [if_neg (fun x => by rw [q2] at x; exact nI_m1 (by omega) x)]
    · have e : stp pam k = false := decide_eq_false z
      have e' : ¬ stp pam k = true := by rw [e]; decide
      rw [e, if_neg (by decide)] at hj
      obtain ⟨h1, h2⟩ := hh z
      obtain ⟨_, _, v4, v7, v8, v5, v6⟩ := vv3 z
      have f3' := f3 z
      have nj : ¬ nI j = 25 := fun q => by
        have := (nI_eq (b := 25) (by omega) (by omega)).mp q
        omega
      refine br_t rfl (br_f nj (br_t rfl ?_))
      by_cases j0 : j = 0
      · have eB0 : ((mt_W P (Vf pva) (Vf plo) (Vf phi) (stp pam) (ok_ nT yla pwa) (al_ eT yfr yto yty pam pdi) (trp ypr c cs nn) f k n p s u) j) = (if Vf plo k ≤ n ∧ ok_ nT yla pwa k p = true ∧ (s (Vf pva k) < 0 ∨ s (Vf pva k) = nI p) then (if k + 1 < P then mt_Y P (Vf pva) (Vf plo) (Vf phi) (stp pam) (ok_ nT yla pwa) (al_ eT yfr yto yty pam pdi) (trp ypr c cs nn) f (k + 1) 0 p (upd s (Vf pva k) (nI p)) u else if trp ypr c cs nn (upd s (Vf pva k) (nI p)) = true then [(upd s (Vf pva k) (nI p), u)] else []) else []) := by
          unfold mt_W; rw [if_neg e', if_pos j0]
        refine br_t (by rw [j0]; rfl) (br_t rfl ⟨w, w, ?_⟩)
        rw [cd, f1, f2, ck, v4]
        refine ⟨wk, ?_⟩
        by_cases lo : Vf plo k ≤ n
        · refine br_f (nI_nlt lo (by omega)) (br_f tg_10 (br_t rfl ⟨w, ?_⟩))
          rw [cd, f3']
          refine ym_se hR hp hP hk (by omega) h2 f1 hs (fun q => br_t rfl (skip ?_)) (fun q1 q2 => br_f tg_10 (br_t rfl ⟨w, ?_⟩)) (fun q1 q2 => br_f tg_10 (br_t rfl ⟨w, ?_⟩))
          · rw [eB0, if_neg (fun x => q x.2)]
          · rw [cd, f3']
            refine goon p h2 q1 (Or.inl (by rw [q2]; decide)) ?_ _ ?_
            · rw [eB0, if_pos ⟨lo, q1, Or.inl (by rw [q2]; decide)⟩]
            · rw [if_pos q2]
          · rw [cd, f3']
            refine goon p h2 q1 (Or.inr q2) ?_ _ ?_
            · rw [eB0, if_pos ⟨lo, q1, Or.inr q2⟩]
            · rw [if_neg (fun x => by rw [q2] at x; exact nI_m1 (by omega) x)]
        · refine br_t (nI_lt (by omega) (by omega)) (br_t rfl (skip ?_))
          rw [eB0, if_neg (fun x => lo x.1)]
      · have eB0 : ((mt_W P (Vf pva) (Vf plo) (Vf phi) (stp pam) (ok_ nT yla pwa) (al_ eT yfr yto yty pam pdi) (trp ypr c cs nn) f k n p s u) j) = (if bt u ((j - 1) / 2) = true then [] else if n = Vf phi k then [] else om (al_ eT yfr yto yty pam pdi k (j - 1) p) (fun q => mt_Y P (Vf pva) (Vf plo) (Vf phi) (stp pam) (ok_ nT yla pwa) (al_ eT yfr yto yty pam pdi) (trp ypr c cs nn) f k (n + 1) q s (ub u ((j - 1) / 2)))) := by
          unfold mt_W; rw [if_neg e', if_neg j0]
        have ej : nI j - 1 = nI (j - 1) := pk_sub (b := 1) (by omega)
        refine br_f (fun q => j0 ((nI_eq (b := 0) (by omega) (by omega)).mp q)) ?_
        rw [ej]
        refine ym_al hR hp hP hk z (by omega) (by omega) (by omega) f1 f2 f3' ?_
        by_cases bu : bt u ((j - 1) / 2) = true
        · rw [if_pos bu] at eB0 ⊢
          exact br_t (by decide) (skip eB0)
        rw [if_neg bu] at eB0 ⊢
        by_cases hH : n = Vf phi k
        · rw [if_pos hH] at eB0 ⊢
          exact br_t (by decide) (skip eB0)
        rw [if_neg hH] at eB0 ⊢
        cases ha : al_ eT yfr yto yty pam pdi k (j - 1) p with
        | none =>
          rw [ha] at eB0
          exact br_t (by decide) (skip eB0)
        | some q =>
          rw [ha] at eB0
          have eB : ((mt_W P (Vf pva) (Vf plo) (Vf phi) (stp pam) (ok_ nT yla pwa) (al_ eT yfr yto yty pam pdi) (trp ypr c cs nn) f k n p s u) j) = mt_Y P (Vf pva) (Vf plo) (Vf phi) (stp pam) (ok_ nT yla pwa) (al_ eT yfr yto yty pam pdi) (trp ypr c cs nn) f k (n + 1) q s (ub u ((j - 1) / 2)) := eB0
          have bu' : bt u ((j - 1) / 2) = false := by
            cases x : bt u ((j - 1) / 2) with
            | false => rfl
            | true => exact absurd x bu
          obtain ⟨q8, qb⟩ : q < 8 ∧ bt eT ((j - 1) / 2) = true := by
            rcases al_fe (eT := eT) (yfr := yfr) (yto := yto) (yty := yty) (pam := pam) (p := p) (e := (j - 1) / 2) (vv3 z).2.1 with ⟨a1, a2⟩ | ⟨a1, a2⟩
            · rcases Nat.mod_two_eq_zero_or_one (j - 1) with x | x
              · rw [show 2 * ((j - 1) / 2) = j - 1 from by omega, ha] at a1
                have := fe_lt hR a1.symm
                exact ⟨this.1, this.2.1⟩
              · rw [show 2 * ((j - 1) / 2) + 1 = j - 1 from by omega, ha] at a2
                exact absurd a2 (by simp)
            · rcases Nat.mod_two_eq_zero_or_one (j - 1) with x | x
              · rw [show 2 * ((j - 1) / 2) = j - 1 from by omega, ha] at a1
                exact absurd a1 (by simp)
              · rw [show 2 * ((j - 1) / 2) + 1 = j - 1 from by omega, ha] at a2
                have := fe_lt hR a2.symm
                exact ⟨this.1, this.2.1⟩
          have he12 : (j - 1) / 2 < 12 := by omega
          have hu' := us_u hu he12 qb
          obtain ⟨e1, _⟩ := tg_d2 (j := j - 1) (by omega)
          have hHs := (shp.2.2 k hk e).1
          obtain ⟨w', hw', ew⟩ : ∃ w', w' ≤ 100 ∧ ywt ((j - 1) / 2) = nI w' := by
            rcases hR.2.2.2 ((j - 1) / 2) he12 with ⟨_, _, _, _, w', _, _, _, hw', _, _, _, _, _, _, ew⟩ | ⟨a, _⟩
            · exact ⟨w', hw', ew⟩
            · rw [qb] at a; exact absurd a (by decide)
          refine br_f (nI_pos (by omega)) ⟨by decide, w, nm_r (show _ = upd (upd ytk d (-1)) d (nI ((j - 1) / 2)) from by rw [cd, e1]) ⟨w, ?_⟩⟩
          rw [cd, pk_us]
          refine nm_r (show _ = ub u ((j - 1) / 2) from rfl) ⟨w, vp_in_nI (by omega) (by omega), nm_r (show _ = nI (ws_ ywt (ub u ((j - 1) / 2))) from ?_) ⟨w, w, ?_⟩⟩
          · rw [nI_clamp (by omega), ws_ub ywt he12 bu', ew, nI_clamp (by omega), nI_add]
          · rw [f1, f2, nI_1]
            refine ym_en (by omega) (hch (by omega) k (n + 1) q s (ub u ((j - 1) / 2)) hk (fun _ => ⟨by omega, q8⟩) (fun x => absurd x z) (by omega) hs hb hu' (N0 + r * (1 + cy f) + 1) M fo l yso ysu yst _ _ _ _ _ _ ych hM ⟨pk_us, pk_us, fun _ => pk_us, pk_us⟩ pk_us pk_us hfo hl (by rw [← eB]; omega) (fun N' yst a1 a2 a3 a4 a5 a6 g1 g2 g3 => ?_))
            obtain ⟨x1, x2, x3, x4, x5, x6⟩ := g2 d (by omega)
            rw [pk_un (by omega)] at x1 x2 x3 x4 x5 x6
            refine res N' _ _ _ _ (ub u ((j - 1) / 2)) (nI (ws_ ywt (ub u ((j - 1) / 2)))) yst a1 a2 a3 a4 a5 a6 _ _ g1 ⟨x1.trans f1, x2.trans f2, fun q => x3.trans (f3 q), x4.trans pk_us⟩ (by rw [x5]; exact Or.inl ⟨pk_us, rfl⟩) (by rw [x6]; exact Or.inr ⟨(j - 1) / 2, he12, pk_us, qb, bu', rfl, rfl⟩) (fun i hi => ?_) (by rw [eB]) (by rw [eB]) (by rw [eB]) (by rw [eB]) (by rw [eB]) (by omega)
            obtain ⟨y1, y2, y3, y4, y5, y6⟩ := g2 i (by omega)
            rw [pk_un (by omega)] at y1 y2 y3 y4 y5 y6
            exact ⟨y1, y2, y3, y4.trans (pk_un (by omega)), y5.trans (pk_un (by omega)), y6.trans ((pk_un (by omega)).trans (pk_un (by omega)))⟩
