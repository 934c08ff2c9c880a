/-! the graph's own methods -/
theorem tg_u {a : Nat → Int32} {v : Int32} {j : Nat} (h : j < 2 ^ 31) : upd a (nI j).toNatClampNeg v = upd a j v := by rw [nI_clamp h]
theorem tg_uL {a : Nat → Int64} {v : Int64} {j : Nat} (h : j < 2 ^ 31) : vp_updL a (nI j).toNatClampNeg v = vp_updL a j v := by rw [nI_clamp h]
theorem tg_ft {m em : Int32} {ed yfr yto yty ywt : Nat → Int32} {e : Nat} (h : gr_E m em ed yfr yto yty ywt e) (hb : bt em e = true) :
    (ed e &&& 7) = yfr e ∧ ((ed e >>> ((3 : Int32) &&& 31)) &&& 7) = yto e ∧ ((ed e >>> ((6 : Int32) &&& 31)) &&& 3) = yty e ∧ (ed e >>> ((8 : Int32) &&& 31)) = ywt e := by
  rcases h with ⟨_, f, t, y, w, hf, ht, hy, hw, _, _, e1, e2, e3, e4, e5⟩ | ⟨a, _⟩
  · rw [e1, e2, e3, e4, e5, pk_andN (by omega) (m := 7) 3 (by decide), pk_shrN (by omega) _ 3 (by decide), pk_shrN (by omega) _ 6 (by decide), pk_shrN (by omega) _ 8 (by decide), pk_andN (by omega) (m := 7) 3 (by decide), pk_andN (by omega) (m := 3) 2 (by decide)]
    refine ⟨congrArg nI ?_, congrArg nI ?_, congrArg nI ?_, congrArg nI ?_⟩ <;> omega
  · rw [a] at hb; exact absurd hb (by decide)
section
variable {nT eT : Int32} {xla : Nat → Int32} {xpr : Nat → Int64} {xed yla : Nat → Int32} {ypr : Nat → Int64} {yfr yto yty ywt : Nat → Int32}
theorem gr_node (h : gr_R nT eT xla xpr xed yla ypr yfr yto yty ywt) {j l : Nat} (hj : j < 8) (hl : l < 16) (x : Int64) :
    gr_R (nT ||| ((1 : Int32) <<< (nI j &&& 31))) eT (upd xla j (nI l)) (vp_updL xpr j x) xed (upd yla j (nI l)) (vp_updL ypr j x) yfr yto yty ywt := by
  refine ⟨fun i hi => ?_, h.2.1, fun n hn => ?_, fun e he => ?_⟩
  · rw [tg_or nT (by omega), h.1 i hi, decide_eq_false (by omega)]; rfl
  · by_cases z : n = j
    · subst z
      exact Or.inl ⟨by rw [tg_or nT (by omega)]; simp, ⟨l, hl, pk_us, pk_us⟩, by rw [pk_uLs, pk_uLs]⟩
    · rcases h.2.2.1 n hn with ⟨a, ⟨l', b, c, d⟩, f⟩ | ⟨a, b⟩
      · exact Or.inl ⟨by rw [tg_or nT (by omega), a]; rfl, ⟨l', b, by rw [pk_un z]; exact c, by rw [pk_un z]; exact d⟩, by rw [pk_uLn z, pk_uLn z]; exact f⟩
      · exact Or.inr ⟨by rw [tg_or nT (by omega), a, decide_eq_false z]; rfl, by rw [pk_un z]; exact b⟩
  · rcases h.2.2.2 e he with ⟨a, f, t, y, w, h1, h2, h3, h4, h5, h6, h7⟩ | b
    · exact Or.inl ⟨a, f, t, y, w, h1, h2, h3, h4, by rw [tg_or nT (by omega), h5]; rfl, by rw [tg_or nT (by omega), h6]; rfl, h7⟩
    · exact Or.inr b
theorem gr_set (h : gr_R nT eT xla xpr xed yla ypr yfr yto yty ywt) (j : Nat) (x : Int64) :
    gr_R nT eT xla (vp_updL xpr j x) xed yla (vp_updL ypr j x) yfr yto yty ywt := by
  refine ⟨h.1, h.2.1, fun n hn => ?_, h.2.2.2⟩
  rcases h.2.2.1 n hn with ⟨a, b, c⟩ | b
  · refine Or.inl ⟨a, b, ?_⟩
    by_cases z : n = j
    · subst z; rw [pk_uLs, pk_uLs]
    · rw [pk_uLn z, pk_uLn z]; exact c
  · exact Or.inr b
theorem gr_label (h : gr_R nT eT xla xpr xed yla ypr yfr yto yty ywt) {j l : Nat} (hb : bt nT j = true) (hl : l < 16) :
    gr_R nT eT (upd xla j (nI l)) xpr xed (upd yla j (nI l)) ypr yfr yto yty ywt := by
  refine ⟨h.1, h.2.1, fun n hn => ?_, h.2.2.2⟩
  by_cases z : n = j
  · subst z
    rcases h.2.2.1 n hn with ⟨a, b, c⟩ | ⟨b, _⟩
    · exact Or.inl ⟨a, ⟨l, hl, pk_us, pk_us⟩, c⟩
    · rw [b] at hb; exact absurd hb (by decide)
  · unfold gr_N
    rw [pk_un z, pk_un z]
    exact h.2.2.1 n hn
theorem gr_edge (h : gr_R nT eT xla xpr xed yla ypr yfr yto yty ywt) {j f t y w : Nat} (hj : j < 12) (hf : f < 8) (ht : t < 8) (hy : y < 3) (hw : w ≤ 100) (bf : bt nT f = true) (btt : bt nT t = true) :
    gr_R nT (eT ||| ((1 : Int32) <<< (nI j &&& 31))) xla xpr (upd xed j (nI (f + 8 * t + 64 * y + 256 * w))) yla ypr (upd yfr j (nI f)) (upd yto j (nI t)) (upd yty j (nI y)) (upd ywt j (nI w)) := by
  refine ⟨h.1, fun i hi => ?_, h.2.2.1, fun e he => ?_⟩
  · rw [tg_or eT (by omega), h.2.1 i hi, decide_eq_false (by omega)]; rfl
  · by_cases z : e = j
    · subst z
      exact Or.inl ⟨by rw [tg_or eT (by omega)]; simp, f, t, y, w, hf, ht, hy, hw, bf, btt, pk_us, pk_us, pk_us, pk_us, pk_us⟩
    · unfold gr_E
      rw [pk_un z, pk_un z, pk_un z, pk_un z, pk_un z, tg_or eT (by omega), decide_eq_false z, Bool.or_false]
      exact h.2.2.2 e he
theorem gr_cut (h : gr_R nT eT xla xpr xed yla ypr yfr yto yty ywt) {j : Nat} (hj : j < 12) :
    gr_R nT (eT &&& (((1 : Int32) <<< (nI j &&& 31)) ^^^ (-1))) xla xpr xed yla ypr yfr (upd yto j (-1)) yty ywt := by
  refine ⟨h.1, fun i hi => ?_, h.2.2.1, fun e he => ?_⟩
  · rw [tg_andn eT (by omega), h.2.1 i hi]; rfl
  · by_cases z : e = j
    · subst z
      exact Or.inr ⟨by rw [tg_andn eT (by omega)]; simp, pk_us⟩
    · unfold gr_E
      rw [pk_un z, tg_andn eT (by omega), decide_eq_false z, Bool.not_false, Bool.and_true]
      exact h.2.2.2 e he
/-- edge e is there and meets node nd -/
def tg_inc (eT : Int32) (yfr yto : Nat → Int32) (nd : Int32) (e : Nat) : Bool := bt eT e && (decide (yfr e = nd) || decide (yto e = nd))
def tg_cnt (f : Nat → Bool) : Nat → Nat
  | 0 => 0
  | n + 1 => tg_cnt f n + (if f n then 1 else 0)
theorem tg_cntle (f : Nat → Bool) : ∀ n, tg_cnt f n ≤ n
  | 0 => Nat.le_refl 0
  | n + 1 => by
    have := tg_cntle f n
    show tg_cnt f n + (if f n then 1 else 0) ≤ n + 1
    split <;> omega
theorem gr_remove (h : gr_R nT eT xla xpr xed yla ypr yfr yto yty ywt) {j : Nat} (hj : j < 8) (x : Int64) {lf : Int32} {to' : Nat → Int32}
    (h1 : ∀ i, bt lf i = (bt eT i && !tg_inc eT yfr yto (nI j) i)) (h2 : ∀ e, e < 12 → to' e = if tg_inc eT yfr yto (nI j) e then -1 else yto e) :
    gr_R (nT &&& (((1 : Int32) <<< (nI j &&& 31)) ^^^ (-1))) lf xla xpr xed (upd yla j (-1)) (vp_updL ypr j x) yfr to' yty ywt := by
  refine ⟨fun i hi => ?_, fun i hi => ?_, fun n hn => ?_, fun e he => ?_⟩
  · rw [tg_andn nT (by omega), h.1 i hi]; rfl
  · rw [h1, h.2.1 i hi]; rfl
  · by_cases z : n = j
    · subst z
      exact Or.inr ⟨by rw [tg_andn nT (by omega)]; simp, pk_us⟩
    · unfold gr_N
      rw [pk_un z, pk_uLn z, tg_andn nT (by omega), decide_eq_false z, Bool.not_false, Bool.and_true]
      exact h.2.2.1 n hn
  · unfold gr_E
    rw [h1 e, h2 e he]
    rcases h.2.2.2 e he with ⟨a, f, t, y, w, hf, ht, hy, hw, h5, h6, h7, h8, h9, h10⟩ | ⟨a, b⟩
    · cases c : tg_inc eT yfr yto (nI j) e
      · left
        have c' := c
        unfold tg_inc at c'
        rw [a, Bool.true_and, Bool.or_eq_false_iff, decide_eq_false_iff_not, decide_eq_false_iff_not, h8, h9, nI_eq (by omega) (by omega), nI_eq (by omega) (by omega)] at c'
        refine ⟨by rw [a]; rfl, f, t, y, w, hf, ht, hy, hw, ?_, ?_, h7, h8, h9, h10⟩
        · rw [tg_andn nT (by omega), h5, decide_eq_false c'.1]; rfl
        · rw [tg_andn nT (by omega), h6, decide_eq_false c'.2]; rfl
      · right
        exact ⟨by rw [a]; rfl, rfl⟩
    · right
      have c : tg_inc eT yfr yto (nI j) e = false := by unfold tg_inc; rw [a]; rfl
      rw [c, a]
      exact ⟨rfl, b⟩
end
