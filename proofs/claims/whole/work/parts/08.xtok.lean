section
/-! small terms for the walks -/
theorem ed_nu {a : Nat → Int32} {x v : Int32} {P : (Nat → Int32) → Prop} (p : Nat) (h : P (upd a p v)) (hx : x = nI p := by rfl) (hp : p < 2 ^ 31 := by omega) : ∀ y, y = upd a x.toNatClampNeg v → P y := by
  subst hx
  intro y hy
  rw [hy, nI_clamp hp]; exact h
theorem ed_nuv {a : Nat → Int32} {x v : Int32} {P : (Nat → Int32) → Prop} (p : Nat) (w : Int32) (hv : v = w) (h : P (upd a p w)) (hx : x = nI p := by rfl) (hp : p < 2 ^ 31 := by omega) : ∀ y, y = upd a x.toNatClampNeg v → P y := by
  subst hv; exact ed_nu p h hx hp
theorem ed_rd {a : Nat → Int32} {x w : Int32} {P : Int32 → Prop} (p : Nat) (e : a p = w) (h : P w) (hx : x = nI p := by rfl) (hp : p < 2 ^ 31 := by omega) : ∀ y, y = a x.toNatClampNeg → P y := by
  subst hx
  intro y hy
  rw [hy, nI_clamp hp, e]; exact h
theorem ed_rt {a : Nat → Int32} {x w : Int32} (p : Nat) (e : a p = w) (hx : x = nI p := by rfl) (hp : p < 2 ^ 31 := by omega) : a x.toNatClampNeg = w := by
  subst hx
  rw [nI_clamp hp, e]
theorem tk_co_n {c : Nat → Nat} {p : Nat} {s : tk_S} (h : tk_pv s.2.2.2.2 p = none) : tk_co c p s = none := by
  unfold tk_co; rw [h]
theorem tk_co_i {c : Nat → Nat} {p t : Nat} {s : tk_S} (h : tk_pv s.2.2.2.2 p = some t) : tk_co c p s = if tk_ck (s.2.1 t) (c p) then some t else none := by
  unfold tk_co; rw [h]
theorem tk_ckP {k c : Nat} : tk_ck k c = true ↔ ((k = 0 ∧ c ≤ 9) ∨ (k = 1 ∧ 5 ≤ c ∧ c ≤ 9) ∨ (k = 2 ∧ c = 10)) := by
  unfold tk_ck
  split
  · rw [decide_eq_true_iff]; omega
  · split
    · rw [decide_eq_true_iff]; omega
    · split
      · rw [decide_eq_true_iff]; omega
      · constructor
        · intro h; cases h
        · intro h; omega
theorem tk_co_1 {c : Nat → Nat} {p t : Nat} {s : tk_S} (h : tk_pv s.2.2.2.2 p = some t) (h2 : (s.2.1 t = 0 ∧ c p ≤ 9) ∨ (s.2.1 t = 1 ∧ 5 ≤ c p ∧ c p ≤ 9) ∨ (s.2.1 t = 2 ∧ c p = 10)) : tk_co c p s = some t := by
  rw [tk_co_i h, if_pos (tk_ckP.mpr h2)]
theorem tk_co_0 {c : Nat → Nat} {p t : Nat} {s : tk_S} (h : tk_pv s.2.2.2.2 p = some t) (h2 : ¬ ((s.2.1 t = 0 ∧ c p ≤ 9) ∨ (s.2.1 t = 1 ∧ 5 ≤ c p ∧ c p ≤ 9) ∨ (s.2.1 t = 2 ∧ c p = 10))) : tk_co c p s = none := by
  rw [tk_co_i h, if_neg (fun z => h2 (tk_ckP.mp z))]
end
section
/-! X reads the tokens -/
variable {f_size f_tokenCount f_itemCount f_blockCount f_openCount f_looseCount : Int32} {a_text a_characterToken a_tokenKind a_tokenStart a_tokenEnd a_tokenItem a_tokenMeaning a_itemFirst a_itemEnd a_itemSort a_itemDepth a_itemBlock a_itemUses a_itemKnown a_itemValue a_blockEnd a_openBlocks a_levelCompares a_levelLeft a_levelSum a_levelProduct : Nat → Int32}
theorem xt_continues {post : Int32 → Prop} {c : Nat → Nat} {n p : Nat} {s : tk_S} (hn : n ≤ 80) (hp : p < n) (hc : ∀ j, j < n → c j ≤ 18) (hT : ed_ag a_text c n) (hI : tk_I p s) (hA : ed_ao a_characterToken s.2.2.2.2 p) (hK : ed_ag a_tokenKind s.2.1 s.1)
    (h1 : ∀ t, tk_co c p s = some t → post 1) (h0 : tk_co c p s = none → post 0) : wpX_continuesToken post (f_size, f_tokenCount, f_itemCount, f_blockCount, f_openCount, f_looseCount, a_text, a_characterToken, a_tokenKind, a_tokenStart, a_tokenEnd, a_tokenItem, a_tokenMeaning, a_itemFirst, a_itemEnd, a_itemSort, a_itemDepth, a_itemBlock, a_itemUses, a_itemKnown, a_itemValue, a_blockEnd, a_openBlocks, a_levelCompares, a_levelLeft, a_levelSum, a_levelProduct) (nI p) := by
  cases p with
  | zero => exact br_t rfl (h0 rfl)
  | succ q =>
    refine br_f (nI_ne0 (by omega) (by omega)) ?_
    rw [nI_pred q, nI_clamp (show q < 2 ^ 31 by omega)]
    refine ⟨pk_in q 80 (by omega), ?_⟩
    cases hs : s.2.2.2.2 q with
    | none =>
      have e : a_characterToken q = -3 := by rw [hA q (by omega), hs]; rfl
      exact br_t e (h0 (tk_co_n hs))
    | some t =>
      have ht : t < s.1 := hI.2.1 q t (by omega) hs
      have hm : s.1 ≤ q + 1 := hI.1
      have hk : s.2.1 t ≤ 10 := hI.2.2.2.2.2.1 t ht
      have hcq := hc (q + 1) hp
      have e : a_characterToken q = nI t := by rw [hA q (by omega), hs]; rfl
      rw [e]
      refine br_f (ed_m3 (by omega)) ⟨pk_in (q + 1) 80 (by omega), ed_rd (q + 1) (hT (q + 1) hp) ⟨pk_in q 80 (by omega), pk_in t 80 (by omega), ed_rd t (hK t ht) ?_⟩⟩
      have G1 := fun z => h1 t (tk_co_1 (c := c) (p := q + 1) (s := s) hs z)
      have G0 := fun z => h0 (tk_co_0 (c := c) (p := q + 1) (s := s) hs z)
      refine br_f (nI_pos (by omega)) (pk_lt 2 (s.2.1 t) (fun h => G0 (by omega)) (fun h => ?_))
      refine pk_eq (s.2.1 t) 0 (fun h2 => pk_lt 9 (c (q + 1)) (fun h3 => G0 (by omega)) (fun h3 => G1 (by omega))) (fun h2 => ?_)
      refine pk_eq (s.2.1 t) 1 (fun h2 => pk_lt (c (q + 1)) 5 (fun h3 => G0 (by omega)) (fun h3 => pk_lt 9 (c (q + 1)) (fun h3 => G0 (by omega)) (fun h3 => G1 (by omega)))) (fun h2 => ?_)
      refine pk_eq (s.2.1 t) 2 (fun h2 => pk_eq (c (q + 1)) 10 (fun h3 => G1 (by omega)) (fun h3 => G0 (by omega))) (fun h2 => ?_)
      first | trivial | (exfalso; omega)
theorem xt_continue {post : SX → Prop} {c : Nat → Nat} {n p t : Nat} {s : tk_S} (hn : n ≤ 80) (hp : p < n) (hI : tk_I p s) (hA : ed_ao a_characterToken s.2.2.2.2 p) (hK : ed_ag a_tokenKind s.2.1 s.1) (hco : tk_co c p s = some t)
    (h : ∀ K : Nat → Int32, ed_ag K (if s.2.1 t = 2 then ed_fu s.2.1 t 3 else s.2.1) s.1 → post (f_size, f_tokenCount, f_itemCount, f_blockCount, f_openCount, f_looseCount, a_text, upd a_characterToken p (nI t), K, a_tokenStart, upd a_tokenEnd t (nI (p + 1)), a_tokenItem, a_tokenMeaning, a_itemFirst, a_itemEnd, a_itemSort, a_itemDepth, a_itemBlock, a_itemUses, a_itemKnown, a_itemValue, a_blockEnd, a_openBlocks, a_levelCompares, a_levelLeft, a_levelSum, a_levelProduct)) : wpX_continueToken post (f_size, f_tokenCount, f_itemCount, f_blockCount, f_openCount, f_looseCount, a_text, a_characterToken, a_tokenKind, a_tokenStart, a_tokenEnd, a_tokenItem, a_tokenMeaning, a_itemFirst, a_itemEnd, a_itemSort, a_itemDepth, a_itemBlock, a_itemUses, a_itemKnown, a_itemValue, a_blockEnd, a_openBlocks, a_levelCompares, a_levelLeft, a_levelSum, a_levelProduct) (nI p) := by
  obtain ⟨g1, g2⟩ := tk_co_s hco
  cases p with
  | zero => cases g1
  | succ q =>
    have hs : s.2.2.2.2 q = some t := g1
    have ht : t < s.1 := hI.2.1 q t (by omega) hs
    have hm : s.1 ≤ q + 1 := hI.1
    have hk : s.2.1 t ≤ 10 := hI.2.2.2.2.2.1 t ht
    have e : a_characterToken q = nI t := by rw [hA q (by omega), hs]; rfl
    refine ⟨pk_in q 80 (by omega) (nI_pred q), ed_rd q e ⟨pk_in t 80 (by omega), ?_⟩ (nI_pred q)⟩
    have e2 : a_tokenKind (nI t).toNatClampNeg = nI (s.2.1 t) := ed_rt t (hK t ht)
    refine pk_eq (s.2.1 t) 2 (fun h2 => ⟨pk_in t 80 (by omega), ed_nu t ?_⟩) (fun h2 => ?_) e2
    · refine ⟨pk_in t 80 (by omega), ed_nuv t (nI (q + 1 + 1)) (nI_1 (q + 1)) ⟨pk_in (q + 1) 80 (by omega), ed_nu (q + 1) ?_⟩⟩
      refine h _ ?_
      rw [if_pos h2]; exact ed_ag_p hK
    · refine ⟨pk_in t 80 (by omega), ed_nuv t (nI (q + 1 + 1)) (nI_1 (q + 1)) ⟨pk_in (q + 1) 80 (by omega), ed_nu (q + 1) ?_⟩⟩
      refine h _ ?_
      rw [if_neg h2]; exact hK
theorem xt_kind {post : Int32 → Prop} {c : Nat} (hc : c ≤ 18) (h : post (nI (tk_kb c))) : wpX_kindBegunBy post (f_size, f_tokenCount, f_itemCount, f_blockCount, f_openCount, f_looseCount, a_text, a_characterToken, a_tokenKind, a_tokenStart, a_tokenEnd, a_tokenItem, a_tokenMeaning, a_itemFirst, a_itemEnd, a_itemSort, a_itemDepth, a_itemBlock, a_itemUses, a_itemKnown, a_itemValue, a_blockEnd, a_openBlocks, a_levelCompares, a_levelLeft, a_levelSum, a_levelProduct) (nI c) := by
  refine pk_lt 4 c (fun h4 => pk_lt 9 c (fun h9 => pk_eq c 10 (fun h10 => ?_) (fun h10 => ?_)) (fun h9 => ?_)) (fun h4 => ?_)
  · have e : tk_kb c = 2 := by unfold tk_kb; rw [if_neg (by omega), if_neg (by omega), if_pos h10]
    rw [e] at h; exact h
  · have e : tk_kb c = c - 7 := by unfold tk_kb; rw [if_neg (by omega), if_neg (by omega), if_neg h10]
    have e2 : nI c - 11 + 4 = nI (c - 7) := by
      rw [show (11 : Int32) = nI 11 from rfl, pk_sub (by omega), show (4 : Int32) = nI 4 from rfl, nI_add]
      exact congrArg nI (by omega)
    rw [e] at h; rw [e2]; exact h
  · have e : tk_kb c = 1 := by unfold tk_kb; rw [if_neg (by omega), if_pos (by omega)]
    rw [e] at h; exact h
  · have e : tk_kb c = 0 := by unfold tk_kb; rw [if_pos (by omega)]
    rw [e] at h; exact h
theorem xt_begin {post : SX → Prop} {c : Nat → Nat} {n p m : Nat} (hn : n ≤ 80) (hp : p < n) (hc : c p ≤ 18) (hT : ed_ag a_text c n) (hm : m ≤ p)
    (h : post (f_size, nI (m + 1), f_itemCount, f_blockCount, f_openCount, f_looseCount, a_text, upd a_characterToken p (nI m), upd a_tokenKind m (nI (tk_kb (c p))), upd a_tokenStart m (nI p), upd a_tokenEnd m (nI (p + 1)), a_tokenItem, a_tokenMeaning, a_itemFirst, a_itemEnd, a_itemSort, a_itemDepth, a_itemBlock, a_itemUses, a_itemKnown, a_itemValue, a_blockEnd, a_openBlocks, a_levelCompares, a_levelLeft, a_levelSum, a_levelProduct)) : wpX_beginToken post (f_size, nI m, f_itemCount, f_blockCount, f_openCount, f_looseCount, a_text, a_characterToken, a_tokenKind, a_tokenStart, a_tokenEnd, a_tokenItem, a_tokenMeaning, a_itemFirst, a_itemEnd, a_itemSort, a_itemDepth, a_itemBlock, a_itemUses, a_itemKnown, a_itemValue, a_blockEnd, a_openBlocks, a_levelCompares, a_levelLeft, a_levelSum, a_levelProduct) (nI p) := by
  refine ⟨pk_in p 80 (by omega), ?_⟩
  rw [ed_rt p (hT p hp)]
  refine xt_kind hc ?_
  refine ⟨pk_in m 80 (by omega), ed_nu m ⟨pk_in m 80 (by omega), ed_nu m ⟨pk_in m 80 (by omega), ed_nuv m (nI (p + 1)) (nI_1 p) ⟨pk_in p 80 (by omega), ed_nu p (nm_r (nI_1 m) h)⟩⟩⟩⟩
theorem xt_loop {post : SX → Prop} {c : Nat → Nat} {n : Nat} (hn : n ≤ 80) (hc : ∀ j, j < n → c j ≤ 18) (hT : ed_ag a_text c n)
    (hP : ∀ (a_characterToken a_tokenKind a_tokenStart a_tokenEnd : Nat → Int32), ed_ao a_characterToken (tk_r c n).2.2.2.2 n → ed_ag a_tokenKind (tk_r c n).2.1 (tk_r c n).1 → ed_ag a_tokenStart (tk_r c n).2.2.1 (tk_r c n).1 → ed_ag a_tokenEnd (tk_r c n).2.2.2.1 (tk_r c n).1 → post (nI n, nI (tk_r c n).1, f_itemCount, f_blockCount, f_openCount, f_looseCount, a_text, a_characterToken, a_tokenKind, a_tokenStart, a_tokenEnd, a_tokenItem, a_tokenMeaning, a_itemFirst, a_itemEnd, a_itemSort, a_itemDepth, a_itemBlock, a_itemUses, a_itemKnown, a_itemValue, a_blockEnd, a_openBlocks, a_levelCompares, a_levelLeft, a_levelSum, a_levelProduct)) :
    ∀ d p, p + d = n → ∀ f, d < f → ∀ (a_characterToken a_tokenKind a_tokenStart a_tokenEnd : Nat → Int32), ed_ao a_characterToken (tk_r c p).2.2.2.2 p → ed_ag a_tokenKind (tk_r c p).2.1 (tk_r c p).1 → ed_ag a_tokenStart (tk_r c p).2.2.1 (tk_r c p).1 → ed_ag a_tokenEnd (tk_r c p).2.2.2.1 (tk_r c p).1 →
      (wX_readTokens_7 post f (nI p) (nI n) (nI (tk_r c p).1) f_itemCount f_blockCount f_openCount f_looseCount a_text a_characterToken a_tokenKind a_tokenStart a_tokenEnd a_tokenItem a_tokenMeaning a_itemFirst a_itemEnd a_itemSort a_itemDepth a_itemBlock a_itemUses a_itemKnown a_itemValue a_blockEnd a_openBlocks a_levelCompares a_levelLeft a_levelSum a_levelProduct) := by
  intro d
  induction d with
  | zero =>
    intro p hp f hf CT TK TS TE h1 h2 h3 h4
    obtain ⟨f, rfl⟩ : ∃ g, f = g + 1 := ⟨f - 1, by omega⟩
    have e : p = n := by omega
    subst e
    exact br_t (nI_le (Nat.le_refl _) (by omega)) (hP CT TK TS TE h1 h2 h3 h4)
  | succ d ih =>
    intro p hp f hf CT TK TS TE h1 h2 h3 h4
    obtain ⟨f, rfl⟩ : ∃ g, f = g + 1 := ⟨f - 1, by omega⟩
    have hI := tk_Ir hc p (by omega)
    have hm : (tk_r c p).1 ≤ p := hI.1
    have hcp := hc p (by omega)
    have hr : tk_r c (p + 1) = tk_step c p (tk_r c p) := rfl
    have ih := ih (p + 1) (by omega) f (by omega)
    refine br_f (nI_ge (by omega) (by omega)) ⟨pk_in p 80 (by omega), pk_eq (c p) 18 (fun h18 => ?_) (fun h18 => ?_) (ed_rt p (hT p (by omega)))⟩
    · refine ⟨pk_in p 80 (by omega), ed_nu p (nm_r (nI_1 p) ?_)⟩
      rw [hr, tk_sp h18] at ih
      exact ih _ _ _ _ (ed_ao_s (x := none) h1) h2 h3 h4
    · refine xt_continues hn (by omega) hc hT hI h1 h2 (fun t hco => ?_) (fun hco => ?_)
      · refine br_f (by decide) ?_
        refine xt_continue hn (by omega) hI h1 h2 hco (fun K hK => ?_)
        rw [hr, tk_cn h18 hco] at ih
        exact nm_r (nI_1 p) (ih _ _ _ _ (ed_ao_s (x := some t) h1) hK h3 (ed_ag_p h4))
      · refine br_t rfl ?_
        refine xt_begin hn (by omega) hcp hT hm ?_
        rw [hr, tk_bg h18 hco] at ih
        exact nm_r (nI_1 p) (ih _ _ _ _ (ed_ao_s (x := some (tk_r c p).1) h1) (ed_ag_s h2) (ed_ag_s h3) (ed_ag_s h4))
theorem xt_read {post : SX → Prop} {c : Nat → Nat} {n : Nat} (hn : n ≤ 80) (hc : ∀ j, j < n → c j ≤ 18) (hT : ed_ag a_text c n)
    (hP : ∀ (a_characterToken a_tokenKind a_tokenStart a_tokenEnd : Nat → Int32), ed_ao a_characterToken (tk_r c n).2.2.2.2 n → ed_ag a_tokenKind (tk_r c n).2.1 (tk_r c n).1 → ed_ag a_tokenStart (tk_r c n).2.2.1 (tk_r c n).1 → ed_ag a_tokenEnd (tk_r c n).2.2.2.1 (tk_r c n).1 → post (nI n, nI (tk_r c n).1, f_itemCount, f_blockCount, f_openCount, f_looseCount, a_text, a_characterToken, a_tokenKind, a_tokenStart, a_tokenEnd, a_tokenItem, a_tokenMeaning, a_itemFirst, a_itemEnd, a_itemSort, a_itemDepth, a_itemBlock, a_itemUses, a_itemKnown, a_itemValue, a_blockEnd, a_openBlocks, a_levelCompares, a_levelLeft, a_levelSum, a_levelProduct)) :
    wpX_readTokens post (nI n, f_tokenCount, f_itemCount, f_blockCount, f_openCount, f_looseCount, a_text, a_characterToken, a_tokenKind, a_tokenStart, a_tokenEnd, a_tokenItem, a_tokenMeaning, a_itemFirst, a_itemEnd, a_itemSort, a_itemDepth, a_itemBlock, a_itemUses, a_itemKnown, a_itemValue, a_blockEnd, a_openBlocks, a_levelCompares, a_levelLeft, a_levelSum, a_levelProduct) := by
  refine ⟨n + 1, ?_⟩
  exact xt_loop hn hc hT hP n 0 (by omega) (n + 1) (by omega) _ _ _ _ (fun j hj => absurd hj (Nat.not_lt_zero _)) (fun j hj => absurd hj (Nat.not_lt_zero _)) (fun j hj => absurd hj (Nat.not_lt_zero _)) (fun j hj => absurd hj (Nat.not_lt_zero _))
end
