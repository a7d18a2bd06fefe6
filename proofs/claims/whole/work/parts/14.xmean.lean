section
/-! X finds the meanings -/
def mm_f (k : Nat → Nat) (T : Nat) (nm : Nat → Nat → Bool) (i t : Nat) : Nat → Option Nat := fun q => if q < t then mn_mt k T nm (i + 1) q else mn_mt k T nm i q
theorem mm_s (k : Nat → Nat) (T : Nat) (nm : Nat → Nat → Bool) (i t : Nat) : mm_f k T nm i (t + 1) = ed_fu (mm_f k T nm i t) t (mn_mt k T nm (i + 1) t) := by
  funext q
  unfold mm_f ed_fu
  by_cases e : q = t
  · subst e; rw [if_pos (by omega), if_pos rfl]
  · rw [if_neg e]
    dsimp only
    by_cases e2 : q < t
    · rw [if_pos e2, if_pos (by omega)]
    · rw [if_neg e2, if_neg (by omega)]
theorem mm_n {k : Nat → Nat} {T : Nat} {nm : Nat → Nat → Bool} {i t : Nat} (h : ¬ k t = 0) : mm_f k T nm i (t + 1) = mm_f k T nm i t := by
  rw [mm_s]
  funext q
  unfold ed_fu
  by_cases e : q = t
  · subst e
    rw [if_pos rfl]
    unfold mm_f
    rw [if_neg (Nat.lt_irrefl _)]
    show (if _ then _ else _) = _
    rw [if_neg (by omega)]
  · rw [if_neg e]
theorem mm_0 {k : Nat → Nat} {T : Nat} {nm : Nat → Nat → Bool} {i : Nat} : mm_f k T nm i (mn_es k T i) = mn_mt k T nm i := by
  funext q
  unfold mm_f
  by_cases e : q < mn_es k T i
  · rw [if_pos e]
    show (if _ then _ else _) = _
    rw [if_neg (by omega)]
  · rw [if_neg e]
theorem mm_e {k : Nat → Nat} {T : Nat} {nm : Nat → Nat → Bool} {i : Nat} : mm_f k T nm i (it_ie k (T + 1) i) = mn_mt k T nm (i + 1) := by
  funext q
  unfold mm_f
  by_cases e : q < it_ie k (T + 1) i
  · rw [if_pos e]
  · rw [if_neg e]
    show _ = (if _ then _ else _)
    rw [if_neg (by omega)]
theorem mm_w {k : Nat → Nat} {T : Nat} {nm : Nat → Nat → Bool} {i : Nat} (h : mn_so k T i = 0) : mn_mt k T nm (i + 1) = mn_mt k T nm i := by
  funext q
  show (if _ then _ else _) = _
  rw [if_neg (by omega)]
theorem mm_t {k : Nat → Nat} {T : Nat} {nm : Nat → Nat → Bool} {i t : Nat} (hi : i < it_cn k (T + 1)) (ht : it_fi k (T + 1) i ≤ t) : mm_f k T nm i t t = none := by
  unfold mm_f
  rw [if_neg (Nat.lt_irrefl _)]
  exact mn_mt_out hi ht
theorem mm_ct {f : Nat → Option Nat} {t d : Nat} (hn : f t = none) {T : Nat} (ht : t < T) (x : Nat) : mn_ct (ed_fu f t (some d)) x T = if x = d then mn_ct f x T + 1 else mn_ct f x T := by
  by_cases e : x = d
  · subst e; rw [if_pos rfl]; exact mn_ct_p hn ht
  · rw [if_neg e]
    refine mn_ct_u (fun q hq => ?_)
    by_cases z : q = t
    · subst z
      rw [ed_fs, hn]
      constructor
      · intro y; cases y; exact absurd rfl e
      · intro y; cases y
    · rw [ed_fn z]
theorem mm_same {f : Nat → Option Nat} {t : Nat} (hn : f t = none) : ed_fu f t none = f := by
  funext q
  unfold ed_fu
  by_cases e : q = t
  · subst e; rw [if_pos rfl, hn]
  · rw [if_neg e]
variable {f_size f_tokenCount f_itemCount f_blockCount f_openCount f_looseCount : Int32} {a_text a_characterToken a_tokenKind a_tokenStart a_tokenEnd a_tokenItem a_tokenMeaning a_itemFirst a_itemEnd a_itemSort a_itemDepth a_itemBlock a_itemUses a_itemKnown a_itemValue a_blockEnd a_openBlocks a_levelCompares a_levelLeft a_levelSum a_levelProduct : Nat → Int32}
theorem xm_sl {post : Int32 → Prop} {c st en : Nat → Nat} {T n t u : Nat} (hn : n ≤ 80) (hT : T ≤ 80) (hS : ed_ag a_tokenStart st T) (hE : ed_ag a_tokenEnd en T) (hX : ed_ag a_text c n) (hse : ∀ q, q < T → st q < en q ∧ en q ≤ n) (hc : ∀ j, j < n → c j ≤ 18) (ht : t < T) (hu : u < T) (hw : en t - st t = en u - st u)
    (h1 : mn_nm c st en t u = true → post 1) (h0 : mn_nm c st en t u = false → post 0) :
    ∀ d j, j + d = en t - st t → (∀ i, i < j → c (st t + i) = c (st u + i)) → ∀ f, d < f → (wX_isSameName_36 post (nI t) (nI u) (nI (en t - st t)) f_size f_tokenCount f_itemCount f_blockCount f_openCount f_looseCount a_text a_characterToken a_tokenKind a_tokenStart a_tokenEnd a_tokenItem a_tokenMeaning a_itemFirst a_itemEnd a_itemSort a_itemDepth a_itemBlock a_itemUses a_itemKnown a_itemValue a_blockEnd a_openBlocks a_levelCompares a_levelLeft a_levelSum a_levelProduct f (nI j)) := by
  intro d
  have ht2 := hse t ht
  have hu2 := hse u hu
  induction d with
  | zero =>
    intro j hj hi f hf
    obtain ⟨f, rfl⟩ : ∃ g, f = g + 1 := ⟨f - 1, by omega⟩
    refine br_t (nI_le (by omega) (by omega)) (h1 ?_)
    unfold mn_nm
    exact decide_eq_true ⟨hw, fun i hi2 => hi i (by omega)⟩
  | succ d ih =>
    intro j hj hi f hf
    obtain ⟨f, rfl⟩ : ∃ g, f = g + 1 := ⟨f - 1, by omega⟩
    have e1 : a_tokenStart (nI t).toNatClampNeg + nI j = nI (st t + j) := by rw [ed_rt t (hS t ht), nI_add]
    have e2 : a_tokenStart (nI u).toNatClampNeg + nI j = nI (st u + j) := by rw [ed_rt u (hS u hu), nI_add]
    have c1 := hc (st t + j) (by omega)
    have c2 := hc (st u + j) (by omega)
    refine br_f (nI_ge (by omega) (by omega)) ⟨pk_in t 80 (by omega), ?_⟩
    rw [e1, e2]
    refine ⟨pk_in (st t + j) 80 (by omega), pk_in u 80 (by omega), pk_in (st u + j) 80 (by omega), pk_eq (c (st t + j)) (c (st u + j)) (fun e => ?_) (fun e => ?_) (ed_rt _ (hX _ (by omega))) (ed_rt _ (hX _ (by omega)))⟩
    · refine nm_r (nI_1 j) (ih (j + 1) (by omega) (fun i hi2 => ?_) f (by omega))
      by_cases z : i = j
      · subst z; exact e
      · exact hi i (by omega)
    · refine h0 ?_
      unfold mn_nm
      exact decide_eq_false (fun z => e (z.2 j (by omega)))
theorem xm_same {post : Int32 → Prop} {c st en : Nat → Nat} {T n t u : Nat} (hn : n ≤ 80) (hT : T ≤ 80) (hS : ed_ag a_tokenStart st T) (hE : ed_ag a_tokenEnd en T) (hX : ed_ag a_text c n) (hse : ∀ q, q < T → st q < en q ∧ en q ≤ n) (hc : ∀ j, j < n → c j ≤ 18) (ht : t < T) (hu : u < T)
    (h1 : mn_nm c st en t u = true → post 1) (h0 : mn_nm c st en t u = false → post 0) : wpX_isSameName post (f_size, f_tokenCount, f_itemCount, f_blockCount, f_openCount, f_looseCount, a_text, a_characterToken, a_tokenKind, a_tokenStart, a_tokenEnd, a_tokenItem, a_tokenMeaning, a_itemFirst, a_itemEnd, a_itemSort, a_itemDepth, a_itemBlock, a_itemUses, a_itemKnown, a_itemValue, a_blockEnd, a_openBlocks, a_levelCompares, a_levelLeft, a_levelSum, a_levelProduct) (nI t) (nI u) := by
  have ht2 := hse t ht
  have hu2 := hse u hu
  have e1 : a_tokenEnd (nI t).toNatClampNeg - a_tokenStart (nI t).toNatClampNeg = nI (en t - st t) := by rw [ed_rt t (hS t ht), ed_rt t (hE t ht), pk_sub (by omega)]
  have e2 : a_tokenEnd (nI u).toNatClampNeg - a_tokenStart (nI u).toNatClampNeg = nI (en u - st u) := by rw [ed_rt u (hS u hu), ed_rt u (hE u hu), pk_sub (by omega)]
  refine ⟨pk_in t 80 (by omega), pk_in t 80 (by omega), nm_r e1 ⟨pk_in u 80 (by omega), pk_in u 80 (by omega), pk_eq (en u - st u) (en t - st t) (fun hw => ⟨en t - st t + 1, ?_⟩) (fun hw => h0 ?_) e2⟩⟩
  · exact xm_sl hn hT hS hE hX hse hc ht hu hw.symm h1 h0 (en t - st t) 0 (by omega) (fun i hi => by omega) _ (by omega)
  · unfold mn_nm
    exact decide_eq_false (fun z => hw z.1.symm)
theorem xm_def {post : Int32 → Prop} {c st en k : Nat → Nat} {T n t i : Nat} {e : Nat → Nat} (hn : n ≤ 80) (hT : T ≤ 80) (hS : ed_ag a_tokenStart st T) (hE : ed_ag a_tokenEnd en T) (hX : ed_ag a_text c n) (hse : ∀ q, q < T → st q < en q ∧ en q ≤ n) (hc : ∀ j, j < n → c j ≤ 18)
    (hN : it_cn k (T + 1) ≤ 80) (hi : i < it_cn k (T + 1)) (ht1 : it_fi k (T + 1) i ≤ t) (ht2 : t < it_ie k (T + 1) i) (hFI : ed_ag a_itemFirst (it_fi k (T + 1)) (it_cn k (T + 1))) (hSO : ed_ag a_itemSort (mn_so k T) (it_cn k (T + 1))) (hIB : ed_ag a_itemBlock (fun i => xb_h (it_ik k (T + 1) i)) (it_cn k (T + 1)))
    (hBE : ed_ag a_blockEnd e (it_nb k (T + 1) + 1)) (hxb : xb_I T e (it_bs k (T + 1)) (it_nb k (T + 1)) (it_fr k (T + 1)) (it_cn k (T + 1)) (it_fi k (T + 1)) (it_ie k (T + 1)) (it_in k (T + 1)) (it_ik k (T + 1))) (hnb : it_nb k (T + 1) ≤ 80) (heT : ∀ b, b ≤ it_nb k (T + 1) → e b ≤ 1000) :
    ∀ D, D ≤ i → ∀ x3 : Int32, x3 = nI D - 1 → ∀ f, D < f → post (ed_oI (mn_sr k T (mn_nm c st en) i t D)) → (wX_definitionMeant_4 post (nI t) f_size f_tokenCount f_itemCount f_blockCount f_openCount f_looseCount a_text a_characterToken a_tokenKind a_tokenStart a_tokenEnd a_tokenItem a_tokenMeaning a_itemFirst a_itemEnd a_itemSort a_itemDepth a_itemBlock a_itemUses a_itemKnown a_itemValue a_blockEnd a_openBlocks a_levelCompares a_levelLeft a_levelSum a_levelProduct f x3) := by
  intro D
  induction D with
  | zero =>
    intro _ x3 hx f hf hP
    obtain ⟨f, rfl⟩ : ∃ g, f = g + 1 := ⟨f - 1, by omega⟩
    subst hx
    exact br_t (by decide) hP
  | succ D ih =>
    intro hD x3 hx f hf hP
    obtain ⟨f, rfl⟩ : ∃ g, f = g + 1 := ⟨f - 1, by omega⟩
    rw [nI_pred] at hx
    subst hx
    have hi4 := (it_Ip k (T + 1)).2.2.2.1
    have hfr := (it_Ip k (T + 1)).1
    have hdi := hi4 D (by omega)
    have hii := hi4 i hi
    have hrc := xb_reach hxb hi (show D ≤ i by omega) ht1 ht2
    have hb : xb_h (it_ik k (T + 1) D) ≤ it_nb k (T + 1) := by
      cases hl : it_ik k (T + 1) D with
      | nil => exact Nat.zero_le _
      | cons b r =>
        have h1 := (it_Cp k (T + 1)).2.1 D (by omega) b (by rw [hl]; exact List.mem_cons_self)
        have h2 := (it_Cp k (T + 1)).2.2.1 D (by omega)
        exact Nat.le_trans h1.2 h2
    have hso : mn_so k T D ≤ 2 := ex_so_le _ _ _
    have eso : a_itemSort (nI D).toNatClampNeg = nI (mn_so k T D) := ed_rt D (hSO D (by omega))
    have eib : a_itemBlock (nI D).toNatClampNeg = nI (xb_h (it_ik k (T + 1) D)) := ed_rt D (hIB D (by omega))
    have efi : a_itemFirst (nI D).toNatClampNeg = nI (it_fi k (T + 1) D) := ed_rt D (hFI D (by omega))
    have hskip : ¬ (mn_so k T D = 2 ∧ mn_rc k T i D = true ∧ mn_nm c st en (it_fi k (T + 1) D) t = true) → (wX_definitionMeant_4 post (nI t) f_size f_tokenCount f_itemCount f_blockCount f_openCount f_looseCount a_text a_characterToken a_tokenKind a_tokenStart a_tokenEnd a_tokenItem a_tokenMeaning a_itemFirst a_itemEnd a_itemSort a_itemDepth a_itemBlock a_itemUses a_itemKnown a_itemValue a_blockEnd a_openBlocks a_levelCompares a_levelLeft a_levelSum a_levelProduct f (nI D + (-1))) := by
      intro hno
      refine ih (by omega) _ (Int32.sub_eq_add_neg _ _).symm f (by omega) ?_
      have e1 : mn_sr k T (mn_nm c st en) i t (D + 1) = mn_sr k T (mn_nm c st en) i t D := by
        show (if _ then _ else _) = _
        rw [if_neg hno]
      rw [e1] at hP; exact hP
    refine br_f (nI_pos (by omega)) ⟨pk_in D 80 (by omega), pk_eq (mn_so k T D) 2 (fun h2 => ⟨pk_in D 80 (by omega), ?_⟩) (fun h2 => ?_) eso⟩
    · rw [eib]
      have heb := heT _ hb
      refine ⟨pk_in (xb_h (it_ik k (T + 1) D)) 81 (by omega), pk_le (e (xb_h (it_ik k (T + 1) D))) t (fun hle => ?_) (fun hgt => ?_) (ed_rt _ (hBE _ (by omega)))⟩
      · refine br_t rfl (nm_e (hskip (fun z => ?_)))
        have := hrc.mpr z.2.1
        omega
      · refine br_f (by decide) ⟨pk_in D 80 (by omega), ?_⟩
        rw [efi]
        refine xm_same hn hT hS hE hX hse hc (by omega) (by omega) (fun hy => br_f (by decide) ?_) (fun hy => br_t rfl (nm_e (hskip (fun z => by rw [hy] at z; exact absurd z.2.2 (by decide)))))
        have e1 : mn_sr k T (mn_nm c st en) i t (D + 1) = some D := by
          show (if _ then _ else _) = _
          rw [if_pos ⟨h2, hrc.mp hgt, hy⟩]
        rw [e1] at hP; exact hP
    · exact br_t rfl (nm_e (hskip (fun z => h2 z.1)))
end
