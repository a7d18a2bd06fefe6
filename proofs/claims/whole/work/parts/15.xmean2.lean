section
/-! X finds the meanings, item by item -/
theorem it_N {k : Nat → Nat} {T : Nat} (h11 : k T = 11) : it_cn k (T + 1) ≤ T := by
  obtain ⟨i1, i2, _⟩ := it_Ip k T
  by_cases e : it_fr k T < T
  · rw [it_cn_c (by omega) e]; omega
  · rw [it_cn_b (by omega) e]; omega
theorem it_M {k : Nat → Nat} {T : Nat} (h11 : k T = 11) : it_nb k (T + 1) ≤ T := by
  rw [it_nb_n (by omega)]; exact (it_Bp k T).1
theorem it_E {k : Nat → Nat} {T i : Nat} (hi : i < it_cn k (T + 1)) : it_fi k (T + 1) i < it_ie k (T + 1) i ∧ it_ie k (T + 1) i ≤ T := by
  have h := (it_Ip k (T + 1)).2.2.2.1 i hi
  have h2 := (it_Ip k (T + 1)).1
  exact ⟨h.1, by omega⟩
theorem xb_le {T : Nat} {e : Nat → Nat} {k : Nat → Nat} (h : xb_I T e (it_bs k (T + 1)) (it_nb k (T + 1)) (it_fr k (T + 1)) (it_cn k (T + 1)) (it_fi k (T + 1)) (it_ie k (T + 1)) (it_in k (T + 1)) (it_ik k (T + 1))) : ∀ b, b ≤ it_nb k (T + 1) → e b ≤ T := by
  intro b hb
  obtain ⟨h1, h2, h3, _⟩ := h
  have hfr := (it_Ip k (T + 1)).1
  by_cases z : b = 0
  · rw [z, h1]; exact Nat.le_refl _
  · by_cases m : b ∈ it_bs k (T + 1)
    · rw [h2 b m]; exact Nat.le_refl _
    · have := h3 b (by omega) hb m; omega
def xp_P (c st en k : Nat → Nat) (T n : Nat) (a_text a_tokenKind a_tokenStart a_tokenEnd a_itemFirst a_itemEnd a_itemSort : Nat → Int32) : Prop :=
  n ≤ 80 ∧ T ≤ 80 ∧ (∀ q, q < T → st q < en q ∧ en q ≤ n) ∧ (∀ j, j < n → c j ≤ 18) ∧ (∀ t, t < T → k t ≤ 10) ∧ k T = 11
  ∧ ed_ag a_text c n ∧ ed_ag a_tokenKind k T ∧ ed_ag a_tokenStart st T ∧ ed_ag a_tokenEnd en T
  ∧ ed_ag a_itemFirst (it_fi k (T + 1)) (it_cn k (T + 1)) ∧ ed_ag a_itemEnd (it_ie k (T + 1)) (it_cn k (T + 1)) ∧ ed_ag a_itemSort (mn_so k T) (it_cn k (T + 1))
def xp_B (k : Nat → Nat) (T : Nat) (a_itemBlock a_blockEnd : Nat → Int32) : Prop :=
  ed_ag a_itemBlock (fun i => xb_h (it_ik k (T + 1) i)) (it_cn k (T + 1)) ∧ ∃ e, ed_ag a_blockEnd e (it_nb k (T + 1) + 1) ∧ xb_I T e (it_bs k (T + 1)) (it_nb k (T + 1)) (it_fr k (T + 1)) (it_cn k (T + 1)) (it_fi k (T + 1)) (it_ie k (T + 1)) (it_in k (T + 1)) (it_ik k (T + 1))
variable {f_size f_tokenCount f_itemCount f_blockCount f_openCount f_looseCount : Int32} {a_text a_characterToken a_tokenKind a_tokenStart a_tokenEnd a_tokenItem a_tokenMeaning a_itemFirst a_itemEnd a_itemSort a_itemDepth a_itemBlock a_itemUses a_itemKnown a_itemValue a_blockEnd a_openBlocks a_levelCompares a_levelLeft a_levelSum a_levelProduct : Nat → Int32}
theorem xm_start {post : Int32 → Prop} {i s f : Nat} (hi : i < 80) (hs : a_itemSort i = nI s) (hs2 : s ≤ 2) (hf : a_itemFirst i = nI f) (h : post (nI (ex_es s f))) : wpX_expressionStart post (f_size, f_tokenCount, f_itemCount, f_blockCount, f_openCount, f_looseCount, a_text, a_characterToken, a_tokenKind, a_tokenStart, a_tokenEnd, a_tokenItem, a_tokenMeaning, a_itemFirst, a_itemEnd, a_itemSort, a_itemDepth, a_itemBlock, a_itemUses, a_itemKnown, a_itemValue, a_blockEnd, a_openBlocks, a_levelCompares, a_levelLeft, a_levelSum, a_levelProduct) (nI i) := by
  refine ⟨pk_in i 80 hi, pk_eq s 2 (fun h2 => ⟨pk_in i 80 hi, ?_⟩) (fun h2 => ⟨pk_in i 80 hi, ?_⟩) (ed_rt i hs)⟩
  · rw [ed_rt i hf, show nI f + 2 = nI (f + 2) from nI_add f 2]
    unfold ex_es at h; rw [if_pos h2] at h; exact h
  · rw [ed_rt i hf]
    unfold ex_es at h; rw [if_neg h2] at h; exact h
theorem xm_mean {post : Int32 → Prop} {c st en k : Nat → Nat} {T n t i : Nat} (hp : xp_P c st en k T n a_text a_tokenKind a_tokenStart a_tokenEnd a_itemFirst a_itemEnd a_itemSort) (hB : xp_B k T a_itemBlock a_blockEnd)
    (hi : i < it_cn k (T + 1)) (ht1 : it_fi k (T + 1) i ≤ t) (ht2 : t < it_ie k (T + 1) i) (h : post (ed_oI (mn_sr k T (mn_nm c st en) i t i))) : wpX_definitionMeant post (f_size, f_tokenCount, f_itemCount, f_blockCount, f_openCount, f_looseCount, a_text, a_characterToken, a_tokenKind, a_tokenStart, a_tokenEnd, a_tokenItem, a_tokenMeaning, a_itemFirst, a_itemEnd, a_itemSort, a_itemDepth, a_itemBlock, a_itemUses, a_itemKnown, a_itemValue, a_blockEnd, a_openBlocks, a_levelCompares, a_levelLeft, a_levelSum, a_levelProduct) (nI t) (nI i) := by
  obtain ⟨h1, h2, h3, h4, h5, h6, h7, h8, h9, h10, h11, h12, h13⟩ := hp
  obtain ⟨b1, e, b2, b3⟩ := hB
  have hN := it_N h6
  have hM := it_M h6
  refine nm_e ⟨i + 1, ?_⟩
  exact xm_def h1 h2 h9 h10 h7 h3 h4 (by omega) hi ht1 ht2 h11 h13 b1 b2 b3 (by omega) (fun b hb => Nat.le_trans (xb_le b3 b hb) (by omega)) i (Nat.le_refl _) _ rfl (i + 1) (by omega) h
theorem xm_in {post : SX → Prop} {c st en k : Nat → Nat} {T n i : Nat} (hp : xp_P c st en k T n a_text a_tokenKind a_tokenStart a_tokenEnd a_itemFirst a_itemEnd a_itemSort) (hB : xp_B k T a_itemBlock a_blockEnd) (hi : i < it_cn k (T + 1)) (hso : mn_so k T i ≠ 0)
    (hP : ∀ a_tokenMeaning a_itemUses : Nat → Int32, ed_ao a_tokenMeaning (mn_mt k T (mn_nm c st en) (i + 1)) T → ed_ag a_itemUses (fun d => mn_ct (mn_mt k T (mn_nm c st en) (i + 1)) d T) (i + 1) → post (f_size, f_tokenCount, f_itemCount, f_blockCount, f_openCount, f_looseCount, a_text, a_characterToken, a_tokenKind, a_tokenStart, a_tokenEnd, a_tokenItem, a_tokenMeaning, a_itemFirst, a_itemEnd, a_itemSort, a_itemDepth, a_itemBlock, a_itemUses, a_itemKnown, a_itemValue, a_blockEnd, a_openBlocks, a_levelCompares, a_levelLeft, a_levelSum, a_levelProduct)) :
    ∀ d t, t + d = it_ie k (T + 1) i → mn_es k T i ≤ t → ∀ f, d < f → ∀ a_tokenMeaning a_itemUses : Nat → Int32, ed_ao a_tokenMeaning (mm_f k T (mn_nm c st en) i t) T → ed_ag a_itemUses (fun d => mn_ct (mm_f k T (mn_nm c st en) i t) d T) (i + 1) →
      (wX_findMeaningsIn_6 post (nI i) f_size f_tokenCount f_itemCount f_blockCount f_openCount f_looseCount f (nI t) a_text a_characterToken a_tokenKind a_tokenStart a_tokenEnd a_tokenItem a_tokenMeaning a_itemFirst a_itemEnd a_itemSort a_itemDepth a_itemBlock a_itemUses a_itemKnown a_itemValue a_blockEnd a_openBlocks a_levelCompares a_levelLeft a_levelSum a_levelProduct) := by
  have hp2 := hp
  obtain ⟨h1, h2, h3, h4, h5, h6, h7, h8, h9, h10, h11, h12, h13⟩ := hp
  have hN := it_N h6
  have hE := it_E hi
  have hes := mn_es_ge k T i
  have eie : a_itemEnd (nI i).toNatClampNeg = nI (it_ie k (T + 1) i) := ed_rt i (h12 i hi)
  intro d
  induction d with
  | zero =>
    intro t ht hge f hf TM US g1 g2
    obtain ⟨f, rfl⟩ : ∃ g, f = g + 1 := ⟨f - 1, by omega⟩
    have e : t = it_ie k (T + 1) i := by omega
    rw [e, mm_e] at g1 g2
    exact ⟨pk_in i 80 (by omega), pk_le (it_ie k (T + 1) i) t (fun _ => hP TM US g1 g2) (fun z => by omega) eie⟩
  | succ d ih =>
    intro t ht hge f hf TM US g1 g2
    obtain ⟨f, rfl⟩ : ∃ g, f = g + 1 := ⟨f - 1, by omega⟩
    have ih := ih (t + 1) (by omega) (by omega) f (by omega)
    have hkt := h5 t (by omega)
    refine ⟨pk_in i 80 (by omega), pk_le (it_ie k (T + 1) i) t (fun z => by omega) (fun _ => ⟨pk_in t 80 (by omega), pk_eq (k t) 0 (fun h0 => ?_) (fun h0 => ?_) (ed_rt t (h8 t (by omega)))⟩) eie⟩
    · refine xm_mean hp2 hB hi (by omega) (by omega) ?_
      have hmt : mn_mt k T (mn_nm c st en) (i + 1) t = mn_sr k T (mn_nm c st en) i t i := by
        show (if _ then _ else _) = _
        rw [if_pos ⟨hso, hge, by omega, h0⟩]
      have hnone := mm_t (nm := mn_nm c st en) hi (show it_fi k (T + 1) i ≤ t by omega)
      have hs := mm_s k T (mn_nm c st en) i t
      rw [hmt] at hs
      refine ⟨pk_in t 80 (by omega), ed_nu t ?_⟩
      have g1' : ed_ao (upd TM t (ed_oI (mn_sr k T (mn_nm c st en) i t i))) (mm_f k T (mn_nm c st en) i (t + 1)) T := by
        rw [hs]
        intro j hj
        by_cases z : j = t
        · subst z; rw [pk_us, ed_fs]
        · rw [pk_un z, ed_fn z]; exact g1 j hj
      cases hd : mn_sr k T (mn_nm c st en) i t i with
      | none =>
        rw [hd] at hs g1'
        rw [mm_same hnone] at hs
        refine br_t rfl (nm_r (nI_1 t) (ih _ US g1' ?_))
        rw [hs]; exact g2
      | some x =>
        have hx := mn_sr_lt hd
        rw [hd] at hs g1'
        refine br_f (ed_m3 (show x < 2 ^ 31 by omega)) ⟨pk_in x 80 (by omega), pk_in x 80 (by omega), ?_⟩
        have hct := mn_ct_le (f := mm_f k T (mn_nm c st en) i t) (d := x) (T := T)
        refine ed_nuv x (nI (mn_ct (mm_f k T (mn_nm c st en) i t) x T + 1)) ?_ (nm_r (nI_1 t) (ih _ _ g1' ?_))
        · rw [ed_rt (x := ed_oI (some x)) x (g2 x (by omega)), nI_1]
        · rw [hs]
          intro y hy
          dsimp only
          rw [mm_ct hnone (by omega)]
          by_cases z : y = x
          · subst z; rw [pk_us, if_pos rfl]
          · rw [pk_un z, if_neg z]; exact g2 y hy
    · have hs := mm_n (T := T) (nm := mn_nm c st en) (i := i) h0
      rw [hs] at ih
      exact nm_r (nI_1 t) (ih TM US g1 g2)
theorem xm_item {post : SX → Prop} {c st en k : Nat → Nat} {T n i : Nat} (hp : xp_P c st en k T n a_text a_tokenKind a_tokenStart a_tokenEnd a_itemFirst a_itemEnd a_itemSort) (hB : xp_B k T a_itemBlock a_blockEnd) (hi : i < it_cn k (T + 1)) (hso : mn_so k T i ≠ 0)
    (g1 : ed_ao a_tokenMeaning (mn_mt k T (mn_nm c st en) i) T) (g2 : ed_ag a_itemUses (fun d => mn_ct (mn_mt k T (mn_nm c st en) i) d T) (i + 1))
    (hP : ∀ a_tokenMeaning a_itemUses : Nat → Int32, ed_ao a_tokenMeaning (mn_mt k T (mn_nm c st en) (i + 1)) T → ed_ag a_itemUses (fun d => mn_ct (mn_mt k T (mn_nm c st en) (i + 1)) d T) (i + 1) → post (f_size, f_tokenCount, f_itemCount, f_blockCount, f_openCount, f_looseCount, a_text, a_characterToken, a_tokenKind, a_tokenStart, a_tokenEnd, a_tokenItem, a_tokenMeaning, a_itemFirst, a_itemEnd, a_itemSort, a_itemDepth, a_itemBlock, a_itemUses, a_itemKnown, a_itemValue, a_blockEnd, a_openBlocks, a_levelCompares, a_levelLeft, a_levelSum, a_levelProduct)) :
    wpX_findMeaningsIn post (f_size, f_tokenCount, f_itemCount, f_blockCount, f_openCount, f_looseCount, a_text, a_characterToken, a_tokenKind, a_tokenStart, a_tokenEnd, a_tokenItem, a_tokenMeaning, a_itemFirst, a_itemEnd, a_itemSort, a_itemDepth, a_itemBlock, a_itemUses, a_itemKnown, a_itemValue, a_blockEnd, a_openBlocks, a_levelCompares, a_levelLeft, a_levelSum, a_levelProduct) (nI i) := by
  have hp2 := hp
  obtain ⟨h1, h2, h3, h4, h5, h6, h7, h8, h9, h10, h11, h12, h13⟩ := hp
  have hN := it_N h6
  have hle : mn_es k T i ≤ it_ie k (T + 1) i := (ex_so_ex (it_E hi).1 hso).2
  unfold wpX_findMeaningsIn
  refine xm_start (by omega) (h13 i hi) (ex_so_le _ _ _) (h11 i hi) ⟨it_ie k (T + 1) i - mn_es k T i + 1, ?_⟩
  refine xm_in hp2 hB hi hso hP (it_ie k (T + 1) i - mn_es k T i) (mn_es k T i) (by omega) (Nat.le_refl _) _ (by omega) _ _ ?_ ?_
  · rw [mm_0]; exact g1
  · rw [mm_0]; exact g2
theorem xm_items {post : SX → Prop} {c st en k : Nat → Nat} {T n : Nat} (hp : xp_P c st en k T n a_text a_tokenKind a_tokenStart a_tokenEnd a_itemFirst a_itemEnd a_itemSort) (hB : xp_B k T a_itemBlock a_blockEnd)
    (hP : ∀ a_tokenMeaning a_itemUses : Nat → Int32, ed_ao a_tokenMeaning (mn_mt k T (mn_nm c st en) (it_cn k (T + 1))) T → ed_ag a_itemUses (fun d => mn_ct (mn_mt k T (mn_nm c st en) (it_cn k (T + 1))) d T) (it_cn k (T + 1)) → post (f_size, nI T, nI (it_cn k (T + 1)), f_blockCount, f_openCount, f_looseCount, a_text, a_characterToken, a_tokenKind, a_tokenStart, a_tokenEnd, a_tokenItem, a_tokenMeaning, a_itemFirst, a_itemEnd, a_itemSort, a_itemDepth, a_itemBlock, a_itemUses, a_itemKnown, a_itemValue, a_blockEnd, a_openBlocks, a_levelCompares, a_levelLeft, a_levelSum, a_levelProduct)) :
    ∀ d i, i + d = it_cn k (T + 1) → ∀ f, d < f → ∀ a_tokenMeaning a_itemUses : Nat → Int32, ed_ao a_tokenMeaning (mn_mt k T (mn_nm c st en) i) T → ed_ag a_itemUses (fun d => mn_ct (mn_mt k T (mn_nm c st en) i) d T) i →
      (wX_findMeanings_26 post f (nI i) f_size (nI T) (nI (it_cn k (T + 1))) f_blockCount f_openCount f_looseCount a_text a_characterToken a_tokenKind a_tokenStart a_tokenEnd a_tokenItem a_tokenMeaning a_itemFirst a_itemEnd a_itemSort a_itemDepth a_itemBlock a_itemUses a_itemKnown a_itemValue a_blockEnd a_openBlocks a_levelCompares a_levelLeft a_levelSum a_levelProduct) := by
  have hN := it_N hp.2.2.2.2.2.1
  have hT := hp.2.1
  intro d
  induction d with
  | zero =>
    intro i hi f hf TM US g1 g2
    obtain ⟨f, rfl⟩ : ∃ g, f = g + 1 := ⟨f - 1, by omega⟩
    have e : i = it_cn k (T + 1) := by omega
    rw [e] at g1 g2
    rw [e]
    exact br_t (nI_le (Nat.le_refl _) (by omega)) (hP TM US g1 g2)
  | succ d ih =>
    intro i hi f hf TM US g1 g2
    obtain ⟨f, rfl⟩ : ∃ g, f = g + 1 := ⟨f - 1, by omega⟩
    have ih := ih (i + 1) (by omega) f (by omega)
    have hs2 : mn_so k T i ≤ 2 := ex_so_le _ _ _
    have g2' : ed_ag (upd US i (nI 0)) (fun d => mn_ct (mn_mt k T (mn_nm c st en) i) d T) (i + 1) := by
      intro j hj
      by_cases z : j = i
      · subst z; rw [pk_us]
        dsimp only
        rw [mn_ct_0 (fun t _ h => Nat.lt_irrefl _ (mn_mt_lt h))]
      · rw [pk_un z]; exact g2 j (by omega)
    refine br_f (nI_ge (by omega) (by omega)) ⟨pk_in i 80 (by omega), ed_nu i ⟨pk_in i 80 (by omega), pk_eq (mn_so k T i) 0 (fun h0 => ?_) (fun h0 => ?_) (ed_rt i (hp.2.2.2.2.2.2.2.2.2.2.2.2 i (by omega)))⟩⟩
    · rw [mm_w h0] at ih
      exact nm_r (nI_1 i) (ih TM _ g1 g2')
    · refine xm_item hp hB (by omega) h0 g1 g2' (fun TM US q1 q2 => ?_)
      exact nm_r (nI_1 i) (ih TM US q1 q2)
theorem xm_clear {post : SX → Prop} {T : Nat} (hT : T ≤ 80) (hP : ∀ a_tokenMeaning : Nat → Int32, (∀ t, t < T → a_tokenMeaning t = -3) → ∃ n26 : Nat, (wX_findMeanings_26 post n26 0 f_size (nI T) f_itemCount f_blockCount f_openCount f_looseCount a_text a_characterToken a_tokenKind a_tokenStart a_tokenEnd a_tokenItem a_tokenMeaning a_itemFirst a_itemEnd a_itemSort a_itemDepth a_itemBlock a_itemUses a_itemKnown a_itemValue a_blockEnd a_openBlocks a_levelCompares a_levelLeft a_levelSum a_levelProduct)) :
    ∀ d t, t + d = T → ∀ f, d < f → ∀ a_tokenMeaning : Nat → Int32, (∀ q, q < t → a_tokenMeaning q = -3) → (wX_findMeanings_2 post f_size (nI T) f_itemCount f_blockCount f_openCount f_looseCount f (nI t) a_text a_characterToken a_tokenKind a_tokenStart a_tokenEnd a_tokenItem a_tokenMeaning a_itemFirst a_itemEnd a_itemSort a_itemDepth a_itemBlock a_itemUses a_itemKnown a_itemValue a_blockEnd a_openBlocks a_levelCompares a_levelLeft a_levelSum a_levelProduct) := by
  intro d
  induction d with
  | zero =>
    intro t ht f hf TM g
    obtain ⟨f, rfl⟩ : ∃ g, f = g + 1 := ⟨f - 1, by omega⟩
    have e : t = T := by omega
    subst e
    exact br_t (nI_le (Nat.le_refl _) (by omega)) (hP TM g)
  | succ d ih =>
    intro t ht f hf TM g
    obtain ⟨f, rfl⟩ : ∃ g, f = g + 1 := ⟨f - 1, by omega⟩
    refine br_f (nI_ge (by omega) (by omega)) ⟨pk_in t 80 (by omega), ed_nu t (nm_r (nI_1 t) (ih (t + 1) (by omega) f (by omega) _ (fun q hq => ?_)))⟩
    by_cases z : q = t
    · rw [z, pk_us]
    · rw [pk_un z]; exact g q (by omega)
theorem xm_find {post : SX → Prop} {c st en k : Nat → Nat} {T n : Nat} (hp : xp_P c st en k T n a_text a_tokenKind a_tokenStart a_tokenEnd a_itemFirst a_itemEnd a_itemSort) (hB : xp_B k T a_itemBlock a_blockEnd)
    (hP : ∀ a_tokenMeaning a_itemUses : Nat → Int32, ed_ao a_tokenMeaning (mn_mt k T (mn_nm c st en) (it_cn k (T + 1))) T → ed_ag a_itemUses (fun d => mn_ct (mn_mt k T (mn_nm c st en) (it_cn k (T + 1))) d T) (it_cn k (T + 1)) → post (f_size, nI T, nI (it_cn k (T + 1)), f_blockCount, f_openCount, f_looseCount, a_text, a_characterToken, a_tokenKind, a_tokenStart, a_tokenEnd, a_tokenItem, a_tokenMeaning, a_itemFirst, a_itemEnd, a_itemSort, a_itemDepth, a_itemBlock, a_itemUses, a_itemKnown, a_itemValue, a_blockEnd, a_openBlocks, a_levelCompares, a_levelLeft, a_levelSum, a_levelProduct)) :
    wpX_findMeanings post (f_size, nI T, nI (it_cn k (T + 1)), f_blockCount, f_openCount, f_looseCount, a_text, a_characterToken, a_tokenKind, a_tokenStart, a_tokenEnd, a_tokenItem, a_tokenMeaning, a_itemFirst, a_itemEnd, a_itemSort, a_itemDepth, a_itemBlock, a_itemUses, a_itemKnown, a_itemValue, a_blockEnd, a_openBlocks, a_levelCompares, a_levelLeft, a_levelSum, a_levelProduct) := by
  refine ⟨T + 1, ?_⟩
  refine xm_clear hp.2.1 (fun TM g => ⟨it_cn k (T + 1) + 1, ?_⟩) T 0 (by omega) _ (by omega) _ (fun q hq => absurd hq (Nat.not_lt_zero _))
  exact xm_items hp hB hP (it_cn k (T + 1)) 0 (by omega) _ (by omega) TM _ (fun q hq => g q hq) (fun q hq => absurd hq (Nat.not_lt_zero _))
end
