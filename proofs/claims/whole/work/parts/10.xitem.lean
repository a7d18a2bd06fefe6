section
/-! X reads the items -/
theorem it_D (k : Nat → Nat) (t : Nat) : (∀ i, i < it_cn k (t + 1) → it_in k (t + 1) i ≤ it_nb k t) ∧ (∀ i, i < it_cn k (t + 1) → ∀ b, b ∈ it_bs k t → b ≤ it_in k (t + 1) i → b ∈ it_ik k (t + 1) i) := by
  obtain ⟨h1, h2, h3, h4⟩ := it_Cp k t
  by_cases e : k t < 8
  · unfold it_in it_ik
    rw [it_cn_a e, it_tb_a e, it_tb_a e]
    exact ⟨h3, h1⟩
  · by_cases e2 : it_fr k t < t
    · unfold it_in it_ik
      rw [it_cn_c e e2, it_tb_c e e2, it_tb_c e e2]
      refine ⟨fun i hi => ?_, fun i hi b hb => ?_⟩
      · by_cases z : i = it_cn k t
        · subst z; rw [ed_fs]; exact Nat.le_refl _
        · rw [ed_fn z]; exact h3 i (by omega)
      · by_cases z : i = it_cn k t
        · subst z; rw [ed_fs, ed_fs]; exact fun _ => hb
        · rw [ed_fn z, ed_fn z]; exact h1 i (by omega) b hb
    · unfold it_in it_ik
      rw [it_cn_b e e2, it_tb_b e e2, it_tb_b e e2]
      exact ⟨h3, h1⟩
theorem xi_top {a : Nat → Int32} {bs : List Nat} (h : ed_sk a (bs.map nI ++ [0])) : a bs.length = nI (xb_h bs) := by
  cases bs with
  | nil => exact h.1
  | cons b r =>
    have e : a (r.map nI ++ [(0 : Int32)]).length = nI b := h.1
    rw [List.length_append, List.length_map] at e
    exact e
theorem xi_len {bs : List Nat} : (bs.map nI ++ [(0 : Int32)]).length = bs.length + 1 := by
  rw [List.length_append, List.length_map]; rfl
def xi_G (T cn nb lo fr : Nat) (bs : List Nat) (fi ie iN : Nat → Nat) (ik : Nat → List Nat) (f_itemCount f_blockCount f_openCount f_looseCount : Int32) (a_itemFirst a_itemEnd a_itemDepth a_itemBlock a_blockEnd a_openBlocks : Nat → Int32) : Prop :=
  f_itemCount = nI cn ∧ f_blockCount = nI nb ∧ f_openCount = nI bs.length ∧ f_looseCount = nI lo
  ∧ ed_ag a_itemFirst fi cn ∧ ed_ag a_itemEnd ie cn ∧ ed_ag a_itemDepth (fun i => (ik i).length) cn ∧ ed_ag a_itemBlock (fun i => xb_h (ik i)) cn
  ∧ ed_sk a_openBlocks (bs.map nI ++ [0]) ∧ ∃ e, ed_ag a_blockEnd e (nb + 1) ∧ xb_I T e bs nb fr cn fi ie iN ik
variable {f_size f_tokenCount f_itemCount f_blockCount f_openCount f_looseCount : Int32} {a_text a_characterToken a_tokenKind a_tokenStart a_tokenEnd a_tokenItem a_tokenMeaning a_itemFirst a_itemEnd a_itemSort a_itemDepth a_itemBlock a_itemUses a_itemKnown a_itemValue a_blockEnd a_openBlocks a_levelCompares a_levelLeft a_levelSum a_levelProduct : Nat → Int32}
theorem xi_add {post : SX → Prop} {m f t l b : Nat} (hm : f < t → m < 80) (hl : l < 81) (ht : t < 1000) (hf : f < 1000) (ho : a_openBlocks l = nI b)
    (h1 : f < t → post (f_size, f_tokenCount, nI (m + 1), f_blockCount, nI l, f_looseCount, a_text, a_characterToken, a_tokenKind, a_tokenStart, a_tokenEnd, a_tokenItem, a_tokenMeaning, upd a_itemFirst m (nI f), upd a_itemEnd m (nI t), a_itemSort, upd a_itemDepth m (nI l), upd a_itemBlock m (nI b), a_itemUses, a_itemKnown, a_itemValue, a_blockEnd, a_openBlocks, a_levelCompares, a_levelLeft, a_levelSum, a_levelProduct))
    (h0 : ¬ f < t → post (f_size, f_tokenCount, nI m, f_blockCount, nI l, f_looseCount, a_text, a_characterToken, a_tokenKind, a_tokenStart, a_tokenEnd, a_tokenItem, a_tokenMeaning, a_itemFirst, a_itemEnd, a_itemSort, a_itemDepth, a_itemBlock, a_itemUses, a_itemKnown, a_itemValue, a_blockEnd, a_openBlocks, a_levelCompares, a_levelLeft, a_levelSum, a_levelProduct)) : wpX_addItem post (f_size, f_tokenCount, nI m, f_blockCount, nI l, f_looseCount, a_text, a_characterToken, a_tokenKind, a_tokenStart, a_tokenEnd, a_tokenItem, a_tokenMeaning, a_itemFirst, a_itemEnd, a_itemSort, a_itemDepth, a_itemBlock, a_itemUses, a_itemKnown, a_itemValue, a_blockEnd, a_openBlocks, a_levelCompares, a_levelLeft, a_levelSum, a_levelProduct) (nI f) (nI t) :=
  pk_le t f (fun h => h0 (by omega)) (fun h => ⟨pk_in m 80 (hm h), ed_nu m (⟨pk_in m 80 (hm h), ed_nu m (⟨pk_in m 80 (hm h), ed_nu m (⟨pk_in l 81 hl, pk_in m 80 (hm h), ed_nuv m (nI b) (ed_rt l ho) (nm_r (nI_1 m) (h1 h)) rfl (by have := hm h; omega)⟩) rfl (by have := hm h; omega)⟩) rfl (by have := hm h; omega)⟩) rfl (by have := hm h; omega)⟩)
theorem xi_addG {post : SX → Prop} {k : Nat → Nat} {T t lo : Nat} (ht : t ≤ T) (hT : T ≤ 80) (h8 : ¬ k t < 8)
    (hG : xi_G T (it_cn k t) (it_nb k t) lo (it_fr k t) (it_bs k t) (it_fi k t) (it_ie k t) (it_in k t) (it_ik k t) f_itemCount f_blockCount f_openCount f_looseCount a_itemFirst a_itemEnd a_itemDepth a_itemBlock a_blockEnd a_openBlocks)
    (h : ∀ (f_itemCount : Int32) (a_itemFirst a_itemEnd a_itemDepth a_itemBlock : Nat → Int32), xi_G T (it_cn k (t + 1)) (it_nb k t) lo (t + 1) (it_bs k t) (it_fi k (t + 1)) (it_ie k (t + 1)) (it_in k (t + 1)) (it_ik k (t + 1)) f_itemCount f_blockCount f_openCount f_looseCount a_itemFirst a_itemEnd a_itemDepth a_itemBlock a_blockEnd a_openBlocks → post (f_size, f_tokenCount, f_itemCount, f_blockCount, f_openCount, f_looseCount, a_text, a_characterToken, a_tokenKind, a_tokenStart, a_tokenEnd, a_tokenItem, a_tokenMeaning, a_itemFirst, a_itemEnd, a_itemSort, a_itemDepth, a_itemBlock, a_itemUses, a_itemKnown, a_itemValue, a_blockEnd, a_openBlocks, a_levelCompares, a_levelLeft, a_levelSum, a_levelProduct)) :
    wpX_addItem post (f_size, f_tokenCount, f_itemCount, f_blockCount, f_openCount, f_looseCount, a_text, a_characterToken, a_tokenKind, a_tokenStart, a_tokenEnd, a_tokenItem, a_tokenMeaning, a_itemFirst, a_itemEnd, a_itemSort, a_itemDepth, a_itemBlock, a_itemUses, a_itemKnown, a_itemValue, a_blockEnd, a_openBlocks, a_levelCompares, a_levelLeft, a_levelSum, a_levelProduct) (nI (it_fr k t)) (nI t) := by
  obtain ⟨rfl, rfl, rfl, rfl, g5, g6, g7, g8, g9, e, g10, g11⟩ := hG
  obtain ⟨i1, i2, i3, i4, i5, i6⟩ := it_Ip k t
  obtain ⟨b1, b2, b3, b4⟩ := it_Bp k t
  refine xi_add (by omega) (by omega) (by omega) (by omega) (xi_top g9) (fun hlt => ?_) (fun hlt => ?_)
  · refine h _ _ _ _ _ ?_
    have q := xb_fr (fr' := t + 1) (xb_add g11 ht) (by omega)
    unfold it_fi it_ie it_in it_ik
    rw [it_cn_c h8 hlt, it_tb_c h8 hlt, it_tb_c h8 hlt, it_tb_c h8 hlt, it_tb_c h8 hlt]
    refine ⟨rfl, rfl, rfl, rfl, ed_ag_s g5, ed_ag_s g6, ?_, ?_, g9, e, g10, q⟩
    · intro j hj
      by_cases z : j = it_cn k t
      · subst z; rw [pk_us]; dsimp only; rw [ed_fs]
      · rw [pk_un z]; dsimp only; rw [ed_fn z]; exact g7 j (by omega)
    · intro j hj
      by_cases z : j = it_cn k t
      · subst z; rw [pk_us]; dsimp only; rw [ed_fs]
      · rw [pk_un z]; dsimp only; rw [ed_fn z]; exact g8 j (by omega)
  · refine h _ _ _ _ _ ?_
    unfold it_fi it_ie it_in it_ik
    rw [it_cn_b h8 hlt, it_tb_b h8 hlt, it_tb_b h8 hlt, it_tb_b h8 hlt, it_tb_b h8 hlt]
    exact ⟨rfl, rfl, rfl, rfl, g5, g6, g7, g8, g9, e, g10, xb_fr g11 (by omega)⟩
theorem xi_blk {post : SX → Prop} {k : Nat → Nat} {T t : Nat} (ht : t < T) (hT : T ≤ 80) (hk : ed_ag a_tokenKind k T) (h10 : k t ≤ 10) (h8 : ¬ k t < 8)
    (hG : xi_G T (it_cn k (t + 1)) (it_nb k t) (it_lo k t) (t + 1) (it_bs k t) (it_fi k (t + 1)) (it_ie k (t + 1)) (it_in k (t + 1)) (it_ik k (t + 1)) f_itemCount f_blockCount f_openCount f_looseCount a_itemFirst a_itemEnd a_itemDepth a_itemBlock a_blockEnd a_openBlocks)
    (h : ∀ (f_blockCount f_openCount f_looseCount : Int32) (a_blockEnd a_openBlocks : Nat → Int32), xi_G T (it_cn k (t + 1)) (it_nb k (t + 1)) (it_lo k (t + 1)) (it_fr k (t + 1)) (it_bs k (t + 1)) (it_fi k (t + 1)) (it_ie k (t + 1)) (it_in k (t + 1)) (it_ik k (t + 1)) f_itemCount f_blockCount f_openCount f_looseCount a_itemFirst a_itemEnd a_itemDepth a_itemBlock a_blockEnd a_openBlocks → post (f_size, nI T, f_itemCount, f_blockCount, f_openCount, f_looseCount, a_text, a_characterToken, a_tokenKind, a_tokenStart, a_tokenEnd, a_tokenItem, a_tokenMeaning, a_itemFirst, a_itemEnd, a_itemSort, a_itemDepth, a_itemBlock, a_itemUses, a_itemKnown, a_itemValue, a_blockEnd, a_openBlocks, a_levelCompares, a_levelLeft, a_levelSum, a_levelProduct)) :
    wpX_openOrCloseBlock post (f_size, nI T, f_itemCount, f_blockCount, f_openCount, f_looseCount, a_text, a_characterToken, a_tokenKind, a_tokenStart, a_tokenEnd, a_tokenItem, a_tokenMeaning, a_itemFirst, a_itemEnd, a_itemSort, a_itemDepth, a_itemBlock, a_itemUses, a_itemKnown, a_itemValue, a_blockEnd, a_openBlocks, a_levelCompares, a_levelLeft, a_levelSum, a_levelProduct) (nI t) := by
  obtain ⟨rfl, rfl, rfl, rfl, g5, g6, g7, g8, g9, e, g10, g11⟩ := hG
  obtain ⟨b1, b2, b3, b4⟩ := it_Bp k t
  obtain ⟨d1, d2⟩ := it_D k t
  have hie := (it_Ip k (t + 1)).2.2.2.1
  rw [it_fr_b h8] at hie h
  have ek : a_tokenKind (nI t).toNatClampNeg = nI (k t) := ed_rt t (hk t ht)
  refine ⟨pk_in t 80 (by omega), pk_eq (k t) 9 (fun h9 => ?_) (fun h9 => ⟨pk_in t 80 (by omega), pk_eq (k t) 10 (fun h10 => ?_) (fun h10 => ⟨pk_in t 80 (by omega), pk_eq (k t) 10 (fun z => absurd z h10) (fun _ => ?_) ek⟩) ek⟩) ek⟩
  · refine nm_r (nI_1 _) ⟨pk_in (it_nb k t + 1) 81 (by omega), ed_nu (it_nb k t + 1) (nm_r (nI_1 _) ⟨pk_in ((it_bs k t).length + 1) 81 (by omega), ed_nu ((it_bs k t).length + 1) ?_⟩)⟩
    refine h _ _ _ _ _ ?_
    rw [it_nb_9 h9, it_bs_9 h9, it_lo_n (by omega)]
    refine ⟨rfl, rfl, rfl, rfl, g5, g6, g7, g8, ?_, ed_fu e (it_nb k t + 1) T, ed_ag_s g10, xb_open g11 (fun b hb => (b3 b hb).2) d1⟩
    have := ed_sk_p (x := nI (it_nb k t + 1)) g9
    rw [xi_len] at this
    exact this
  · cases hb : it_bs k t with
    | nil =>
      refine br_t rfl (nm_r (nI_1 _) (h _ _ _ _ _ ?_))
      rw [it_nb_n h9, it_bs_10 h10, it_lo_p h10 hb, hb]
      rw [hb] at g9 g11
      exact ⟨rfl, rfl, rfl, rfl, g5, g6, g7, g8, g9, e, g10, g11⟩
    | cons b r =>
      have hbm : b ∈ it_bs k t := by rw [hb]; exact List.mem_cons_self
      obtain ⟨hb1, hb2⟩ := b3 b hbm
      have hl : (it_bs k t).length = r.length + 1 := by rw [hb]; rfl
      have e1 : a_openBlocks (it_bs k t).length = nI b := by
        have := xi_top g9
        rw [hb] at this; rw [hb]; exact this
      refine br_f (nI_ne0 (by rw [List.length_cons]; omega) (by rw [← hb]; omega)) ?_
      refine ⟨pk_in t 80 (by omega), br_t (by rw [ek, h10]; rfl) ⟨pk_in (r.length + 1) 81 (by omega), ?_⟩⟩
      rw [hl] at e1
      have e2 : a_openBlocks (nI (b :: r).length).toNatClampNeg = nI b := ed_rt (r.length + 1) e1
      rw [e2]
      refine ⟨pk_in b 81 (by omega), ed_nu b (nm_r (e' := nI r.length) ?_ (h _ _ _ _ _ ?_))⟩
      · exact nI_pred _
      · rw [it_nb_n h9, it_bs_10 h10, it_lo_n (by rintro ⟨_, z⟩; rw [hb] at z; cases z), hb]
        rw [hb] at g9 g11 b4
        have hbr : ¬ b ∈ r := by
          cases b4 with
          | cons x _ => intro z; have := x b z; omega
        refine ⟨rfl, rfl, rfl, rfl, g5, g6, g7, g8, g9.2, ed_fu e b t, ed_ag_p g10, xb_close g11 hb1 hbr (fun i hi => by have := (hie i hi).2.1; omega) (fun i hi => d2 i hi b hbm)⟩
  · refine h _ _ _ _ _ ?_
    rw [it_nb_n h9, it_bs_n h9 h10, it_lo_n (by omega)]
    exact ⟨rfl, rfl, rfl, rfl, g5, g6, g7, g8, g9, e, g10, g11⟩
theorem xi_loop {post : SX → Prop} {k : Nat → Nat} {T : Nat} (hT : T ≤ 80) (hk : ed_ag a_tokenKind k T) (h10 : ∀ t, t < T → k t ≤ 10) (h11 : k T = 11)
    (hP : ∀ (f_blockCount f_openCount : Int32) (a_tokenItem a_itemFirst a_itemEnd a_itemDepth a_itemBlock a_blockEnd a_openBlocks : Nat → Int32), ed_ao a_tokenItem (it_ow k) T → ed_ag a_itemFirst (it_fi k (T + 1)) (it_cn k (T + 1)) → ed_ag a_itemEnd (it_ie k (T + 1)) (it_cn k (T + 1)) → ed_ag a_itemDepth (fun i => (it_ik k (T + 1) i).length) (it_cn k (T + 1)) → ed_ag a_itemBlock (fun i => xb_h (it_ik k (T + 1) i)) (it_cn k (T + 1)) →
      (∃ e, ed_ag a_blockEnd e (it_nb k (T + 1) + 1) ∧ xb_I T e (it_bs k (T + 1)) (it_nb k (T + 1)) (it_fr k (T + 1)) (it_cn k (T + 1)) (it_fi k (T + 1)) (it_ie k (T + 1)) (it_in k (T + 1)) (it_ik k (T + 1))) → post (f_size, nI T, nI (it_cn k (T + 1)), f_blockCount, f_openCount, nI (it_lo k (T + 1) + (it_bs k (T + 1)).length), a_text, a_characterToken, a_tokenKind, a_tokenStart, a_tokenEnd, a_tokenItem, a_tokenMeaning, a_itemFirst, a_itemEnd, a_itemSort, a_itemDepth, a_itemBlock, a_itemUses, a_itemKnown, a_itemValue, a_blockEnd, a_openBlocks, a_levelCompares, a_levelLeft, a_levelSum, a_levelProduct)) :
    ∀ d t, t + d = T → ∀ f, d < f → ∀ (f_itemCount f_blockCount f_openCount f_looseCount : Int32) (a_tokenItem a_itemFirst a_itemEnd a_itemDepth a_itemBlock a_blockEnd a_openBlocks : Nat → Int32),
      xi_G T (it_cn k t) (it_nb k t) (it_lo k t) (it_fr k t) (it_bs k t) (it_fi k t) (it_ie k t) (it_in k t) (it_ik k t) f_itemCount f_blockCount f_openCount f_looseCount a_itemFirst a_itemEnd a_itemDepth a_itemBlock a_blockEnd a_openBlocks → ed_ao a_tokenItem (it_ow k) t →
      (wX_readItems_41 post f (nI (it_fr k t)) (nI t) f_size (nI T) f_itemCount f_blockCount f_openCount f_looseCount a_text a_characterToken a_tokenKind a_tokenStart a_tokenEnd a_tokenItem a_tokenMeaning a_itemFirst a_itemEnd a_itemSort a_itemDepth a_itemBlock a_itemUses a_itemKnown a_itemValue a_blockEnd a_openBlocks a_levelCompares a_levelLeft a_levelSum a_levelProduct) := by
  intro d
  induction d with
  | zero =>
    intro t ht f hf IC BC OC LC TI IF IE ID IB BE OB hG hW
    obtain ⟨f, rfl⟩ : ∃ g, f = g + 1 := ⟨f - 1, by omega⟩
    have e : t = T := by omega
    subst e
    refine br_t (nI_le (Nat.le_refl _) (by omega)) ?_
    refine xi_addG (Nat.le_refl _) hT (by omega) hG (fun IC IF IE ID IB hG => ?_)
    obtain ⟨rfl, rfl, rfl, rfl, g5, g6, g7, g8, g9, e, g10, g11⟩ := hG
    refine nm_r (nI_add _ _) ?_
    have hP := hP (nI (it_nb k t)) (nI (it_bs k t).length) TI IF IE ID IB BE OB
    rw [it_nb_n (by omega), it_bs_n (by omega) (by omega), it_lo_n (by omega), it_fr_b (by omega)] at hP
    exact hP hW g5 g6 g7 g8 ⟨e, g10, g11⟩
  | succ d ih =>
    intro t ht f hf IC BC OC LC TI IF IE ID IB BE OB hG hW
    obtain ⟨f, rfl⟩ : ∃ g, f = g + 1 := ⟨f - 1, by omega⟩
    have ih := ih (t + 1) (by omega) f (by omega)
    have ek : a_tokenKind (nI t).toNatClampNeg = nI (k t) := ed_rt t (hk t (by omega))
    have hkt := h10 t (by omega)
    refine br_f (nI_ge (by omega) (by omega)) ⟨pk_in t 80 (by omega), pk_le 8 (k t) (fun h8 => ?_) (fun h8 => ?_) rfl ek⟩
    · refine ⟨pk_in t 80 (by omega), ed_nu t ?_⟩
      have hW2 : ed_ao (upd TI t (-3)) (it_ow k) (t + 1) := by
        intro j hj
        by_cases z : j = t
        · subst z; rw [pk_us]; unfold it_ow; rw [if_neg (by omega)]; rfl
        · rw [pk_un z]; exact hW j (by omega)
      refine xi_addG (by omega) hT (by omega) hG (fun IC IF IE ID IB hG => ?_)
      refine xi_blk (by omega) hT hk hkt (by omega) hG (fun BC OC LC BE OB hG => ?_)
      refine nm_r (nI_1 t) (nm_r (nI_1 t) ?_)
      have ih := ih IC BC OC LC (upd TI t (-3)) IF IE ID IB BE OB hG hW2
      rw [it_fr_b (by omega)] at ih
      exact ih
    · refine ⟨pk_in t 80 (by omega), ed_nu t (nm_r (nI_1 t) ?_)⟩
      have hic : IC = nI (it_cn k t) := hG.1
      have hW2 : ed_ao (upd TI t IC) (it_ow k) (t + 1) := by
        intro j hj
        by_cases z : j = t
        · subst z; rw [pk_us]; unfold it_ow; rw [if_pos (by omega)]; exact hic
        · rw [pk_un z]; exact hW j (by omega)
      have h8' : k t < 8 := by omega
      unfold it_fi it_ie it_in it_ik at ih
      rw [it_cn_a h8', it_nb_n (by omega), it_lo_n (by omega), it_fr_a h8', it_bs_n (by omega) (by omega), it_tb_a h8', it_tb_a h8', it_tb_a h8', it_tb_a h8'] at ih
      exact ih IC BC OC LC (upd TI t IC) IF IE ID IB BE OB hG hW2
theorem xi_read {post : SX → Prop} {k : Nat → Nat} {T : Nat} (hT : T ≤ 80) (hk : ed_ag a_tokenKind k T) (h10 : ∀ t, t < T → k t ≤ 10) (h11 : k T = 11)
    (hP : ∀ (f_blockCount f_openCount : Int32) (a_tokenItem a_itemFirst a_itemEnd a_itemDepth a_itemBlock a_blockEnd a_openBlocks : Nat → Int32), ed_ao a_tokenItem (it_ow k) T → ed_ag a_itemFirst (it_fi k (T + 1)) (it_cn k (T + 1)) → ed_ag a_itemEnd (it_ie k (T + 1)) (it_cn k (T + 1)) → ed_ag a_itemDepth (fun i => (it_ik k (T + 1) i).length) (it_cn k (T + 1)) → ed_ag a_itemBlock (fun i => xb_h (it_ik k (T + 1) i)) (it_cn k (T + 1)) →
      (∃ e, ed_ag a_blockEnd e (it_nb k (T + 1) + 1) ∧ xb_I T e (it_bs k (T + 1)) (it_nb k (T + 1)) (it_fr k (T + 1)) (it_cn k (T + 1)) (it_fi k (T + 1)) (it_ie k (T + 1)) (it_in k (T + 1)) (it_ik k (T + 1))) → post (f_size, nI T, nI (it_cn k (T + 1)), f_blockCount, f_openCount, nI (it_lo k (T + 1) + (it_bs k (T + 1)).length), a_text, a_characterToken, a_tokenKind, a_tokenStart, a_tokenEnd, a_tokenItem, a_tokenMeaning, a_itemFirst, a_itemEnd, a_itemSort, a_itemDepth, a_itemBlock, a_itemUses, a_itemKnown, a_itemValue, a_blockEnd, a_openBlocks, a_levelCompares, a_levelLeft, a_levelSum, a_levelProduct)) :
    wpX_readItems post (f_size, nI T, f_itemCount, f_blockCount, f_openCount, f_looseCount, a_text, a_characterToken, a_tokenKind, a_tokenStart, a_tokenEnd, a_tokenItem, a_tokenMeaning, a_itemFirst, a_itemEnd, a_itemSort, a_itemDepth, a_itemBlock, a_itemUses, a_itemKnown, a_itemValue, a_blockEnd, a_openBlocks, a_levelCompares, a_levelLeft, a_levelSum, a_levelProduct) := by
  refine nm_e (nm_e ⟨T + 1, ?_⟩)
  refine xi_loop hT hk h10 h11 hP T 0 (by omega) (T + 1) (by omega) 0 0 0 0 _ _ _ _ _ _ _ ⟨rfl, rfl, rfl, rfl, ?_, ?_, ?_, ?_, ?_, fun _ => T, ?_, ?_⟩ (fun j hj => absurd hj (Nat.not_lt_zero _))
  · exact fun j hj => absurd hj (Nat.not_lt_zero _)
  · exact fun j hj => absurd hj (Nat.not_lt_zero _)
  · exact fun j hj => absurd hj (Nat.not_lt_zero _)
  · exact fun j hj => absurd hj (Nat.not_lt_zero _)
  · exact ⟨pk_us, trivial⟩
  · intro j hj
    have e : j = 0 := by have : it_nb k 0 = 0 := rfl; omega
    subst e; exact pk_us
  · refine ⟨rfl, fun b hb => rfl, fun b h1 h2 => ?_, fun i hi => absurd hi (Nat.not_lt_zero _)⟩
    have : it_nb k 0 = 0 := rfl
    omega
end
