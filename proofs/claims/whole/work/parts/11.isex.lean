section
/-! what is an expression: both sides follow ex_r -/
theorem ed_nb1 : vp_nar .boolean 1 = 1 := by
  first
  | rfl
  | (unfold vp_nar; rw [show narrow .boolean (.int 1) = .int 1 from lw_bz_n 1])
  | decide
theorem ed_nb0 : vp_nar .boolean 0 = 0 := by
  first
  | rfl
  | (unfold vp_nar; rw [show narrow .boolean (.int 0) = .int 0 from lw_bz_n 0])
  | decide
theorem ed_bk_t {a : Nat → Int32} {b d : Bool} {r : List Bool} (h : ed_bk a (b :: r)) : ed_bk (upd a r.length (ed_bI d)) (d :: r) := ⟨pk_us, ed_bk_u (Nat.le_refl _) h.2⟩
theorem ed_bI1 : ed_bI true = 1 := rfl
theorem ed_bI0 : ed_bI false = 0 := rfl
variable {f_size f_tokenCount f_itemCount f_blockCount f_openCount f_looseCount : Int32} {a_text a_characterToken a_tokenKind a_tokenStart a_tokenEnd a_tokenItem a_tokenMeaning a_itemFirst a_itemEnd a_itemSort a_itemDepth a_itemBlock a_itemUses a_itemKnown a_itemValue a_blockEnd a_openBlocks a_levelCompares a_levelLeft a_levelSum a_levelProduct : Nat → Int32}
theorem xe_loop {post : Int32 → SX → Prop} {k : Nat → Nat} {T e : Nat} (hT : T ≤ 80) (he : e ≤ T) (hk : ed_ag a_tokenKind k T) (hkk : ∀ t, t < T → k t < 100) :
    ∀ d t, t + d = e → ∀ f, d < f → ∀ (w : Bool) (b : Bool) (r : List Bool) (a_levelCompares : Nat → Int32), r.length ≤ t → ed_bk a_levelCompares (b :: r) → (∀ a_levelCompares : Nat → Int32, post (ed_bI (ex_r k d t w (b :: r))) (f_size, f_tokenCount, f_itemCount, f_blockCount, f_openCount, f_looseCount, a_text, a_characterToken, a_tokenKind, a_tokenStart, a_tokenEnd, a_tokenItem, a_tokenMeaning, a_itemFirst, a_itemEnd, a_itemSort, a_itemDepth, a_itemBlock, a_itemUses, a_itemKnown, a_itemValue, a_blockEnd, a_openBlocks, a_levelCompares, a_levelLeft, a_levelSum, a_levelProduct)) →
      (wX_isExpression_15 post (nI e) f_size f_tokenCount f_itemCount f_blockCount f_openCount f_looseCount f (nI r.length) (ed_bI w) (nI t) a_text a_characterToken a_tokenKind a_tokenStart a_tokenEnd a_tokenItem a_tokenMeaning a_itemFirst a_itemEnd a_itemSort a_itemDepth a_itemBlock a_itemUses a_itemKnown a_itemValue a_blockEnd a_openBlocks a_levelCompares a_levelLeft a_levelSum a_levelProduct) := by
  intro d
  induction d with
  | zero =>
    intro t ht f hf w b r LC hr hb hP
    obtain ⟨f, rfl⟩ : ∃ g, f = g + 1 := ⟨f - 1, by omega⟩
    refine br_t (nI_le (by omega) (by omega)) ?_
    cases w with
    | true => exact br_f (by decide) (hP LC)
    | false =>
      refine br_t rfl (pk_eq r.length 0 (fun z => ?_) (fun z => ?_))
      · have e1 : ex_r k 0 t false (b :: r) = true := by
          show (true && ((b :: r).length == 1)) = true
          rw [List.length_cons, z]; rfl
        rw [e1] at hP; exact hP LC
      · have e1 : ex_r k 0 t false (b :: r) = false := by
          show (true && ((b :: r).length == 1)) = false
          rw [List.length_cons, Bool.true_and]
          exact beq_false_of_ne (by omega)
        rw [e1] at hP; exact hP LC
  | succ d ih =>
    intro t ht f hf w b r LC hr hb hP
    obtain ⟨f, rfl⟩ : ∃ g, f = g + 1 := ⟨f - 1, by omega⟩
    have ih := ih (t + 1) (by omega) f (by omega)
    have hkt := hkk t (by omega)
    refine br_f (nI_ge (by omega) (by omega)) ⟨pk_in t 80 (by omega), ed_rd t (hk t (by omega)) ?_⟩
    cases w with
    | true =>
      refine br_f (by decide) (pk_eq (k t) 6 (fun h6 => ?_) (fun h6 => ?_))
      · rw [ex_w6 h6] at hP
        refine nm_r (nI_1 _) ⟨pk_in (r.length + 1) 81 (by omega), ed_nuv (r.length + 1) (ed_bI false) ed_nb0 (nm_r (nI_1 t) ?_)⟩
        exact ih true false (b :: r) _ (by rw [List.length_cons]; omega) (ed_bk_p hb) hP
      · refine br_f (by decide) (pk_eq (k t) 0 (fun h0 => ?_) (fun h0 => pk_eq (k t) 1 (fun h1 => ?_) (fun h1 => ?_)))
        · rw [ex_w1 (by omega)] at hP
          exact nm_r (nI_1 t) (ih false b r LC (by omega) hb hP)
        · rw [ex_w1 (by omega)] at hP
          exact nm_r (nI_1 t) (ih false b r LC (by omega) hb hP)
        · rw [ex_wn (by omega) h6] at hP
          exact br_f (by decide) (br_f (by decide) (br_f (by decide) (hP LC)))
    | false =>
      refine br_t rfl (br_t rfl (br_t rfl ?_))
      have h99 : ¬ (k t = 7 ∧ 0 < r.length) → (wX_isExpression_99 post (wX_isExpression_15 post (nI e) f_size f_tokenCount f_itemCount f_blockCount f_openCount f_looseCount f) (nI e) (nI r.length) (ed_bI false) (nI t) (nI (k t)) f_size f_tokenCount f_itemCount f_blockCount f_openCount f_looseCount a_text a_characterToken a_tokenKind a_tokenStart a_tokenEnd a_tokenItem a_tokenMeaning a_itemFirst a_itemEnd a_itemSort a_itemDepth a_itemBlock a_itemUses a_itemKnown a_itemValue a_blockEnd a_openBlocks LC a_levelLeft a_levelSum a_levelProduct) := by
        intro hn
        refine br_t rfl (pk_eq (k t) 4 (fun h4 => ?_) (fun h4 => pk_eq (k t) 5 (fun h5 => ?_) (fun h5 => br_t rfl (pk_eq (k t) 3 (fun h3 => ?_) (fun h3 => ?_)))))
        · rw [ex_f4 (by omega)] at hP
          exact nm_r (nI_1 t) (ih true b r LC (by omega) hb hP)
        · rw [ex_f4 (by omega)] at hP
          exact nm_r (nI_1 t) (ih true b r LC (by omega) hb hP)
        · have eb : LC (nI r.length).toNatClampNeg = ed_bI b := ed_rt r.length hb.1
          refine ⟨pk_in r.length 81 (by omega), ?_⟩
          cases b with
          | true =>
            rw [ex_f3n h3] at hP
            exact br_f (by rw [eb]; decide) (hP LC)
          | false =>
            rw [ex_f3 h3] at hP
            exact br_t eb ⟨pk_in r.length 81 (by omega), ed_nuv r.length (ed_bI true) ed_nb1 (nm_r (nI_1 t) (ih true true r _ (by omega) (ed_bk_t hb) hP))⟩
        · by_cases h7 : k t = 7
          · have hr0 : r = [] := List.eq_nil_of_length_eq_zero (by omega)
            subst hr0
            rw [ex_f7n h7] at hP
            exact hP LC
          · rw [ex_fn h7 h4 h5 h3] at hP
            exact hP LC
      refine pk_eq (k t) 7 (fun h7 => pk_le r.length 0 (fun hr0 => h99 (by omega)) (fun hr0 => ?_)) (fun h7 => h99 (by omega))
      cases r with
      | nil => exact absurd hr0 (Nat.lt_irrefl _)
      | cons b2 r2 =>
        rw [ex_f7 h7] at hP
        refine nm_r (pk_m1 r2.length) (nm_r (nI_1 t) ?_)
        exact ih false b2 r2 LC (by rw [List.length_cons] at hr; omega) hb.2 hP
theorem xe_is {post : Int32 → SX → Prop} {k : Nat → Nat} {T s e : Nat} (hT : T ≤ 80) (he : e ≤ T) (hs : s ≤ e) (hk : ed_ag a_tokenKind k T) (hkk : ∀ t, t < T → k t < 100)
    (hP : ∀ a_levelCompares : Nat → Int32, post (ed_bI (ex_r k (e - s) s true [false])) (f_size, f_tokenCount, f_itemCount, f_blockCount, f_openCount, f_looseCount, a_text, a_characterToken, a_tokenKind, a_tokenStart, a_tokenEnd, a_tokenItem, a_tokenMeaning, a_itemFirst, a_itemEnd, a_itemSort, a_itemDepth, a_itemBlock, a_itemUses, a_itemKnown, a_itemValue, a_blockEnd, a_openBlocks, a_levelCompares, a_levelLeft, a_levelSum, a_levelProduct)) : wpX_isExpression post (f_size, f_tokenCount, f_itemCount, f_blockCount, f_openCount, f_looseCount, a_text, a_characterToken, a_tokenKind, a_tokenStart, a_tokenEnd, a_tokenItem, a_tokenMeaning, a_itemFirst, a_itemEnd, a_itemSort, a_itemDepth, a_itemBlock, a_itemUses, a_itemKnown, a_itemValue, a_blockEnd, a_openBlocks, a_levelCompares, a_levelLeft, a_levelSum, a_levelProduct) (nI s) (nI e) := by
  refine nm_e ⟨e - s + 1, ?_⟩
  rw [ed_nb0]
  exact xe_loop hT he hk hkk (e - s) s (by omega) _ (by omega) true false [] _ (Nat.zero_le _) ⟨pk_us, trivial⟩ hP
/-- the sort of an item -/
theorem xe_sort {post : Int32 → SX → Prop} {k : Nat → Nat} {T s e : Nat} (hT : T ≤ 80) (he : e ≤ T) (hs : s < e) (hk : ed_ag a_tokenKind k T) (hkk : ∀ t, t < T → k t < 100) (h11 : k T = 11)
    (hP : ∀ a_levelCompares : Nat → Int32, post (nI (ex_so k s e)) (f_size, nI T, f_itemCount, f_blockCount, f_openCount, f_looseCount, a_text, a_characterToken, a_tokenKind, a_tokenStart, a_tokenEnd, a_tokenItem, a_tokenMeaning, a_itemFirst, a_itemEnd, a_itemSort, a_itemDepth, a_itemBlock, a_itemUses, a_itemKnown, a_itemValue, a_blockEnd, a_openBlocks, a_levelCompares, a_levelLeft, a_levelSum, a_levelProduct)) : wpX_sortBetween post (f_size, nI T, f_itemCount, f_blockCount, f_openCount, f_looseCount, a_text, a_characterToken, a_tokenKind, a_tokenStart, a_tokenEnd, a_tokenItem, a_tokenMeaning, a_itemFirst, a_itemEnd, a_itemSort, a_itemDepth, a_itemBlock, a_itemUses, a_itemKnown, a_itemValue, a_blockEnd, a_openBlocks, a_levelCompares, a_levelLeft, a_levelSum, a_levelProduct) (nI s) (nI e) := by
  refine pk_le T e (fun h => ?_) (fun h => ?_)
  · have e1 : e = T := by omega
    have e2 : ex_so k s e = 0 := by unfold ex_so; rw [if_neg (by rw [e1]; omega)]
    rw [e2] at hP; exact hP _
  · have hke := hkk e h
    refine ⟨pk_in e 80 (by omega), pk_eq (k e) 8 (fun h8 => ?_) (fun h8 => ?_) (ed_rt e (hk e h))⟩
    · refine xe_is hT he (by omega) hk hkk (fun LC => ?_)
      by_cases hx : ex_r k (e - s) s true [false] = true
      · have e2 : ex_so k s e = 1 := by
          unfold ex_so; rw [if_pos h8, if_neg, if_pos hx]
          rintro ⟨z1, z2, z3⟩
          rw [ex_so_def z1 z3 (by omega)] at hx; cases hx
        rw [hx]; rw [e2] at hP
        exact br_f (by decide) (hP LC)
      · have hx : ex_r k (e - s) s true [false] = false := by cases h : ex_r k (e - s) s true [false]; rfl; exact absurd h hx
        rw [hx]
        have hks := hkk s (by omega)
        have hks1 := hkk (s + 1) (by omega)
        have h0 : ¬ (k s = 0 ∧ 1 < e - s ∧ k (s + 1) = 2) → ex_so k s e = 0 := by
          intro z; unfold ex_so; rw [if_pos h8, if_neg z, if_neg (by rw [hx]; decide)]
        refine br_t rfl ⟨pk_in s 80 (by omega), pk_eq (k s) 0 (fun z0 => ⟨pk_in (s + 1) 80 (by omega) (nI_1 s), pk_eq (k (s + 1)) 2 (fun z2 => ?_) (fun z2 => ?_) (ed_rt (s + 1) (hk (s + 1) (by omega)) (nI_1 s))⟩) (fun z0 => ?_) (ed_rt s (hk s (by omega)))⟩
        · have hl : s + 2 ≤ e := by
            by_cases y : e = s + 1
            · rw [y] at h8; omega
            · omega
          refine br_f (by decide) ?_
          rw [show nI s + 2 = nI (s + 2) from nI_add s 2]
          refine xe_is hT he hl hk hkk (fun LC => ?_)
          by_cases hx2 : ex_r k (e - (s + 2)) (s + 2) true [false] = true
          · have e2 : ex_so k s e = 2 := by unfold ex_so; rw [if_pos h8, if_pos ⟨z0, by omega, z2⟩, if_pos hx2]
            rw [hx2]; rw [e2] at hP
            exact br_f (by decide) (hP LC)
          · have e2 : ex_so k s e = 0 := by unfold ex_so; rw [if_pos h8, if_pos ⟨z0, by omega, z2⟩, if_neg hx2]
            have hx2 : ex_r k (e - (s + 2)) (s + 2) true [false] = false := by cases h : ex_r k (e - (s + 2)) (s + 2) true [false]; rfl; exact absurd h hx2
            rw [hx2]; rw [e2] at hP
            exact br_t rfl (hP LC)
        · rw [h0 (by omega)] at hP
          exact br_t rfl (hP LC)
        · rw [h0 (by omega)] at hP
          exact br_t rfl (hP LC)
    · have e2 : ex_so k s e = 0 := by unfold ex_so; rw [if_neg h8]
      rw [e2] at hP; exact hP _
theorem xe_sorts {post : SX → Prop} {k fi ie : Nat → Nat} {T N : Nat} (hT : T ≤ 80) (hN : N ≤ 80) (hk : ed_ag a_tokenKind k T) (hkk : ∀ t, t < T → k t < 100) (h11 : k T = 11) (hfi : ed_ag a_itemFirst fi N) (hie : ed_ag a_itemEnd ie N) (hfe : ∀ i, i < N → fi i < ie i ∧ ie i ≤ T)
    (hP : ∀ (a_itemSort a_levelCompares : Nat → Int32), ed_ag a_itemSort (fun i => ex_so k (fi i) (ie i)) N → post (f_size, nI T, nI N, f_blockCount, f_openCount, f_looseCount, a_text, a_characterToken, a_tokenKind, a_tokenStart, a_tokenEnd, a_tokenItem, a_tokenMeaning, a_itemFirst, a_itemEnd, a_itemSort, a_itemDepth, a_itemBlock, a_itemUses, a_itemKnown, a_itemValue, a_blockEnd, a_openBlocks, a_levelCompares, a_levelLeft, a_levelSum, a_levelProduct)) :
    ∀ d i, i + d = N → ∀ f, d < f → ∀ (a_itemSort a_levelCompares : Nat → Int32), ed_ag a_itemSort (fun i => ex_so k (fi i) (ie i)) i → (wX_sortItems_2 post f (nI i) f_size (nI T) (nI N) f_blockCount f_openCount f_looseCount a_text a_characterToken a_tokenKind a_tokenStart a_tokenEnd a_tokenItem a_tokenMeaning a_itemFirst a_itemEnd a_itemSort a_itemDepth a_itemBlock a_itemUses a_itemKnown a_itemValue a_blockEnd a_openBlocks a_levelCompares a_levelLeft a_levelSum a_levelProduct) := by
  intro d
  induction d with
  | zero =>
    intro i hi f hf IS LC h1
    obtain ⟨f, rfl⟩ : ∃ g, f = g + 1 := ⟨f - 1, by omega⟩
    have e : i = N := by omega
    subst e
    exact br_t (nI_le (Nat.le_refl _) (by omega)) (hP IS LC h1)
  | succ d ih =>
    intro i hi f hf IS LC h1
    obtain ⟨f, rfl⟩ : ∃ g, f = g + 1 := ⟨f - 1, by omega⟩
    have hf2 := hfe i (by omega)
    refine br_f (nI_ge (by omega) (by omega)) ⟨pk_in i 80 (by omega), pk_in i 80 (by omega), ?_⟩
    rw [ed_rt i (hfi i (by omega)), ed_rt i (hie i (by omega))]
    refine xe_sort hT hf2.2 hf2.1 hk hkk h11 (fun LC => ?_)
    refine ⟨pk_in i 80 (by omega), ed_nu i (nm_r (nI_1 i) ?_)⟩
    refine ih (i + 1) (by omega) f (by omega) _ LC ?_
    intro j hj
    by_cases z : j = i
    · subst z; rw [pk_us]
    · rw [pk_un z]; exact h1 j (by omega)
end
