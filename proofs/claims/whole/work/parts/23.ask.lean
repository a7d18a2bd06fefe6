section
/-! the other questions -/
theorem yq_rd {post : SY → Prop} {c : Nat → Nat} {n : Nat} {v : SY} (hn : n ≤ 80) (hc : ∀ j, j < n → c j ≤ 18) (hY : ed_RY c n v) (h : ∀ (f_blockCount f_numberCount f_operatorCount : Int32) (a_kinds a_starts a_ends a_owners a_meant a_firsts a_lasts a_sorts a_blocks a_knowns a_values a_around a_depths a_compared a_numbers a_operators : Nat → Int32) (a_text : Nat → Int32), ed_ag a_text c n → yd_D c n (nI (pq_T c n)) (nI (pq_N c n)) (nI (pq_L c n)) a_kinds a_starts a_ends a_owners a_meant a_firsts a_sorts a_blocks a_knowns a_values a_around a_depths → post (nI n, nI (pq_T c n), nI (pq_N c n), f_blockCount, nI (pq_L c n), f_numberCount, f_operatorCount, a_text, a_kinds, a_starts, a_ends, a_owners, a_meant, a_firsts, a_lasts, a_sorts, a_blocks, a_knowns, a_values, a_around, a_depths, a_compared, a_numbers, a_operators)) : wpY_read post v := by
  obtain ⟨f_length, f_tokenCount, f_itemCount, f_blockCount, f_looseCount, f_numberCount, f_operatorCount, a_text, a_kinds, a_starts, a_ends, a_owners, a_meant, a_firsts, a_lasts, a_sorts, a_blocks, a_knowns, a_values, a_around, a_depths, a_compared, a_numbers, a_operators⟩ := v
  obtain ⟨rfl, hT⟩ := hY
  refine yr_read hn hc hT (fun f_tokenCount f_itemCount f_blockCount f_looseCount f_numberCount f_operatorCount a_kinds a_starts a_ends a_owners a_meant a_firsts a_lasts a_sorts a_blocks a_knowns a_values a_around a_depths a_compared a_numbers a_operators hD => ?_)
  have hD2 := hD
  obtain ⟨rfl, rfl, rfl, _⟩ := hD
  exact h f_blockCount f_numberCount f_operatorCount a_kinds a_starts a_ends a_owners a_meant a_firsts a_lasts a_sorts a_blocks a_knowns a_values a_around a_depths a_compared a_numbers a_operators a_text hT hD2
theorem yq_isItem {post : Int32 → SY → Prop} {c : Nat → Nat} {n : Nat} {v : SY} {x : Int32} (hn : n ≤ 80) (hc : ∀ j, j < n → c j ≤ 18) (hY : ed_RY c n v) (h0 : (x < 0 ∨ nI (pq_N c n) ≤ x) → ∀ (f_blockCount f_numberCount f_operatorCount : Int32) (a_kinds a_starts a_ends a_owners a_meant a_firsts a_lasts a_sorts a_blocks a_knowns a_values a_around a_depths a_compared a_numbers a_operators : Nat → Int32) (a_text : Nat → Int32), ed_ag a_text c n → yd_D c n (nI (pq_T c n)) (nI (pq_N c n)) (nI (pq_L c n)) a_kinds a_starts a_ends a_owners a_meant a_firsts a_sorts a_blocks a_knowns a_values a_around a_depths → post 0 (nI n, nI (pq_T c n), nI (pq_N c n), f_blockCount, nI (pq_L c n), f_numberCount, f_operatorCount, a_text, a_kinds, a_starts, a_ends, a_owners, a_meant, a_firsts, a_lasts, a_sorts, a_blocks, a_knowns, a_values, a_around, a_depths, a_compared, a_numbers, a_operators)) (h1 : ∀ j, j < pq_N c n → x = nI j → ∀ (f_blockCount f_numberCount f_operatorCount : Int32) (a_kinds a_starts a_ends a_owners a_meant a_firsts a_lasts a_sorts a_blocks a_knowns a_values a_around a_depths a_compared a_numbers a_operators : Nat → Int32) (a_text : Nat → Int32), ed_ag a_text c n → yd_D c n (nI (pq_T c n)) (nI (pq_N c n)) (nI (pq_L c n)) a_kinds a_starts a_ends a_owners a_meant a_firsts a_sorts a_blocks a_knowns a_values a_around a_depths → post 1 (nI n, nI (pq_T c n), nI (pq_N c n), f_blockCount, nI (pq_L c n), f_numberCount, f_operatorCount, a_text, a_kinds, a_starts, a_ends, a_owners, a_meant, a_firsts, a_lasts, a_sorts, a_blocks, a_knowns, a_values, a_around, a_depths, a_compared, a_numbers, a_operators)) : wpY_isItem post v x := by
  obtain ⟨f_length, f_tokenCount, f_itemCount, f_blockCount, f_looseCount, f_numberCount, f_operatorCount, a_text, a_kinds, a_starts, a_ends, a_owners, a_meant, a_firsts, a_lasts, a_sorts, a_blocks, a_knowns, a_values, a_around, a_depths, a_compared, a_numbers, a_operators⟩ := v
  obtain ⟨rfl, hT⟩ := hY
  obtain ⟨hTT, hNN⟩ := pq_b hn hc
  unfold wpY_isItem
  refine yr_read hn hc hT (fun f_tokenCount f_itemCount f_blockCount f_looseCount f_numberCount f_operatorCount a_kinds a_starts a_ends a_owners a_meant a_firsts a_lasts a_sorts a_blocks a_knowns a_values a_around a_depths a_compared a_numbers a_operators hD => ?_)
  have hD2 := hD
  obtain ⟨rfl, rfl, rfl, _⟩ := hD
  rcases ed_ix x (n := pq_N c n) (by omega) with z | z | ⟨j, hj, rfl⟩
  · exact br_t z (h0 (Or.inl z) f_blockCount f_numberCount f_operatorCount a_kinds a_starts a_ends a_owners a_meant a_firsts a_lasts a_sorts a_blocks a_knowns a_values a_around a_depths a_compared a_numbers a_operators a_text hT hD2)
  · exact br_f z.1 (br_t z.2 (h0 (Or.inr z.2) f_blockCount f_numberCount f_operatorCount a_kinds a_starts a_ends a_owners a_meant a_firsts a_lasts a_sorts a_blocks a_knowns a_values a_around a_depths a_compared a_numbers a_operators a_text hT hD2))
  · exact br_f (nI_pos (by omega)) (br_f (nI_ge hj (by omega)) (h1 j hj rfl f_blockCount f_numberCount f_operatorCount a_kinds a_starts a_ends a_owners a_meant a_firsts a_lasts a_sorts a_blocks a_knowns a_values a_around a_depths a_compared a_numbers a_operators a_text hT hD2))
theorem xq_isItem {post : Int32 → Prop} (f_size f_tokenCount f_blockCount f_openCount f_looseCount : Int32) (a_text a_characterToken a_tokenKind a_tokenStart a_tokenEnd a_tokenItem a_tokenMeaning a_itemFirst a_itemEnd a_itemSort a_itemDepth a_itemBlock a_itemUses a_itemKnown a_itemValue a_blockEnd a_openBlocks a_levelCompares a_levelLeft a_levelSum a_levelProduct : Nat → Int32) {N : Nat} {x : Int32} (hN : N ≤ 80) (h0 : (x < 0 ∨ nI N ≤ x) → post 0) (h1 : ∀ j, j < N → x = nI j → post 1) : wpX_isItem post (f_size, f_tokenCount, nI N, f_blockCount, f_openCount, f_looseCount, a_text, a_characterToken, a_tokenKind, a_tokenStart, a_tokenEnd, a_tokenItem, a_tokenMeaning, a_itemFirst, a_itemEnd, a_itemSort, a_itemDepth, a_itemBlock, a_itemUses, a_itemKnown, a_itemValue, a_blockEnd, a_openBlocks, a_levelCompares, a_levelLeft, a_levelSum, a_levelProduct) x := by
  rcases ed_ix x (n := N) (by omega) with z | z | ⟨j, hj, rfl⟩
  · exact br_t z (h0 (Or.inl z))
  · exact br_f z.1 (br_t z.2 (h0 (Or.inr z.2)))
  · exact br_f (nI_pos (by omega)) (br_f (nI_ge hj (by omega)) (h1 j hj rfl))
theorem yq_depth {post : Int32 → SY → Prop} {c : Nat → Nat} {n : Nat} {v : SY} {x : Int32} (hn : n ≤ 80) (hc : ∀ j, j < n → c j ≤ 18) (hY : ed_RY c n v) (h : ∀ v', ed_RY c n v' → post (qa (pq_N c n) (fun i => nI (it_ik (pq_K c n) (pq_T c n + 1) i).length) (-3) x) v') : wpY_depth post v x := by
  obtain ⟨hTT, hNN⟩ := pq_b hn hc
  obtain ⟨p1, p2, p3, p4⟩ := pq_f hn hc
  have hM := it_M p4
  obtain ⟨f_length, f_tokenCount, f_itemCount, f_blockCount, f_looseCount, f_numberCount, f_operatorCount, a_text, a_kinds, a_starts, a_ends, a_owners, a_meant, a_firsts, a_lasts, a_sorts, a_blocks, a_knowns, a_values, a_around, a_depths, a_compared, a_numbers, a_operators⟩ := v
  unfold wpY_depth
  refine yq_isItem hn hc hY (fun z f_blockCount f_numberCount f_operatorCount a_kinds a_starts a_ends a_owners a_meant a_firsts a_lasts a_sorts a_blocks a_knowns a_values a_around a_depths a_compared a_numbers a_operators a_text hT hD => ?_) (fun j hj hx f_blockCount f_numberCount f_operatorCount a_kinds a_starts a_ends a_owners a_meant a_firsts a_lasts a_sorts a_blocks a_knowns a_values a_around a_depths a_compared a_numbers a_operators a_text hT hD => ?_)
  · have h := h (nI n, nI (pq_T c n), nI (pq_N c n), f_blockCount, nI (pq_L c n), f_numberCount, f_operatorCount, a_text, a_kinds, a_starts, a_ends, a_owners, a_meant, a_firsts, a_lasts, a_sorts, a_blocks, a_knowns, a_values, a_around, a_depths, a_compared, a_numbers, a_operators) ⟨rfl, hT⟩
    rw [qa_lo z] at h
    exact br_t rfl h
  · have h := h (nI n, nI (pq_T c n), nI (pq_N c n), f_blockCount, nI (pq_L c n), f_numberCount, f_operatorCount, a_text, a_kinds, a_starts, a_ends, a_owners, a_meant, a_firsts, a_lasts, a_sorts, a_blocks, a_knowns, a_values, a_around, a_depths, a_compared, a_numbers, a_operators) ⟨rfl, hT⟩
    subst hx
    rw [qa_hi (by omega) hj] at h
    obtain ⟨e1, e2, e3, e4, e5, e6, e7, e8, e9, e10, e11, e12, e13, e14⟩ := hD
    refine br_f (by decide) ⟨pk_in j 80 (by omega), ?_⟩
    have e : a_blocks (nI j).toNatClampNeg = yc_h (it_ik (pq_K c n) (pq_T c n + 1) j) := ed_rt j (e11 j hj)
    rw [e]
    have hb := (it_Cp (pq_K c n) (pq_T c n + 1)).2.1 j hj
    have hb2 := (it_Cp (pq_K c n) (pq_T c n + 1)).2.2.1 j hj
    have e12 := e12 j hj
    cases hl : it_ik (pq_K c n) (pq_T c n + 1) j with
    | nil =>
      rw [hl] at h
      exact br_f (show ¬ (0 : Int32) ≤ -1 by decide) h
    | cons b r =>
      rw [hl] at h e12 hb
      have hb3 := hb b List.mem_cons_self
      have e2' : a_depths (nI (b - 1)).toNatClampNeg = nI (r.length + 1) := ed_rt (b - 1) e12.2.2.1
      refine br_t (show (0 : Int32) ≤ nI (b - 1) from nI_pos' (by omega)) ⟨pk_in j 80 (by omega), pk_in (b - 1) 80 (by omega), ?_⟩
      show post (a_depths (nI (b - 1)).toNatClampNeg) _
      rw [e2']; exact h
theorem xq_known {post : Int32 → Prop} {c : Nat → Nat} {n : Nat} {u : SX} {x : Int32} (hn : n ≤ 80) (hc : ∀ j, j < n → c j ≤ 18) (hX : ed_RX c n u) (h : post (qa (pq_N c n) (fun i => ed_bI (pq_V c n i).1) 0 x)) : wpX_known post u x := by
  obtain ⟨f_size, f_tokenCount, f_itemCount, f_blockCount, f_openCount, f_looseCount, a_text, a_characterToken, a_tokenKind, a_tokenStart, a_tokenEnd, a_tokenItem, a_tokenMeaning, a_itemFirst, a_itemEnd, a_itemSort, a_itemDepth, a_itemBlock, a_itemUses, a_itemKnown, a_itemValue, a_blockEnd, a_openBlocks, a_levelCompares, a_levelLeft, a_levelSum, a_levelProduct⟩ := u
  obtain ⟨rfl, hT, hD⟩ := hX
  obtain ⟨rfl, rfl, rfl, d4, d5, d6, d7, d8, d9, d10, d11, d12, d13, d14⟩ := hD
  obtain ⟨hTT, hNN⟩ := pq_b hn hc
  unfold wpX_known
  refine xq_isItem _ _ _ _ _ _ _ _ _ _ _ _ _ _ _ _ _ _ _ _ _ _ _ _ _ _ hNN (fun z => ?_) (fun j hj hx => ?_)
  · rw [qa_lo z] at h; exact br_t rfl h
  · subst hx
    rw [qa_hi (by omega) hj] at h
    have e : a_itemKnown (nI j).toNatClampNeg = ed_bI (pq_V c n j).1 := ed_rt j (d13 j hj)
    refine br_f (by decide) ⟨pk_in j 80 (by omega), ?_⟩
    cases hb : (pq_V c n j).1 with
    | false => rw [hb] at h e; exact br_t e h
    | true => rw [hb] at h e; exact br_f (by rw [e]; decide) h
theorem yq_known {post : Int32 → SY → Prop} {c : Nat → Nat} {n : Nat} {v : SY} {x : Int32} (hn : n ≤ 80) (hc : ∀ j, j < n → c j ≤ 18) (hY : ed_RY c n v) (h : ∀ v', ed_RY c n v' → post (qa (pq_N c n) (fun i => ed_bI (pq_V c n i).1) 0 x) v') : wpY_known post v x := by
  obtain ⟨hTT, hNN⟩ := pq_b hn hc
  obtain ⟨f_length, f_tokenCount, f_itemCount, f_blockCount, f_looseCount, f_numberCount, f_operatorCount, a_text, a_kinds, a_starts, a_ends, a_owners, a_meant, a_firsts, a_lasts, a_sorts, a_blocks, a_knowns, a_values, a_around, a_depths, a_compared, a_numbers, a_operators⟩ := v
  unfold wpY_known
  refine yq_isItem hn hc hY (fun z f_blockCount f_numberCount f_operatorCount a_kinds a_starts a_ends a_owners a_meant a_firsts a_lasts a_sorts a_blocks a_knowns a_values a_around a_depths a_compared a_numbers a_operators a_text hT hD => ?_) (fun j hj hx f_blockCount f_numberCount f_operatorCount a_kinds a_starts a_ends a_owners a_meant a_firsts a_lasts a_sorts a_blocks a_knowns a_values a_around a_depths a_compared a_numbers a_operators a_text hT hD => ?_)
  · have h := h (nI n, nI (pq_T c n), nI (pq_N c n), f_blockCount, nI (pq_L c n), f_numberCount, f_operatorCount, a_text, a_kinds, a_starts, a_ends, a_owners, a_meant, a_firsts, a_lasts, a_sorts, a_blocks, a_knowns, a_values, a_around, a_depths, a_compared, a_numbers, a_operators) ⟨rfl, hT⟩
    rw [qa_lo z] at h
    exact br_t rfl h
  · have h := h (nI n, nI (pq_T c n), nI (pq_N c n), f_blockCount, nI (pq_L c n), f_numberCount, f_operatorCount, a_text, a_kinds, a_starts, a_ends, a_owners, a_meant, a_firsts, a_lasts, a_sorts, a_blocks, a_knowns, a_values, a_around, a_depths, a_compared, a_numbers, a_operators) ⟨rfl, hT⟩
    subst hx
    rw [qa_hi (by omega) hj] at h
    obtain ⟨e1, e2, e3, e4, e5, e6, e7, e8, e9, e10, e11, e12, e13, e14⟩ := hD
    have e : a_knowns (nI j).toNatClampNeg = ed_bI (pq_V c n j).1 := ed_rt j (e13 j hj)
    refine br_f (by decide) ⟨pk_in j 80 (by omega), ?_⟩
    cases hb : (pq_V c n j).1 with
    | false => rw [hb] at h e; exact br_t e h
    | true => rw [hb] at h e; exact br_f (by rw [e]; decide) h
theorem xq_value {post : Int32 → Prop} {c : Nat → Nat} {n : Nat} {u : SX} {x : Int32} (hn : n ≤ 80) (hc : ∀ j, j < n → c j ≤ 18) (hX : ed_RX c n u) (h : post (qa (pq_N c n) (fun i => (pq_V c n i).2) 0 x)) : wpX_value post u x := by
  obtain ⟨f_size, f_tokenCount, f_itemCount, f_blockCount, f_openCount, f_looseCount, a_text, a_characterToken, a_tokenKind, a_tokenStart, a_tokenEnd, a_tokenItem, a_tokenMeaning, a_itemFirst, a_itemEnd, a_itemSort, a_itemDepth, a_itemBlock, a_itemUses, a_itemKnown, a_itemValue, a_blockEnd, a_openBlocks, a_levelCompares, a_levelLeft, a_levelSum, a_levelProduct⟩ := u
  obtain ⟨rfl, hT, hD⟩ := hX
  obtain ⟨rfl, rfl, rfl, d4, d5, d6, d7, d8, d9, d10, d11, d12, d13, d14⟩ := hD
  obtain ⟨hTT, hNN⟩ := pq_b hn hc
  unfold wpX_value
  refine xq_isItem _ _ _ _ _ _ _ _ _ _ _ _ _ _ _ _ _ _ _ _ _ _ _ _ _ _ hNN (fun z => ?_) (fun j hj hx => ?_)
  · rw [qa_lo z] at h; exact br_t rfl h
  · subst hx
    rw [qa_hi (by omega) hj] at h
    have e : a_itemKnown (nI j).toNatClampNeg = ed_bI (pq_V c n j).1 := ed_rt j (d13 j hj)
    have e2 : a_itemValue (nI j).toNatClampNeg = (pq_V c n j).2 := ed_rt j (d14 j hj)
    refine br_f (by decide) ⟨pk_in j 80 (by omega), ?_⟩
    cases hb : (pq_V c n j).1 with
    | false => rw [pq_V0 hb] at h; rw [hb] at e; exact br_t e h
    | true => rw [hb] at e; exact br_f (by rw [e]; decide) ⟨pk_in j 80 (by omega), by rw [e2]; exact h⟩
theorem yq_value {post : Int32 → SY → Prop} {c : Nat → Nat} {n : Nat} {v : SY} {x : Int32} (hn : n ≤ 80) (hc : ∀ j, j < n → c j ≤ 18) (hY : ed_RY c n v) (h : ∀ v', ed_RY c n v' → post (qa (pq_N c n) (fun i => (pq_V c n i).2) 0 x) v') : wpY_value post v x := by
  obtain ⟨hTT, hNN⟩ := pq_b hn hc
  obtain ⟨f_length, f_tokenCount, f_itemCount, f_blockCount, f_looseCount, f_numberCount, f_operatorCount, a_text, a_kinds, a_starts, a_ends, a_owners, a_meant, a_firsts, a_lasts, a_sorts, a_blocks, a_knowns, a_values, a_around, a_depths, a_compared, a_numbers, a_operators⟩ := v
  unfold wpY_value
  refine yq_isItem hn hc hY (fun z f_blockCount f_numberCount f_operatorCount a_kinds a_starts a_ends a_owners a_meant a_firsts a_lasts a_sorts a_blocks a_knowns a_values a_around a_depths a_compared a_numbers a_operators a_text hT hD => ?_) (fun j hj hx f_blockCount f_numberCount f_operatorCount a_kinds a_starts a_ends a_owners a_meant a_firsts a_lasts a_sorts a_blocks a_knowns a_values a_around a_depths a_compared a_numbers a_operators a_text hT hD => ?_)
  · have h := h (nI n, nI (pq_T c n), nI (pq_N c n), f_blockCount, nI (pq_L c n), f_numberCount, f_operatorCount, a_text, a_kinds, a_starts, a_ends, a_owners, a_meant, a_firsts, a_lasts, a_sorts, a_blocks, a_knowns, a_values, a_around, a_depths, a_compared, a_numbers, a_operators) ⟨rfl, hT⟩
    rw [qa_lo z] at h
    exact br_t rfl h
  · have h := h (nI n, nI (pq_T c n), nI (pq_N c n), f_blockCount, nI (pq_L c n), f_numberCount, f_operatorCount, a_text, a_kinds, a_starts, a_ends, a_owners, a_meant, a_firsts, a_lasts, a_sorts, a_blocks, a_knowns, a_values, a_around, a_depths, a_compared, a_numbers, a_operators) ⟨rfl, hT⟩
    subst hx
    rw [qa_hi (by omega) hj] at h
    obtain ⟨e1, e2, e3, e4, e5, e6, e7, e8, e9, e10, e11, e12, e13, e14⟩ := hD
    have e : a_values (nI j).toNatClampNeg = (pq_V c n j).2 := ed_rt j (e14 j hj)
    refine br_f (by decide) ⟨pk_in j 80 (by omega), ?_⟩
    rw [e]; exact h
end
