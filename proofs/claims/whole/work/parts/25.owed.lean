section
/-! what is owed for the questions -/
theorem i_vc_kind {k : Nat} {u : SX} {v : SY} (I : i_Rel k u v) (hk : k + 5 ≤ 2560) (v1 : Int32) : wpX_kind (fun r => wpY_kind (fun r' v' => r' = r ∧ i_Rel (k + 5) u v') v v1) u v1 := by
  obtain ⟨c, n, hn, hc, hX, hY⟩ := I
  exact xq_kind hn hc hX (yq_kind hn hc hY (fun v' h => ⟨rfl, c, n, hn, hc, hX, h⟩))
theorem i_vc_start {k : Nat} {u : SX} {v : SY} (I : i_Rel k u v) (hk : k + 5 ≤ 2560) (v1 : Int32) : wpX_start (fun r => wpY_start (fun r' v' => r' = r ∧ i_Rel (k + 5) u v') v v1) u v1 := by
  obtain ⟨c, n, hn, hc, hX, hY⟩ := I
  exact xq_start hn hc hX (yq_start hn hc hY (fun v' h => ⟨rfl, c, n, hn, hc, hX, h⟩))
theorem i_vc_tokenAt {k : Nat} {u : SX} {v : SY} (I : i_Rel k u v) (hk : k + 5 ≤ 2560) (v1 : Int32) : wpX_tokenAt (fun r => wpY_tokenAt (fun r' v' => r' = r ∧ i_Rel (k + 5) u v') v v1) u v1 := by
  obtain ⟨c, n, hn, hc, hX, hY⟩ := I
  exact xq_tokenAt hn hc hX (yq_tokenAt hn hc hY (fun v' h => ⟨rfl, c, n, hn, hc, hX, h⟩))
theorem i_vc_sort {k : Nat} {u : SX} {v : SY} (I : i_Rel k u v) (hk : k + 5 ≤ 2560) (v1 : Int32) : wpX_sort (fun r => wpY_sort (fun r' v' => r' = r ∧ i_Rel (k + 5) u v') v v1) u v1 := by
  obtain ⟨c, n, hn, hc, hX, hY⟩ := I
  exact xq_sort hn hc hX (yq_sort hn hc hY (fun v' h => ⟨rfl, c, n, hn, hc, hX, h⟩))
theorem i_vc_itemOf {k : Nat} {u : SX} {v : SY} (I : i_Rel k u v) (hk : k + 5 ≤ 2560) (v1 : Int32) : wpX_itemOf (fun r => wpY_itemOf (fun r' v' => r' = r ∧ i_Rel (k + 5) u v') v v1) u v1 := by
  obtain ⟨c, n, hn, hc, hX, hY⟩ := I
  exact xq_itemOf hn hc hX (yq_itemOf hn hc hY (fun v' h => ⟨rfl, c, n, hn, hc, hX, h⟩))
theorem i_vc_depth {k : Nat} {u : SX} {v : SY} (I : i_Rel k u v) (hk : k + 5 ≤ 2560) (v1 : Int32) : wpX_depth (fun r => wpY_depth (fun r' v' => r' = r ∧ i_Rel (k + 5) u v') v v1) u v1 := by
  obtain ⟨c, n, hn, hc, hX, hY⟩ := I
  exact xq_depth hn hc hX (yq_depth hn hc hY (fun v' h => ⟨rfl, c, n, hn, hc, hX, h⟩))
theorem i_vc_known {k : Nat} {u : SX} {v : SY} (I : i_Rel k u v) (hk : k + 5 ≤ 2560) (v1 : Int32) : wpX_known (fun r => wpY_known (fun r' v' => r' = r ∧ i_Rel (k + 5) u v') v v1) u v1 := by
  obtain ⟨c, n, hn, hc, hX, hY⟩ := I
  exact xq_known hn hc hX (yq_known hn hc hY (fun v' h => ⟨rfl, c, n, hn, hc, hX, h⟩))
theorem i_vc_value {k : Nat} {u : SX} {v : SY} (I : i_Rel k u v) (hk : k + 5 ≤ 2560) (v1 : Int32) : wpX_value (fun r => wpY_value (fun r' v' => r' = r ∧ i_Rel (k + 5) u v') v v1) u v1 := by
  obtain ⟨c, n, hn, hc, hX, hY⟩ := I
  exact xq_value hn hc hX (yq_value hn hc hY (fun v' h => ⟨rfl, c, n, hn, hc, hX, h⟩))
theorem i_vc_meaning {k : Nat} {u : SX} {v : SY} (I : i_Rel k u v) (hk : k + 5 ≤ 2560) (v1 : Int32) : wpX_meaning (fun r => wpY_meaning (fun r' v' => r' = r ∧ i_Rel (k + 5) u v') v v1) u v1 := by
  obtain ⟨c, n, hn, hc, hX, hY⟩ := I
  exact xq_meaning hn hc hX (yq_meaning hn hc hY (fun v' h => ⟨rfl, c, n, hn, hc, hX, h⟩))
theorem i_vc_uses {k : Nat} {u : SX} {v : SY} (I : i_Rel k u v) (hk : k + 5 ≤ 2560) (v1 : Int32) : wpX_uses (fun r => wpY_uses (fun r' v' => r' = r ∧ i_Rel (k + 5) u v') v v1) u v1 := by
  obtain ⟨c, n, hn, hc, hX, hY⟩ := I
  exact xq_uses hn hc hX (yq_uses hn hc hY (fun v' h => ⟨rfl, c, n, hn, hc, hX, h⟩))
theorem i_vc_character {k : Nat} {u : SX} {v : SY} (I : i_Rel k u v) (hk : k + 5 ≤ 2560) (v1 : Int32) : wpX_character (fun r => wpY_character (fun r' => r' = r ∧ i_Rel (k + 5) u v) v v1) u v1 := by
  have I2 := I
  obtain ⟨c, n, hn, hc, hX, hY⟩ := I
  exact xq_character hn hc hX (yq_character hn hc hY ⟨rfl, I2⟩)
theorem i_vc_length {k : Nat} {u : SX} {v : SY} (I : i_Rel k u v) (hk : k + 5 ≤ 2560) : wpX_length (fun r => wpY_length (fun r' => r' = r ∧ i_Rel (k + 5) u v) v) u := by
  have I2 := I
  obtain ⟨c, n, hn, hc, hX, hY⟩ := I
  obtain ⟨f_size, f_tokenCount, f_itemCount, f_blockCount, f_openCount, f_looseCount, a_text, a_characterToken, a_tokenKind, a_tokenStart, a_tokenEnd, a_tokenItem, a_tokenMeaning, a_itemFirst, a_itemEnd, a_itemSort, a_itemDepth, a_itemBlock, a_itemUses, a_itemKnown, a_itemValue, a_blockEnd, a_openBlocks, a_levelCompares, a_levelLeft, a_levelSum, a_levelProduct⟩ := u
  obtain ⟨f_length, f_tokenCount', f_itemCount', f_blockCount', f_looseCount', f_numberCount, f_operatorCount, a_text', a_kinds, a_starts, a_ends, a_owners, a_meant, a_firsts, a_lasts, a_sorts, a_blocks, a_knowns, a_values, a_around, a_depths, a_compared, a_numbers, a_operators⟩ := v
  obtain ⟨rfl, _, _⟩ := hX
  obtain ⟨rfl, _⟩ := hY
  exact ⟨rfl, I2⟩
theorem yq_tokens {post : Int32 → SY → Prop} {c : Nat → Nat} {n : Nat} {v : SY} (hn : n ≤ 80) (hc : ∀ j, j < n → c j ≤ 18) (hY : ed_RY c n v) (h : ∀ v', ed_RY c n v' → post (nI (pq_T c n)) v') : wpY_tokens post v := by
  obtain ⟨f_length, f_tokenCount, f_itemCount, f_blockCount, f_looseCount, f_numberCount, f_operatorCount, a_text, a_kinds, a_starts, a_ends, a_owners, a_meant, a_firsts, a_lasts, a_sorts, a_blocks, a_knowns, a_values, a_around, a_depths, a_compared, a_numbers, a_operators⟩ := v
  unfold wpY_tokens
  refine yq_rd hn hc hY (fun f_blockCount f_numberCount f_operatorCount a_kinds a_starts a_ends a_owners a_meant a_firsts a_lasts a_sorts a_blocks a_knowns a_values a_around a_depths a_compared a_numbers a_operators a_text hT hD => ?_)
  exact h (nI n, nI (pq_T c n), nI (pq_N c n), f_blockCount, nI (pq_L c n), f_numberCount, f_operatorCount, a_text, a_kinds, a_starts, a_ends, a_owners, a_meant, a_firsts, a_lasts, a_sorts, a_blocks, a_knowns, a_values, a_around, a_depths, a_compared, a_numbers, a_operators) ⟨rfl, hT⟩
theorem i_vc_tokens {k : Nat} {u : SX} {v : SY} (I : i_Rel k u v) (hk : k + 5 ≤ 2560) : wpX_tokens (fun r => wpY_tokens (fun r' v' => r' = r ∧ i_Rel (k + 5) u v') v) u := by
  obtain ⟨c, n, hn, hc, hX, hY⟩ := I
  have hX2 := hX
  obtain ⟨f_size, f_tokenCount, f_itemCount, f_blockCount, f_openCount, f_looseCount, a_text, a_characterToken, a_tokenKind, a_tokenStart, a_tokenEnd, a_tokenItem, a_tokenMeaning, a_itemFirst, a_itemEnd, a_itemSort, a_itemDepth, a_itemBlock, a_itemUses, a_itemKnown, a_itemValue, a_blockEnd, a_openBlocks, a_levelCompares, a_levelLeft, a_levelSum, a_levelProduct⟩ := u
  obtain ⟨rfl, hT, hD⟩ := hX
  obtain ⟨rfl, rfl, rfl, _⟩ := hD
  unfold wpX_tokens
  exact yq_tokens hn hc hY (fun v' h => ⟨rfl, c, n, hn, hc, hX2, h⟩)
theorem yq_items {post : Int32 → SY → Prop} {c : Nat → Nat} {n : Nat} {v : SY} (hn : n ≤ 80) (hc : ∀ j, j < n → c j ≤ 18) (hY : ed_RY c n v) (h : ∀ v', ed_RY c n v' → post (nI (pq_N c n)) v') : wpY_items post v := by
  obtain ⟨f_length, f_tokenCount, f_itemCount, f_blockCount, f_looseCount, f_numberCount, f_operatorCount, a_text, a_kinds, a_starts, a_ends, a_owners, a_meant, a_firsts, a_lasts, a_sorts, a_blocks, a_knowns, a_values, a_around, a_depths, a_compared, a_numbers, a_operators⟩ := v
  unfold wpY_items
  refine yq_rd hn hc hY (fun f_blockCount f_numberCount f_operatorCount a_kinds a_starts a_ends a_owners a_meant a_firsts a_lasts a_sorts a_blocks a_knowns a_values a_around a_depths a_compared a_numbers a_operators a_text hT hD => ?_)
  exact h (nI n, nI (pq_T c n), nI (pq_N c n), f_blockCount, nI (pq_L c n), f_numberCount, f_operatorCount, a_text, a_kinds, a_starts, a_ends, a_owners, a_meant, a_firsts, a_lasts, a_sorts, a_blocks, a_knowns, a_values, a_around, a_depths, a_compared, a_numbers, a_operators) ⟨rfl, hT⟩
theorem i_vc_items {k : Nat} {u : SX} {v : SY} (I : i_Rel k u v) (hk : k + 5 ≤ 2560) : wpX_items (fun r => wpY_items (fun r' v' => r' = r ∧ i_Rel (k + 5) u v') v) u := by
  obtain ⟨c, n, hn, hc, hX, hY⟩ := I
  have hX2 := hX
  obtain ⟨f_size, f_tokenCount, f_itemCount, f_blockCount, f_openCount, f_looseCount, a_text, a_characterToken, a_tokenKind, a_tokenStart, a_tokenEnd, a_tokenItem, a_tokenMeaning, a_itemFirst, a_itemEnd, a_itemSort, a_itemDepth, a_itemBlock, a_itemUses, a_itemKnown, a_itemValue, a_blockEnd, a_openBlocks, a_levelCompares, a_levelLeft, a_levelSum, a_levelProduct⟩ := u
  obtain ⟨rfl, hT, hD⟩ := hX
  obtain ⟨rfl, rfl, rfl, _⟩ := hD
  unfold wpX_items
  exact yq_items hn hc hY (fun v' h => ⟨rfl, c, n, hn, hc, hX2, h⟩)
theorem yq_loose {post : Int32 → SY → Prop} {c : Nat → Nat} {n : Nat} {v : SY} (hn : n ≤ 80) (hc : ∀ j, j < n → c j ≤ 18) (hY : ed_RY c n v) (h : ∀ v', ed_RY c n v' → post (nI (pq_L c n)) v') : wpY_loose post v := by
  obtain ⟨f_length, f_tokenCount, f_itemCount, f_blockCount, f_looseCount, f_numberCount, f_operatorCount, a_text, a_kinds, a_starts, a_ends, a_owners, a_meant, a_firsts, a_lasts, a_sorts, a_blocks, a_knowns, a_values, a_around, a_depths, a_compared, a_numbers, a_operators⟩ := v
  unfold wpY_loose
  refine yq_rd hn hc hY (fun f_blockCount f_numberCount f_operatorCount a_kinds a_starts a_ends a_owners a_meant a_firsts a_lasts a_sorts a_blocks a_knowns a_values a_around a_depths a_compared a_numbers a_operators a_text hT hD => ?_)
  exact h (nI n, nI (pq_T c n), nI (pq_N c n), f_blockCount, nI (pq_L c n), f_numberCount, f_operatorCount, a_text, a_kinds, a_starts, a_ends, a_owners, a_meant, a_firsts, a_lasts, a_sorts, a_blocks, a_knowns, a_values, a_around, a_depths, a_compared, a_numbers, a_operators) ⟨rfl, hT⟩
theorem i_vc_loose {k : Nat} {u : SX} {v : SY} (I : i_Rel k u v) (hk : k + 5 ≤ 2560) : wpX_loose (fun r => wpY_loose (fun r' v' => r' = r ∧ i_Rel (k + 5) u v') v) u := by
  obtain ⟨c, n, hn, hc, hX, hY⟩ := I
  have hX2 := hX
  obtain ⟨f_size, f_tokenCount, f_itemCount, f_blockCount, f_openCount, f_looseCount, a_text, a_characterToken, a_tokenKind, a_tokenStart, a_tokenEnd, a_tokenItem, a_tokenMeaning, a_itemFirst, a_itemEnd, a_itemSort, a_itemDepth, a_itemBlock, a_itemUses, a_itemKnown, a_itemValue, a_blockEnd, a_openBlocks, a_levelCompares, a_levelLeft, a_levelSum, a_levelProduct⟩ := u
  obtain ⟨rfl, hT, hD⟩ := hX
  obtain ⟨rfl, rfl, rfl, _⟩ := hD
  unfold wpX_loose
  exact yq_loose hn hc hY (fun v' h => ⟨rfl, c, n, hn, hc, hX2, h⟩)
theorem i_vc_wrong {k : Nat} {u : SX} {v : SY} (I : i_Rel k u v) (hk : k + 5 ≤ 2560) : wpX_wrong (fun r => wpY_wrong (fun r' v' => r' = r ∧ i_Rel (k + 5) u v') v) u := by
  obtain ⟨c, n, hn, hc, hX, hY⟩ := I
  have hX2 := hX
  obtain ⟨hTT, hNN⟩ := pq_b hn hc
  obtain ⟨f_size, f_tokenCount, f_itemCount, f_blockCount, f_openCount, f_looseCount, a_text, a_characterToken, a_tokenKind, a_tokenStart, a_tokenEnd, a_tokenItem, a_tokenMeaning, a_itemFirst, a_itemEnd, a_itemSort, a_itemDepth, a_itemBlock, a_itemUses, a_itemKnown, a_itemValue, a_blockEnd, a_openBlocks, a_levelCompares, a_levelLeft, a_levelSum, a_levelProduct⟩ := u
  obtain ⟨rfl, hT, hD⟩ := hX
  obtain ⟨rfl, rfl, rfl, d4, d5, d6, d7, d8, d9, d10, d11, d12, d13, d14⟩ := hD
  refine ⟨pq_N c n + 1, ?_⟩
  refine xq_wl _ _ _ _ _ _ _ _ _ _ _ _ _ _ _ _ _ _ _ _ _ _ _ _ _ _ hNN d10 (fun i => ex_so_le _ _ _) (pq_N c n) 0 0 (by omega) _ (by omega) ?_
  clear d4 d5 d6 d7 d8 d9 d10 d11 d12 d13 d14
  obtain ⟨f_length, f_tokenCount', f_itemCount', f_blockCount', f_looseCount', f_numberCount, f_operatorCount, a_text', a_kinds, a_starts, a_ends, a_owners, a_meant, a_firsts, a_lasts, a_sorts, a_blocks, a_knowns, a_values, a_around, a_depths, a_compared, a_numbers, a_operators⟩ := v
  unfold wpY_wrong
  refine yq_rd hn hc hY (fun f_blockCount f_numberCount f_operatorCount a_kinds a_starts a_ends a_owners a_meant a_firsts a_lasts a_sorts a_blocks a_knowns a_values a_around a_depths a_compared a_numbers a_operators a_text' hT' hD' => ?_)
  obtain ⟨e1, e2, e3, e4, e5, e6, e7, e8, e9, e10, e11, e12, e13, e14⟩ := hD'
  refine ⟨pq_N c n + 1, ?_⟩
  exact yq_wl _ _ _ _ _ _ _ _ _ _ _ _ _ _ _ _ _ _ _ _ _ _ _ hNN e10 (fun i => ex_so_le _ _ _) (pq_N c n) 0 0 (by omega) _ (by omega) ⟨rfl, c, n, hn, hc, hX2, rfl, hT'⟩
theorem i_vc_digest {k : Nat} {u : SX} {v : SY} (I : i_Rel k u v) (hk : k + 5 ≤ 2560) : wpX_digest (fun r => wpY_digest (fun r' v' => r' = r ∧ i_Rel (k + 5) u v') v) u := by
  obtain ⟨c, n, hn, hc, hX, hY⟩ := I
  have hX2 := hX
  obtain ⟨hTT, hNN⟩ := pq_b hn hc
  obtain ⟨f_size, f_tokenCount, f_itemCount, f_blockCount, f_openCount, f_looseCount, a_text, a_characterToken, a_tokenKind, a_tokenStart, a_tokenEnd, a_tokenItem, a_tokenMeaning, a_itemFirst, a_itemEnd, a_itemSort, a_itemDepth, a_itemBlock, a_itemUses, a_itemKnown, a_itemValue, a_blockEnd, a_openBlocks, a_levelCompares, a_levelLeft, a_levelSum, a_levelProduct⟩ := u
  obtain ⟨rfl, hT, hD⟩ := hX
  obtain ⟨rfl, rfl, rfl, d4, d5, d6, d7, d8, d9, d10, d11, d12, d13, d14⟩ := hD
  refine ⟨pq_N c n + 1, ?_⟩
  refine xq_dl _ _ _ _ _ _ _ _ _ _ _ _ _ _ _ _ _ _ _ _ _ _ _ _ _ _ hNN d13 d14 (pq_N c n) 0 0 (by omega) _ (by omega) ?_
  clear d4 d5 d6 d7 d8 d9 d10 d11 d12 d13 d14
  obtain ⟨f_length, f_tokenCount', f_itemCount', f_blockCount', f_looseCount', f_numberCount, f_operatorCount, a_text', a_kinds, a_starts, a_ends, a_owners, a_meant, a_firsts, a_lasts, a_sorts, a_blocks, a_knowns, a_values, a_around, a_depths, a_compared, a_numbers, a_operators⟩ := v
  unfold wpY_digest
  refine yq_rd hn hc hY (fun f_blockCount f_numberCount f_operatorCount a_kinds a_starts a_ends a_owners a_meant a_firsts a_lasts a_sorts a_blocks a_knowns a_values a_around a_depths a_compared a_numbers a_operators a_text' hT' hD' => ?_)
  obtain ⟨e1, e2, e3, e4, e5, e6, e7, e8, e9, e10, e11, e12, e13, e14⟩ := hD'
  refine ⟨pq_N c n + 1, ?_⟩
  exact yq_dl _ _ _ _ _ _ _ _ _ _ _ _ _ _ _ _ _ _ _ _ _ _ _ hNN e13 e14 (pq_N c n) 0 0 (by omega) _ (by omega) ⟨rfl, c, n, hn, hc, hX2, rfl, hT'⟩
end
