section
/-! the relation, and what the questions answer -/
def ed_RX (c : Nat → Nat) (n : Nat) (u : SX) : Prop := match u with
  | (f_size, f_tokenCount, f_itemCount, f_blockCount, f_openCount, f_looseCount, a_text, a_characterToken, a_tokenKind, a_tokenStart, a_tokenEnd, a_tokenItem, a_tokenMeaning, a_itemFirst, a_itemEnd, a_itemSort, a_itemDepth, a_itemBlock, a_itemUses, a_itemKnown, a_itemValue, a_blockEnd, a_openBlocks, a_levelCompares, a_levelLeft, a_levelSum, a_levelProduct) => f_size = nI n ∧ ed_ag a_text c n ∧ xd_D c n f_tokenCount f_itemCount f_looseCount a_characterToken a_tokenKind a_tokenStart a_tokenItem a_tokenMeaning a_itemFirst a_itemSort a_itemDepth a_itemUses a_itemKnown a_itemValue
def ed_RY (c : Nat → Nat) (n : Nat) (v : SY) : Prop := match v with
  | (f_length, f_tokenCount, f_itemCount, f_blockCount, f_looseCount, f_numberCount, f_operatorCount, a_text, a_kinds, a_starts, a_ends, a_owners, a_meant, a_firsts, a_lasts, a_sorts, a_blocks, a_knowns, a_values, a_around, a_depths, a_compared, a_numbers, a_operators) => f_length = nI n ∧ ed_ag a_text c n
/-- X holds the text and what reading it gives, Y the same text -/
def i_Rel (k : Nat) (u : SX) (v : SY) : Prop := ∃ (c : Nat → Nat) (n : Nat), n ≤ 80 ∧ (∀ j, j < n → c j ≤ 18) ∧ ed_RX c n u ∧ ed_RY c n v
theorem i_up {k : Nat} {u : SX} {v : SY} (h : i_Rel k u v) : i_Rel (k + 5) u v := h
def qa (T : Nat) (f : Nat → Int32) (d : Int32) (x : Int32) : Int32 := if x < 0 ∨ nI T ≤ x then d else f x.toNatClampNeg
theorem qa_lo {T : Nat} {f : Nat → Int32} {d x : Int32} (h : x < 0 ∨ nI T ≤ x) : qa T f d x = d := by unfold qa; rw [if_pos h]
theorem qa_hi {T j : Nat} {f : Nat → Int32} {d : Int32} (hT : T ≤ 80) (h : j < T) : qa T f d (nI j) = f j := by
  unfold qa
  rw [if_neg, nI_clamp (by omega)]
  intro z
  cases z with
  | inl z => exact nI_pos (by omega) z
  | inr z => exact nI_ge h (by omega) z
theorem ed_ix (x : Int32) {n : Nat} (hn : n ≤ 80) : x < 0 ∨ (¬ x < 0 ∧ nI n ≤ x) ∨ ∃ j : Nat, j < n ∧ x = nI j := by
  by_cases h : x < 0
  · exact Or.inl h
  · rcases pk_ix x (n := n) (by omega) with z | z | z
    · exact absurd z h
    · exact Or.inr (Or.inl ⟨h, z⟩)
    · exact Or.inr (Or.inr z)
theorem mn_kv_0 {k : Nat → Nat} {T : Nat} {nm : Nat → Nat → Bool} {nu : Nat → Int32} {i : Nat} : ∀ {j : Nat}, (mn_kv k T nm nu j i).1 = false → (mn_kv k T nm nu j i).2 = 0 := by
  intro j
  induction j with
  | zero => intro _; rfl
  | succ j ih =>
    show (ed_fu (mn_kv k T nm nu j) j (mn_iv k T nm nu (mn_kv k T nm nu j) j) i).1 = false → (ed_fu (mn_kv k T nm nu j) j (mn_iv k T nm nu (mn_kv k T nm nu j) j) i).2 = 0
    by_cases z : i = j
    · subst z
      rw [ed_fs]
      unfold mn_iv
      split
      · intro h; cases h
      · intro _; rfl
    · rw [ed_fn z]; exact ih
theorem pq_V0 {c : Nat → Nat} {n i : Nat} (h : (pq_V c n i).1 = false) : (pq_V c n i).2 = 0 := mn_kv_0 h
theorem pq_b {c : Nat → Nat} {n : Nat} (hn : n ≤ 80) (hc : ∀ j, j < n → c j ≤ 18) : pq_T c n ≤ 80 ∧ pq_N c n ≤ 80 := by
  obtain ⟨p1, p2, p3, p4⟩ := pq_f hn hc
  have hN : pq_N c n ≤ pq_T c n := it_N p4
  exact ⟨p1, by omega⟩
end
section
theorem xq_kind {post : Int32 → Prop} {c : Nat → Nat} {n : Nat} {u : SX} {x : Int32} (hn : n ≤ 80) (hc : ∀ j, j < n → c j ≤ 18) (hX : ed_RX c n u) (h : post (qa (pq_T c n) (fun j => nI (pq_K c n j)) (-3) x)) : wpX_kind post u x := by
  obtain ⟨f_size, f_tokenCount, f_itemCount, f_blockCount, f_openCount, f_looseCount, a_text, a_characterToken, a_tokenKind, a_tokenStart, a_tokenEnd, a_tokenItem, a_tokenMeaning, a_itemFirst, a_itemEnd, a_itemSort, a_itemDepth, a_itemBlock, a_itemUses, a_itemKnown, a_itemValue, a_blockEnd, a_openBlocks, a_levelCompares, a_levelLeft, a_levelSum, a_levelProduct⟩ := u
  obtain ⟨rfl, hT, hD⟩ := hX
  obtain ⟨rfl, rfl, rfl, d4, d5, d6, d7, d8, d9, d10, d11, d12, d13, d14⟩ := hD
  obtain ⟨hTT, hNN⟩ := pq_b hn hc
  unfold wpX_kind
  rcases ed_ix x (n := (pq_T c n)) (by omega) with z | z | ⟨j, hj, rfl⟩
  · rw [qa_lo (Or.inl z)] at h
    exact br_t z (br_t rfl h)
  · rw [qa_lo (Or.inr z.2)] at h
    exact br_f z.1 (br_t z.2 (br_t rfl h))
  · rw [qa_hi (by omega) hj] at h
    refine br_f (nI_pos (by omega)) (br_f (nI_ge hj (by omega)) (br_f (by decide) ⟨pk_in j 80 (by omega), ?_⟩))
    rw [ed_rt j (d5 j hj)]; exact h
theorem yq_kind {post : Int32 → SY → Prop} {c : Nat → Nat} {n : Nat} {v : SY} {x : Int32} (hn : n ≤ 80) (hc : ∀ j, j < n → c j ≤ 18) (hY : ed_RY c n v) (h : ∀ v', ed_RY c n v' → post (qa (pq_T c n) (fun j => nI (pq_K c n j)) (-3) x) v') : wpY_kind post v x := by
  obtain ⟨f_length, f_tokenCount, f_itemCount, f_blockCount, f_looseCount, f_numberCount, f_operatorCount, a_text, a_kinds, a_starts, a_ends, a_owners, a_meant, a_firsts, a_lasts, a_sorts, a_blocks, a_knowns, a_values, a_around, a_depths, a_compared, a_numbers, a_operators⟩ := v
  obtain ⟨rfl, hT⟩ := hY
  obtain ⟨hTT, hNN⟩ := pq_b hn hc
  unfold wpY_kind wpY_isToken
  dsimp only
  refine yr_read hn hc hT (fun f_tokenCount f_itemCount f_blockCount f_looseCount f_numberCount f_operatorCount a_kinds a_starts a_ends a_owners a_meant a_firsts a_lasts a_sorts a_blocks a_knowns a_values a_around a_depths a_compared a_numbers a_operators hD => ?_)
  obtain ⟨rfl, rfl, rfl, e4, e5, e6, e7, e8, e9, e10, e11, e12, e13, e14⟩ := hD
  have h := h (nI n, nI (pq_T c n), nI (pq_N c n), f_blockCount, nI (pq_L c n), f_numberCount, f_operatorCount, a_text, a_kinds, a_starts, a_ends, a_owners, a_meant, a_firsts, a_lasts, a_sorts, a_blocks, a_knowns, a_values, a_around, a_depths, a_compared, a_numbers, a_operators) ⟨rfl, hT⟩
  rcases ed_ix x (n := (pq_T c n)) (by omega) with z | z | ⟨j, hj, rfl⟩
  · rw [qa_lo (Or.inl z)] at h
    exact br_t z (br_t rfl h)
  · rw [qa_lo (Or.inr z.2)] at h
    exact br_f z.1 (br_t z.2 (br_t rfl h))
  · rw [qa_hi (by omega) hj] at h
    have h2 : post (a_kinds (nI j).toNatClampNeg) (nI n, nI (pq_T c n), nI (pq_N c n), f_blockCount, nI (pq_L c n), f_numberCount, f_operatorCount, a_text, a_kinds, a_starts, a_ends, a_owners, a_meant, a_firsts, a_lasts, a_sorts, a_blocks, a_knowns, a_values, a_around, a_depths, a_compared, a_numbers, a_operators) := by
      rw [ed_rt j (e4 j hj)]; exact h
    exact br_f (nI_pos (by omega)) (br_f (nI_ge hj (by omega)) (br_f (by decide) ⟨pk_in j 80 (by omega), h2⟩))
theorem xq_start {post : Int32 → Prop} {c : Nat → Nat} {n : Nat} {u : SX} {x : Int32} (hn : n ≤ 80) (hc : ∀ j, j < n → c j ≤ 18) (hX : ed_RX c n u) (h : post (qa (pq_T c n) (fun j => nI (pq_S c n j)) (-3) x)) : wpX_start post u x := by
  obtain ⟨f_size, f_tokenCount, f_itemCount, f_blockCount, f_openCount, f_looseCount, a_text, a_characterToken, a_tokenKind, a_tokenStart, a_tokenEnd, a_tokenItem, a_tokenMeaning, a_itemFirst, a_itemEnd, a_itemSort, a_itemDepth, a_itemBlock, a_itemUses, a_itemKnown, a_itemValue, a_blockEnd, a_openBlocks, a_levelCompares, a_levelLeft, a_levelSum, a_levelProduct⟩ := u
  obtain ⟨rfl, hT, hD⟩ := hX
  obtain ⟨rfl, rfl, rfl, d4, d5, d6, d7, d8, d9, d10, d11, d12, d13, d14⟩ := hD
  obtain ⟨hTT, hNN⟩ := pq_b hn hc
  unfold wpX_start
  rcases ed_ix x (n := (pq_T c n)) (by omega) with z | z | ⟨j, hj, rfl⟩
  · rw [qa_lo (Or.inl z)] at h
    exact br_t z (br_t rfl h)
  · rw [qa_lo (Or.inr z.2)] at h
    exact br_f z.1 (br_t z.2 (br_t rfl h))
  · rw [qa_hi (by omega) hj] at h
    refine br_f (nI_pos (by omega)) (br_f (nI_ge hj (by omega)) (br_f (by decide) ⟨pk_in j 80 (by omega), ?_⟩))
    rw [ed_rt j (d6 j hj)]; exact h
theorem yq_start {post : Int32 → SY → Prop} {c : Nat → Nat} {n : Nat} {v : SY} {x : Int32} (hn : n ≤ 80) (hc : ∀ j, j < n → c j ≤ 18) (hY : ed_RY c n v) (h : ∀ v', ed_RY c n v' → post (qa (pq_T c n) (fun j => nI (pq_S c n j)) (-3) x) v') : wpY_start post v x := by
  obtain ⟨f_length, f_tokenCount, f_itemCount, f_blockCount, f_looseCount, f_numberCount, f_operatorCount, a_text, a_kinds, a_starts, a_ends, a_owners, a_meant, a_firsts, a_lasts, a_sorts, a_blocks, a_knowns, a_values, a_around, a_depths, a_compared, a_numbers, a_operators⟩ := v
  obtain ⟨rfl, hT⟩ := hY
  obtain ⟨hTT, hNN⟩ := pq_b hn hc
  unfold wpY_start wpY_isToken
  dsimp only
  refine yr_read hn hc hT (fun f_tokenCount f_itemCount f_blockCount f_looseCount f_numberCount f_operatorCount a_kinds a_starts a_ends a_owners a_meant a_firsts a_lasts a_sorts a_blocks a_knowns a_values a_around a_depths a_compared a_numbers a_operators hD => ?_)
  obtain ⟨rfl, rfl, rfl, e4, e5, e6, e7, e8, e9, e10, e11, e12, e13, e14⟩ := hD
  have h := h (nI n, nI (pq_T c n), nI (pq_N c n), f_blockCount, nI (pq_L c n), f_numberCount, f_operatorCount, a_text, a_kinds, a_starts, a_ends, a_owners, a_meant, a_firsts, a_lasts, a_sorts, a_blocks, a_knowns, a_values, a_around, a_depths, a_compared, a_numbers, a_operators) ⟨rfl, hT⟩
  rcases ed_ix x (n := (pq_T c n)) (by omega) with z | z | ⟨j, hj, rfl⟩
  · rw [qa_lo (Or.inl z)] at h
    exact br_t z (br_t rfl h)
  · rw [qa_lo (Or.inr z.2)] at h
    exact br_f z.1 (br_t z.2 (br_t rfl h))
  · rw [qa_hi (by omega) hj] at h
    have h2 : post (a_starts (nI j).toNatClampNeg) (nI n, nI (pq_T c n), nI (pq_N c n), f_blockCount, nI (pq_L c n), f_numberCount, f_operatorCount, a_text, a_kinds, a_starts, a_ends, a_owners, a_meant, a_firsts, a_lasts, a_sorts, a_blocks, a_knowns, a_values, a_around, a_depths, a_compared, a_numbers, a_operators) := by
      rw [ed_rt j (e5 j hj)]; exact h
    exact br_f (nI_pos (by omega)) (br_f (nI_ge hj (by omega)) (br_f (by decide) ⟨pk_in j 80 (by omega), h2⟩))
theorem xq_itemOf {post : Int32 → Prop} {c : Nat → Nat} {n : Nat} {u : SX} {x : Int32} (hn : n ≤ 80) (hc : ∀ j, j < n → c j ≤ 18) (hX : ed_RX c n u) (h : post (qa (pq_T c n) (fun j => ed_oI (it_ow (pq_K c n) j)) (-3) x)) : wpX_itemOf post u x := by
  obtain ⟨f_size, f_tokenCount, f_itemCount, f_blockCount, f_openCount, f_looseCount, a_text, a_characterToken, a_tokenKind, a_tokenStart, a_tokenEnd, a_tokenItem, a_tokenMeaning, a_itemFirst, a_itemEnd, a_itemSort, a_itemDepth, a_itemBlock, a_itemUses, a_itemKnown, a_itemValue, a_blockEnd, a_openBlocks, a_levelCompares, a_levelLeft, a_levelSum, a_levelProduct⟩ := u
  obtain ⟨rfl, hT, hD⟩ := hX
  obtain ⟨rfl, rfl, rfl, d4, d5, d6, d7, d8, d9, d10, d11, d12, d13, d14⟩ := hD
  obtain ⟨hTT, hNN⟩ := pq_b hn hc
  unfold wpX_itemOf
  rcases ed_ix x (n := (pq_T c n)) (by omega) with z | z | ⟨j, hj, rfl⟩
  · rw [qa_lo (Or.inl z)] at h
    exact br_t z (br_t rfl h)
  · rw [qa_lo (Or.inr z.2)] at h
    exact br_f z.1 (br_t z.2 (br_t rfl h))
  · rw [qa_hi (by omega) hj] at h
    refine br_f (nI_pos (by omega)) (br_f (nI_ge hj (by omega)) (br_f (by decide) ⟨pk_in j 80 (by omega), ?_⟩))
    rw [ed_rt j (d7 j hj)]; exact h
theorem yq_itemOf {post : Int32 → SY → Prop} {c : Nat → Nat} {n : Nat} {v : SY} {x : Int32} (hn : n ≤ 80) (hc : ∀ j, j < n → c j ≤ 18) (hY : ed_RY c n v) (h : ∀ v', ed_RY c n v' → post (qa (pq_T c n) (fun j => ed_oI (it_ow (pq_K c n) j)) (-3) x) v') : wpY_itemOf post v x := by
  obtain ⟨f_length, f_tokenCount, f_itemCount, f_blockCount, f_looseCount, f_numberCount, f_operatorCount, a_text, a_kinds, a_starts, a_ends, a_owners, a_meant, a_firsts, a_lasts, a_sorts, a_blocks, a_knowns, a_values, a_around, a_depths, a_compared, a_numbers, a_operators⟩ := v
  obtain ⟨rfl, hT⟩ := hY
  obtain ⟨hTT, hNN⟩ := pq_b hn hc
  unfold wpY_itemOf wpY_isToken
  dsimp only
  refine yr_read hn hc hT (fun f_tokenCount f_itemCount f_blockCount f_looseCount f_numberCount f_operatorCount a_kinds a_starts a_ends a_owners a_meant a_firsts a_lasts a_sorts a_blocks a_knowns a_values a_around a_depths a_compared a_numbers a_operators hD => ?_)
  obtain ⟨rfl, rfl, rfl, e4, e5, e6, e7, e8, e9, e10, e11, e12, e13, e14⟩ := hD
  have h := h (nI n, nI (pq_T c n), nI (pq_N c n), f_blockCount, nI (pq_L c n), f_numberCount, f_operatorCount, a_text, a_kinds, a_starts, a_ends, a_owners, a_meant, a_firsts, a_lasts, a_sorts, a_blocks, a_knowns, a_values, a_around, a_depths, a_compared, a_numbers, a_operators) ⟨rfl, hT⟩
  rcases ed_ix x (n := (pq_T c n)) (by omega) with z | z | ⟨j, hj, rfl⟩
  · rw [qa_lo (Or.inl z)] at h
    exact br_t z (br_t rfl h)
  · rw [qa_lo (Or.inr z.2)] at h
    exact br_f z.1 (br_t z.2 (br_t rfl h))
  · rw [qa_hi (by omega) hj] at h
    have h2 : post (a_owners (nI j).toNatClampNeg) (nI n, nI (pq_T c n), nI (pq_N c n), f_blockCount, nI (pq_L c n), f_numberCount, f_operatorCount, a_text, a_kinds, a_starts, a_ends, a_owners, a_meant, a_firsts, a_lasts, a_sorts, a_blocks, a_knowns, a_values, a_around, a_depths, a_compared, a_numbers, a_operators) := by
      rw [ed_rt j (e7 j hj)]; exact h
    exact br_f (nI_pos (by omega)) (br_f (nI_ge hj (by omega)) (br_f (by decide) ⟨pk_in j 80 (by omega), h2⟩))
theorem xq_meaning {post : Int32 → Prop} {c : Nat → Nat} {n : Nat} {u : SX} {x : Int32} (hn : n ≤ 80) (hc : ∀ j, j < n → c j ≤ 18) (hX : ed_RX c n u) (h : post (qa (pq_T c n) (fun j => ed_oI (pq_M c n j)) (-3) x)) : wpX_meaning post u x := by
  obtain ⟨f_size, f_tokenCount, f_itemCount, f_blockCount, f_openCount, f_looseCount, a_text, a_characterToken, a_tokenKind, a_tokenStart, a_tokenEnd, a_tokenItem, a_tokenMeaning, a_itemFirst, a_itemEnd, a_itemSort, a_itemDepth, a_itemBlock, a_itemUses, a_itemKnown, a_itemValue, a_blockEnd, a_openBlocks, a_levelCompares, a_levelLeft, a_levelSum, a_levelProduct⟩ := u
  obtain ⟨rfl, hT, hD⟩ := hX
  obtain ⟨rfl, rfl, rfl, d4, d5, d6, d7, d8, d9, d10, d11, d12, d13, d14⟩ := hD
  obtain ⟨hTT, hNN⟩ := pq_b hn hc
  unfold wpX_meaning
  rcases ed_ix x (n := (pq_T c n)) (by omega) with z | z | ⟨j, hj, rfl⟩
  · rw [qa_lo (Or.inl z)] at h
    exact br_t z (br_t rfl h)
  · rw [qa_lo (Or.inr z.2)] at h
    exact br_f z.1 (br_t z.2 (br_t rfl h))
  · rw [qa_hi (by omega) hj] at h
    refine br_f (nI_pos (by omega)) (br_f (nI_ge hj (by omega)) (br_f (by decide) ⟨pk_in j 80 (by omega), ?_⟩))
    rw [ed_rt j (d8 j hj)]; exact h
theorem yq_meaning {post : Int32 → SY → Prop} {c : Nat → Nat} {n : Nat} {v : SY} {x : Int32} (hn : n ≤ 80) (hc : ∀ j, j < n → c j ≤ 18) (hY : ed_RY c n v) (h : ∀ v', ed_RY c n v' → post (qa (pq_T c n) (fun j => ed_oI (pq_M c n j)) (-3) x) v') : wpY_meaning post v x := by
  obtain ⟨f_length, f_tokenCount, f_itemCount, f_blockCount, f_looseCount, f_numberCount, f_operatorCount, a_text, a_kinds, a_starts, a_ends, a_owners, a_meant, a_firsts, a_lasts, a_sorts, a_blocks, a_knowns, a_values, a_around, a_depths, a_compared, a_numbers, a_operators⟩ := v
  obtain ⟨rfl, hT⟩ := hY
  obtain ⟨hTT, hNN⟩ := pq_b hn hc
  unfold wpY_meaning wpY_isToken
  dsimp only
  refine yr_read hn hc hT (fun f_tokenCount f_itemCount f_blockCount f_looseCount f_numberCount f_operatorCount a_kinds a_starts a_ends a_owners a_meant a_firsts a_lasts a_sorts a_blocks a_knowns a_values a_around a_depths a_compared a_numbers a_operators hD => ?_)
  obtain ⟨rfl, rfl, rfl, e4, e5, e6, e7, e8, e9, e10, e11, e12, e13, e14⟩ := hD
  have h := h (nI n, nI (pq_T c n), nI (pq_N c n), f_blockCount, nI (pq_L c n), f_numberCount, f_operatorCount, a_text, a_kinds, a_starts, a_ends, a_owners, a_meant, a_firsts, a_lasts, a_sorts, a_blocks, a_knowns, a_values, a_around, a_depths, a_compared, a_numbers, a_operators) ⟨rfl, hT⟩
  rcases ed_ix x (n := (pq_T c n)) (by omega) with z | z | ⟨j, hj, rfl⟩
  · rw [qa_lo (Or.inl z)] at h
    exact br_t z (br_t rfl h)
  · rw [qa_lo (Or.inr z.2)] at h
    exact br_f z.1 (br_t z.2 (br_t rfl h))
  · rw [qa_hi (by omega) hj] at h
    have h2 : post (a_meant (nI j).toNatClampNeg) (nI n, nI (pq_T c n), nI (pq_N c n), f_blockCount, nI (pq_L c n), f_numberCount, f_operatorCount, a_text, a_kinds, a_starts, a_ends, a_owners, a_meant, a_firsts, a_lasts, a_sorts, a_blocks, a_knowns, a_values, a_around, a_depths, a_compared, a_numbers, a_operators) := by
      rw [ed_rt j (e8 j hj)]; exact h
    exact br_f (nI_pos (by omega)) (br_f (nI_ge hj (by omega)) (br_f (by decide) ⟨pk_in j 80 (by omega), h2⟩))
theorem xq_sort {post : Int32 → Prop} {c : Nat → Nat} {n : Nat} {u : SX} {x : Int32} (hn : n ≤ 80) (hc : ∀ j, j < n → c j ≤ 18) (hX : ed_RX c n u) (h : post (qa (pq_N c n) (fun i => nI (mn_so (pq_K c n) (pq_T c n) i)) (-3) x)) : wpX_sort post u x := by
  obtain ⟨f_size, f_tokenCount, f_itemCount, f_blockCount, f_openCount, f_looseCount, a_text, a_characterToken, a_tokenKind, a_tokenStart, a_tokenEnd, a_tokenItem, a_tokenMeaning, a_itemFirst, a_itemEnd, a_itemSort, a_itemDepth, a_itemBlock, a_itemUses, a_itemKnown, a_itemValue, a_blockEnd, a_openBlocks, a_levelCompares, a_levelLeft, a_levelSum, a_levelProduct⟩ := u
  obtain ⟨rfl, hT, hD⟩ := hX
  obtain ⟨rfl, rfl, rfl, d4, d5, d6, d7, d8, d9, d10, d11, d12, d13, d14⟩ := hD
  obtain ⟨hTT, hNN⟩ := pq_b hn hc
  unfold wpX_sort
  rcases ed_ix x (n := (pq_N c n)) (by omega) with z | z | ⟨j, hj, rfl⟩
  · rw [qa_lo (Or.inl z)] at h
    exact br_t z (br_t rfl h)
  · rw [qa_lo (Or.inr z.2)] at h
    exact br_f z.1 (br_t z.2 (br_t rfl h))
  · rw [qa_hi (by omega) hj] at h
    refine br_f (nI_pos (by omega)) (br_f (nI_ge hj (by omega)) (br_f (by decide) ⟨pk_in j 80 (by omega), ?_⟩))
    rw [ed_rt j (d10 j hj)]; exact h
theorem yq_sort {post : Int32 → SY → Prop} {c : Nat → Nat} {n : Nat} {v : SY} {x : Int32} (hn : n ≤ 80) (hc : ∀ j, j < n → c j ≤ 18) (hY : ed_RY c n v) (h : ∀ v', ed_RY c n v' → post (qa (pq_N c n) (fun i => nI (mn_so (pq_K c n) (pq_T c n) i)) (-3) x) v') : wpY_sort post v x := by
  obtain ⟨f_length, f_tokenCount, f_itemCount, f_blockCount, f_looseCount, f_numberCount, f_operatorCount, a_text, a_kinds, a_starts, a_ends, a_owners, a_meant, a_firsts, a_lasts, a_sorts, a_blocks, a_knowns, a_values, a_around, a_depths, a_compared, a_numbers, a_operators⟩ := v
  obtain ⟨rfl, hT⟩ := hY
  obtain ⟨hTT, hNN⟩ := pq_b hn hc
  unfold wpY_sort wpY_isItem
  dsimp only
  refine yr_read hn hc hT (fun f_tokenCount f_itemCount f_blockCount f_looseCount f_numberCount f_operatorCount a_kinds a_starts a_ends a_owners a_meant a_firsts a_lasts a_sorts a_blocks a_knowns a_values a_around a_depths a_compared a_numbers a_operators hD => ?_)
  obtain ⟨rfl, rfl, rfl, e4, e5, e6, e7, e8, e9, e10, e11, e12, e13, e14⟩ := hD
  have h := h (nI n, nI (pq_T c n), nI (pq_N c n), f_blockCount, nI (pq_L c n), f_numberCount, f_operatorCount, a_text, a_kinds, a_starts, a_ends, a_owners, a_meant, a_firsts, a_lasts, a_sorts, a_blocks, a_knowns, a_values, a_around, a_depths, a_compared, a_numbers, a_operators) ⟨rfl, hT⟩
  rcases ed_ix x (n := (pq_N c n)) (by omega) with z | z | ⟨j, hj, rfl⟩
  · rw [qa_lo (Or.inl z)] at h
    exact br_t z (br_t rfl h)
  · rw [qa_lo (Or.inr z.2)] at h
    exact br_f z.1 (br_t z.2 (br_t rfl h))
  · rw [qa_hi (by omega) hj] at h
    have h2 : post (a_sorts (nI j).toNatClampNeg) (nI n, nI (pq_T c n), nI (pq_N c n), f_blockCount, nI (pq_L c n), f_numberCount, f_operatorCount, a_text, a_kinds, a_starts, a_ends, a_owners, a_meant, a_firsts, a_lasts, a_sorts, a_blocks, a_knowns, a_values, a_around, a_depths, a_compared, a_numbers, a_operators) := by
      rw [ed_rt j (e10 j hj)]; exact h
    exact br_f (nI_pos (by omega)) (br_f (nI_ge hj (by omega)) (br_f (by decide) ⟨pk_in j 80 (by omega), h2⟩))
theorem xq_depth {post : Int32 → Prop} {c : Nat → Nat} {n : Nat} {u : SX} {x : Int32} (hn : n ≤ 80) (hc : ∀ j, j < n → c j ≤ 18) (hX : ed_RX c n u) (h : post (qa (pq_N c n) (fun i => nI (it_ik (pq_K c n) (pq_T c n + 1) i).length) (-3) x)) : wpX_depth post u x := by
  obtain ⟨f_size, f_tokenCount, f_itemCount, f_blockCount, f_openCount, f_looseCount, a_text, a_characterToken, a_tokenKind, a_tokenStart, a_tokenEnd, a_tokenItem, a_tokenMeaning, a_itemFirst, a_itemEnd, a_itemSort, a_itemDepth, a_itemBlock, a_itemUses, a_itemKnown, a_itemValue, a_blockEnd, a_openBlocks, a_levelCompares, a_levelLeft, a_levelSum, a_levelProduct⟩ := u
  obtain ⟨rfl, hT, hD⟩ := hX
  obtain ⟨rfl, rfl, rfl, d4, d5, d6, d7, d8, d9, d10, d11, d12, d13, d14⟩ := hD
  obtain ⟨hTT, hNN⟩ := pq_b hn hc
  unfold wpX_depth
  rcases ed_ix x (n := (pq_N c n)) (by omega) with z | z | ⟨j, hj, rfl⟩
  · rw [qa_lo (Or.inl z)] at h
    exact br_t z (br_t rfl h)
  · rw [qa_lo (Or.inr z.2)] at h
    exact br_f z.1 (br_t z.2 (br_t rfl h))
  · rw [qa_hi (by omega) hj] at h
    refine br_f (nI_pos (by omega)) (br_f (nI_ge hj (by omega)) (br_f (by decide) ⟨pk_in j 80 (by omega), ?_⟩))
    rw [ed_rt j (d11 j hj)]; exact h
end
