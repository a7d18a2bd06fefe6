section
/-! positions, uses, counts -/
theorem xq_pos {post : Int32 → Prop} (f_tokenCount f_itemCount f_blockCount f_openCount f_looseCount : Int32) (a_text a_characterToken a_tokenKind a_tokenStart a_tokenEnd a_tokenItem a_tokenMeaning a_itemFirst a_itemEnd a_itemSort a_itemDepth a_itemBlock a_itemUses a_itemKnown a_itemValue a_blockEnd a_openBlocks a_levelCompares a_levelLeft a_levelSum a_levelProduct : Nat → Int32) {N : Nat} {x : Int32} (hN : N ≤ 80) (h0 : (x < 0 ∨ nI N ≤ x) → post 0) (h1 : ∀ j, j < N → x = nI j → post 1) : wpX_isPosition post (nI N, f_tokenCount, f_itemCount, f_blockCount, f_openCount, f_looseCount, a_text, a_characterToken, a_tokenKind, a_tokenStart, a_tokenEnd, a_tokenItem, a_tokenMeaning, a_itemFirst, a_itemEnd, a_itemSort, a_itemDepth, a_itemBlock, a_itemUses, a_itemKnown, a_itemValue, a_blockEnd, a_openBlocks, a_levelCompares, a_levelLeft, a_levelSum, a_levelProduct) x := by
  rcases ed_ix x (n := N) (by omega) with z | z | ⟨j, hj, rfl⟩
  · exact br_t z (h0 (Or.inl z))
  · exact br_f z.1 (br_t z.2 (h0 (Or.inr z.2)))
  · exact br_f (nI_pos (by omega)) (br_f (nI_ge hj (by omega)) (h1 j hj rfl))
theorem xq_character {post : Int32 → Prop} {c : Nat → Nat} {n : Nat} {u : SX} {x : Int32} (hn : n ≤ 80) (hc : ∀ j, j < n → c j ≤ 18) (hX : ed_RX c n u) (h : post (qa n (fun j => nI (c j)) (-3) x)) : wpX_character post u x := by
  obtain ⟨f_size, f_tokenCount, f_itemCount, f_blockCount, f_openCount, f_looseCount, a_text, a_characterToken, a_tokenKind, a_tokenStart, a_tokenEnd, a_tokenItem, a_tokenMeaning, a_itemFirst, a_itemEnd, a_itemSort, a_itemDepth, a_itemBlock, a_itemUses, a_itemKnown, a_itemValue, a_blockEnd, a_openBlocks, a_levelCompares, a_levelLeft, a_levelSum, a_levelProduct⟩ := u
  obtain ⟨rfl, hT, hD⟩ := hX
  obtain ⟨rfl, rfl, rfl, d4, d5, d6, d7, d8, d9, d10, d11, d12, d13, d14⟩ := hD
  obtain ⟨hTT, hNN⟩ := pq_b hn hc
  unfold wpX_character
  refine xq_pos _ _ _ _ _ _ _ _ _ _ _ _ _ _ _ _ _ _ _ _ _ _ _ _ _ _ hn (fun z => ?_) (fun j hj hx => ?_)
  · rw [qa_lo z] at h; exact br_t rfl h
  · subst hx
    rw [qa_hi (by omega) hj] at h
    refine br_f (by decide) ⟨pk_in j 80 (by omega), ?_⟩
    rw [ed_rt j (hT j hj)]; exact h
theorem yq_character {post : Int32 → Prop} {c : Nat → Nat} {n : Nat} {v : SY} {x : Int32} (hn : n ≤ 80) (hc : ∀ j, j < n → c j ≤ 18) (hY : ed_RY c n v) (h : post (qa n (fun j => nI (c j)) (-3) x)) : wpY_character post v x := by
  obtain ⟨f_length, f_tokenCount, f_itemCount, f_blockCount, f_looseCount, f_numberCount, f_operatorCount, a_text, a_kinds, a_starts, a_ends, a_owners, a_meant, a_firsts, a_lasts, a_sorts, a_blocks, a_knowns, a_values, a_around, a_depths, a_compared, a_numbers, a_operators⟩ := v
  obtain ⟨rfl, hT⟩ := hY
  rcases ed_ix x (n := n) (by omega) with z | z | ⟨j, hj, rfl⟩
  · rw [qa_lo (Or.inl z)] at h
    exact br_t z h
  · rw [qa_lo (Or.inr z.2)] at h
    exact br_f z.1 (br_t z.2 h)
  · rw [qa_hi (by omega) hj] at h
    refine br_f (nI_pos (by omega)) (br_f (nI_ge hj (by omega)) ⟨pk_in j 81 (by omega), ?_⟩)
    rw [ed_rt j (hT j hj)]; exact h
theorem xq_tokenAt {post : Int32 → Prop} {c : Nat → Nat} {n : Nat} {u : SX} {x : Int32} (hn : n ≤ 80) (hc : ∀ j, j < n → c j ≤ 18) (hX : ed_RX c n u) (h : post (qa n (fun j => ed_oI (pq_A c n j)) (-3) x)) : wpX_tokenAt post u x := by
  obtain ⟨f_size, f_tokenCount, f_itemCount, f_blockCount, f_openCount, f_looseCount, a_text, a_characterToken, a_tokenKind, a_tokenStart, a_tokenEnd, a_tokenItem, a_tokenMeaning, a_itemFirst, a_itemEnd, a_itemSort, a_itemDepth, a_itemBlock, a_itemUses, a_itemKnown, a_itemValue, a_blockEnd, a_openBlocks, a_levelCompares, a_levelLeft, a_levelSum, a_levelProduct⟩ := u
  obtain ⟨rfl, hT, hD⟩ := hX
  obtain ⟨rfl, rfl, rfl, d4, d5, d6, d7, d8, d9, d10, d11, d12, d13, d14⟩ := hD
  obtain ⟨hTT, hNN⟩ := pq_b hn hc
  unfold wpX_tokenAt
  refine xq_pos _ _ _ _ _ _ _ _ _ _ _ _ _ _ _ _ _ _ _ _ _ _ _ _ _ _ hn (fun z => ?_) (fun j hj hx => ?_)
  · rw [qa_lo z] at h; exact br_t rfl h
  · subst hx
    rw [qa_hi (by omega) hj] at h
    refine br_f (by decide) ⟨pk_in j 80 (by omega), ?_⟩
    rw [ed_rt j (d4 j hj)]; exact h
theorem yq_tl {post : Int32 → SY → Prop} (f_length f_itemCount f_blockCount f_looseCount f_numberCount f_operatorCount : Int32) (a_text a_kinds a_starts a_ends a_owners a_meant a_firsts a_lasts a_sorts a_blocks a_knowns a_values a_around a_depths a_compared a_numbers a_operators : Nat → Int32) {st en : Nat → Nat} {T : Nat} {x : Int32} (hTT : T ≤ 80) (hS : ed_ag a_starts st T) (hE : ed_ag a_ends en T) (h0 : (∀ t, t < T → ¬ (¬ x < nI (st t) ∧ ¬ nI (en t) ≤ x)) → post (-3) (f_length, nI T, f_itemCount, f_blockCount, f_looseCount, f_numberCount, f_operatorCount, a_text, a_kinds, a_starts, a_ends, a_owners, a_meant, a_firsts, a_lasts, a_sorts, a_blocks, a_knowns, a_values, a_around, a_depths, a_compared, a_numbers, a_operators)) (h1 : ∀ t, t < T → ¬ x < nI (st t) → ¬ nI (en t) ≤ x → post (nI t) (f_length, nI T, f_itemCount, f_blockCount, f_looseCount, f_numberCount, f_operatorCount, a_text, a_kinds, a_starts, a_ends, a_owners, a_meant, a_firsts, a_lasts, a_sorts, a_blocks, a_knowns, a_values, a_around, a_depths, a_compared, a_numbers, a_operators)) :
    ∀ d t, t + d = T → (∀ s, s < t → ¬ (¬ x < nI (st s) ∧ ¬ nI (en s) ≤ x)) → ∀ f, d < f → (wY_tokenAt_6 post x f_length (nI T) f_itemCount f_blockCount f_looseCount f_numberCount f_operatorCount a_text a_kinds a_starts a_ends a_owners a_meant a_firsts a_lasts a_sorts a_blocks a_knowns a_values a_around a_depths a_compared a_numbers a_operators f (nI t)) := by
  intro d
  induction d with
  | zero =>
    intro t ht hs f hf
    obtain ⟨f, rfl⟩ : ∃ g, f = g + 1 := ⟨f - 1, by omega⟩
    have e : t = T := by omega
    subst e
    exact br_t (nI_le (Nat.le_refl _) (by omega)) (h0 hs)
  | succ d ih =>
    intro t ht hs f hf
    obtain ⟨f, rfl⟩ : ∃ g, f = g + 1 := ⟨f - 1, by omega⟩
    have es : a_starts (nI t).toNatClampNeg = nI (st t) := ed_rt t (hS t (by omega))
    have ee : a_ends (nI t).toNatClampNeg = nI (en t) := ed_rt t (hE t (by omega))
    have hgo : ¬ (¬ x < nI (st t) ∧ ¬ nI (en t) ≤ x) → (wY_tokenAt_6 post x f_length (nI T) f_itemCount f_blockCount f_looseCount f_numberCount f_operatorCount a_text a_kinds a_starts a_ends a_owners a_meant a_firsts a_lasts a_sorts a_blocks a_knowns a_values a_around a_depths a_compared a_numbers a_operators f (nI (t + 1))) := by
      intro hno
      refine ih (t + 1) (by omega) (fun s hs2 => ?_) f (by omega)
      by_cases z : s = t
      · rw [z]; exact hno
      · exact hs s (by omega)
    refine br_f (nI_ge (by omega) (by omega)) ⟨pk_in t 80 (by omega), ?_⟩
    rw [es]
    refine br_c (fun z => nm_r (nI_1 t) (hgo (fun y => y.1 z))) (fun z => ⟨pk_in t 80 (by omega), ?_⟩)
    rw [ee]
    exact br_c (fun y => nm_r (nI_1 t) (hgo (fun q => q.2 y))) (fun y => h1 t (by omega) z y)
theorem yq_tokenAt {post : Int32 → SY → Prop} {c : Nat → Nat} {n : Nat} {v : SY} {x : Int32} (hn : n ≤ 80) (hc : ∀ j, j < n → c j ≤ 18) (hY : ed_RY c n v) (h : ∀ v', ed_RY c n v' → post (qa n (fun j => ed_oI (pq_A c n j)) (-3) x) v') : wpY_tokenAt post v x := by
  obtain ⟨hTT, hNN⟩ := pq_b hn hc
  obtain ⟨p1, p2, p3, p4⟩ := pq_f hn hc
  obtain ⟨i1, i2, i3, i4, i5, i6, i7⟩ := tk_Ir hc n (Nat.le_refl _)
  obtain ⟨f_length, f_tokenCount, f_itemCount, f_blockCount, f_looseCount, f_numberCount, f_operatorCount, a_text, a_kinds, a_starts, a_ends, a_owners, a_meant, a_firsts, a_lasts, a_sorts, a_blocks, a_knowns, a_values, a_around, a_depths, a_compared, a_numbers, a_operators⟩ := v
  unfold wpY_tokenAt
  refine yq_rd hn hc hY (fun f_blockCount f_numberCount f_operatorCount a_kinds a_starts a_ends a_owners a_meant a_firsts a_lasts a_sorts a_blocks a_knowns a_values a_around a_depths a_compared a_numbers a_operators a_text hT hD => ?_)
  have h := h (nI n, nI (pq_T c n), nI (pq_N c n), f_blockCount, nI (pq_L c n), f_numberCount, f_operatorCount, a_text, a_kinds, a_starts, a_ends, a_owners, a_meant, a_firsts, a_lasts, a_sorts, a_blocks, a_knowns, a_values, a_around, a_depths, a_compared, a_numbers, a_operators) ⟨rfl, hT⟩
  obtain ⟨e1, e2, e3, e4, e5, e6, e7, e8, e9, e10, e11, e12, e13, e14⟩ := hD
  refine ⟨pq_T c n + 1, ?_⟩
  refine yq_tl _ _ _ _ _ _ _ _ _ _ _ _ _ _ _ _ _ _ _ _ _ _ _ hTT e5 e6 (fun hno => ?_) (fun t ht z1 z2 => ?_) (pq_T c n) 0 (by omega) (fun s hs => by omega) _ (by omega)
  · rcases ed_ix x (n := n) (by omega) with z | z | ⟨j, hj, rfl⟩
    · rw [qa_lo (Or.inl z)] at h; exact h
    · rw [qa_lo (Or.inr z.2)] at h; exact h
    · rw [qa_hi (by omega) hj] at h
      cases ha : pq_A c n j with
      | none => rw [ha] at h; exact h
      | some t =>
        have ht := i2 j t hj ha
        have hst := (i5 j t hj ht).mp ha
        refine absurd ⟨?_, ?_⟩ (hno t ht)
        · exact nI_nlt hst.1 (by omega)
        · exact nI_ge hst.2 (by have := (i4 t ht).2; unfold pq_E; omega)
  · have q := p2 t ht
    rcases ed_ix x (n := n) (by omega) with z | z | ⟨j, hj, rfl⟩
    · refine absurd ?_ z1
      have := nI_pos' (n := pq_S c n t) (by omega)
      exact Int32.lt_of_lt_of_le z this
    · refine absurd ?_ z2
      exact Int32.le_trans (nI_le q.2 (by omega)) z.2
    · rw [qa_hi (by omega) hj] at h
      have z1' : pq_S c n t ≤ j := by
        by_cases y : pq_S c n t ≤ j
        · exact y
        · exact absurd (nI_lt (by omega) (by omega)) z1
      have z2' : j < pq_E c n t := by
        by_cases y : j < pq_E c n t
        · exact y
        · exact absurd (nI_le (by omega) (by omega)) z2
      have ha : pq_A c n j = some t := (i5 j t hj ht).mpr ⟨z1', z2'⟩
      rw [ha] at h; exact h
theorem xq_uses {post : Int32 → Prop} {c : Nat → Nat} {n : Nat} {u : SX} {x : Int32} (hn : n ≤ 80) (hc : ∀ j, j < n → c j ≤ 18) (hX : ed_RX c n u) (h : post (qa (pq_N c n) (fun i => if mn_so (pq_K c n) (pq_T c n) i = 2 then nI (mn_ct (pq_M c n) i (pq_T c n)) else -3) (-3) x)) : wpX_uses post u x := by
  obtain ⟨f_size, f_tokenCount, f_itemCount, f_blockCount, f_openCount, f_looseCount, a_text, a_characterToken, a_tokenKind, a_tokenStart, a_tokenEnd, a_tokenItem, a_tokenMeaning, a_itemFirst, a_itemEnd, a_itemSort, a_itemDepth, a_itemBlock, a_itemUses, a_itemKnown, a_itemValue, a_blockEnd, a_openBlocks, a_levelCompares, a_levelLeft, a_levelSum, a_levelProduct⟩ := u
  obtain ⟨rfl, hT, hD⟩ := hX
  obtain ⟨rfl, rfl, rfl, d4, d5, d6, d7, d8, d9, d10, d11, d12, d13, d14⟩ := hD
  obtain ⟨hTT, hNN⟩ := pq_b hn hc
  unfold wpX_uses wpX_isDefinition
  refine xq_isItem _ _ _ _ _ _ _ _ _ _ _ _ _ _ _ _ _ _ _ _ _ _ _ _ _ _ hNN (fun z => ?_) (fun j hj hx => ?_)
  · rw [qa_lo z] at h; exact br_t rfl (br_t rfl h)
  · subst hx
    rw [qa_hi (by omega) hj] at h
    have hs2 : mn_so (pq_K c n) (pq_T c n) j ≤ 2 := ex_so_le _ _ _
    refine br_f (by decide) ⟨pk_in j 80 (by omega), pk_eq (mn_so (pq_K c n) (pq_T c n) j) 2 (fun z => br_f (by decide) ⟨pk_in j 80 (by omega), ?_⟩) (fun z => br_t rfl ?_) (ed_rt j (d10 j hj))⟩
    · rw [if_pos z] at h; rw [ed_rt j (d12 j hj)]; exact h
    · rw [if_neg z] at h; exact h
theorem yq_ul {post : Int32 → SY → Prop} (f_length f_itemCount f_blockCount f_looseCount f_numberCount f_operatorCount : Int32) (a_text a_kinds a_starts a_ends a_owners a_meant a_firsts a_lasts a_sorts a_blocks a_knowns a_values a_around a_depths a_compared a_numbers a_operators : Nat → Int32) {M : Nat → Option Nat} {T i : Nat} (hTT : T ≤ 80) (hi : i < 80) (hM : ed_ao a_meant M T) (hMl : ∀ t d, M t = some d → d < 80) (h : post (nI (mn_ct M i T)) (f_length, nI T, f_itemCount, f_blockCount, f_looseCount, f_numberCount, f_operatorCount, a_text, a_kinds, a_starts, a_ends, a_owners, a_meant, a_firsts, a_lasts, a_sorts, a_blocks, a_knowns, a_values, a_around, a_depths, a_compared, a_numbers, a_operators)) :
    ∀ d t, t + d = T → ∀ f, d < f → (wY_uses_25 post (nI i) f_length (nI T) f_itemCount f_blockCount f_looseCount f_numberCount f_operatorCount a_text a_kinds a_starts a_ends a_owners a_meant a_firsts a_lasts a_sorts a_blocks a_knowns a_values a_around a_depths a_compared a_numbers a_operators f (nI (mn_ct M i t)) (nI t)) := by
  intro d
  induction d with
  | zero =>
    intro t ht f hf
    obtain ⟨f, rfl⟩ : ∃ g, f = g + 1 := ⟨f - 1, by omega⟩
    have e : t = T := by omega
    subst e
    exact br_t (nI_le (Nat.le_refl _) (by omega)) h
  | succ d ih =>
    intro t ht f hf
    obtain ⟨f, rfl⟩ : ∃ g, f = g + 1 := ⟨f - 1, by omega⟩
    have ih := ih (t + 1) (by omega) f (by omega)
    have em : a_meant (nI t).toNatClampNeg = ed_oI (M t) := ed_rt t (hM t (by omega))
    have hiff := ed_oI_s (M t) (fun x hx => by have := hMl t x hx; omega) (u := i) (by omega)
    refine br_f (nI_ge (by omega) (by omega)) ⟨pk_in t 80 (by omega), ?_⟩
    rw [em]
    by_cases z : M t = some i
    · have e1 : mn_ct M i (t + 1) = mn_ct M i t + 1 := by show (if _ then _ else _) = _; rw [if_pos z]
      rw [e1] at ih
      exact br_t (hiff.mpr z) (nm_r (nI_1 _) (nm_r (nI_1 t) ih))
    · have e1 : mn_ct M i (t + 1) = mn_ct M i t := by show (if _ then _ else _) = _; rw [if_neg z]
      rw [e1] at ih
      exact br_f (fun y => z (hiff.mp y)) (nm_r (nI_1 t) ih)
theorem yq_uses {post : Int32 → SY → Prop} {c : Nat → Nat} {n : Nat} {v : SY} {x : Int32} (hn : n ≤ 80) (hc : ∀ j, j < n → c j ≤ 18) (hY : ed_RY c n v) (h : ∀ v', ed_RY c n v' → post (qa (pq_N c n) (fun i => if mn_so (pq_K c n) (pq_T c n) i = 2 then nI (mn_ct (pq_M c n) i (pq_T c n)) else -3) (-3) x) v') : wpY_uses post v x := by
  obtain ⟨hTT, hNN⟩ := pq_b hn hc
  obtain ⟨f_length, f_tokenCount, f_itemCount, f_blockCount, f_looseCount, f_numberCount, f_operatorCount, a_text, a_kinds, a_starts, a_ends, a_owners, a_meant, a_firsts, a_lasts, a_sorts, a_blocks, a_knowns, a_values, a_around, a_depths, a_compared, a_numbers, a_operators⟩ := v
  unfold wpY_uses
  refine yq_isItem hn hc hY (fun z f_blockCount f_numberCount f_operatorCount a_kinds a_starts a_ends a_owners a_meant a_firsts a_lasts a_sorts a_blocks a_knowns a_values a_around a_depths a_compared a_numbers a_operators a_text hT hD => ?_) (fun j hj hx f_blockCount f_numberCount f_operatorCount a_kinds a_starts a_ends a_owners a_meant a_firsts a_lasts a_sorts a_blocks a_knowns a_values a_around a_depths a_compared a_numbers a_operators a_text hT hD => ?_)
  · have h := h (nI n, nI (pq_T c n), nI (pq_N c n), f_blockCount, nI (pq_L c n), f_numberCount, f_operatorCount, a_text, a_kinds, a_starts, a_ends, a_owners, a_meant, a_firsts, a_lasts, a_sorts, a_blocks, a_knowns, a_values, a_around, a_depths, a_compared, a_numbers, a_operators) ⟨rfl, hT⟩
    rw [qa_lo z] at h
    exact br_t rfl h
  · have h := h (nI n, nI (pq_T c n), nI (pq_N c n), f_blockCount, nI (pq_L c n), f_numberCount, f_operatorCount, a_text, a_kinds, a_starts, a_ends, a_owners, a_meant, a_firsts, a_lasts, a_sorts, a_blocks, a_knowns, a_values, a_around, a_depths, a_compared, a_numbers, a_operators) ⟨rfl, hT⟩
    subst hx
    rw [qa_hi (by omega) hj] at h
    obtain ⟨e1, e2, e3, e4, e5, e6, e7, e8, e9, e10, e11, e12, e13, e14⟩ := hD
    have hs2 : mn_so (pq_K c n) (pq_T c n) j ≤ 2 := ex_so_le _ _ _
    refine br_f (by decide) ⟨pk_in j 80 (by omega), pk_eq (mn_so (pq_K c n) (pq_T c n) j) 2 (fun z => ?_) (fun z => ?_) (ed_rt j (e10 j hj))⟩
    · rw [if_pos z] at h
      refine ⟨pq_T c n + 1, ?_⟩
      exact yq_ul _ _ _ _ _ _ _ _ _ _ _ _ _ _ _ _ _ _ _ _ _ _ _ hTT (by omega) e8 (fun t d hd => by have := mn_mt_lt hd; omega) h (pq_T c n) 0 (by omega) _ (by omega)
    · rw [if_neg z] at h; exact h
def qw (so : Nat → Nat) : Nat → Nat → Int32 → Int32
  | 0, _, a => a
  | d + 1, i, a => qw so d (i + 1) (if so i = 0 then a + 1 else a)
def qd (V : Nat → Bool × Int32) : Nat → Nat → Int32 → Int32
  | 0, _, a => a
  | d + 1, i, a => qd V d (i + 1) (if (V i).1 then a + (nI i + 1) * (V i).2 else a)
theorem qd_t {V : Nat → Bool × Int32} {d i : Nat} {a : Int32} (h : (V i).1 = true) : qd V (d + 1) i a = qd V d (i + 1) (a + (nI i + 1) * (V i).2) := by
  show qd V d (i + 1) (if (V i).1 = true then _ else _) = _
  rw [if_pos h]
theorem qd_f {V : Nat → Bool × Int32} {d i : Nat} {a : Int32} (h : (V i).1 = false) : qd V (d + 1) i a = qd V d (i + 1) a := by
  show qd V d (i + 1) (if (V i).1 = true then _ else _) = _
  rw [if_neg (by rw [h]; decide)]
theorem qw_t {so : Nat → Nat} {d i : Nat} {a : Int32} (h : so i = 0) : qw so (d + 1) i a = qw so d (i + 1) (a + 1) := by
  show qw so d (i + 1) (if so i = 0 then _ else _) = _
  rw [if_pos h]
theorem qw_f {so : Nat → Nat} {d i : Nat} {a : Int32} (h : ¬ so i = 0) : qw so (d + 1) i a = qw so d (i + 1) a := by
  show qw so d (i + 1) (if so i = 0 then _ else _) = _
  rw [if_neg h]
theorem xq_wl {post : Int32 → Prop} (f_size f_tokenCount f_blockCount f_openCount f_looseCount : Int32) (a_text a_characterToken a_tokenKind a_tokenStart a_tokenEnd a_tokenItem a_tokenMeaning a_itemFirst a_itemEnd a_itemSort a_itemDepth a_itemBlock a_itemUses a_itemKnown a_itemValue a_blockEnd a_openBlocks a_levelCompares a_levelLeft a_levelSum a_levelProduct : Nat → Int32) {so : Nat → Nat} {N : Nat} (hN : N ≤ 80) (hs : ed_ag a_itemSort so N) (hs2 : ∀ i, so i ≤ 2) : ∀ d i a, i + d = N → ∀ f, d < f → post (qw so d i a) → (wX_wrong_4 post f_size f_tokenCount (nI N) f_blockCount f_openCount f_looseCount a_text a_characterToken a_tokenKind a_tokenStart a_tokenEnd a_tokenItem a_tokenMeaning a_itemFirst a_itemEnd a_itemSort a_itemDepth a_itemBlock a_itemUses a_itemKnown a_itemValue a_blockEnd a_openBlocks a_levelCompares a_levelLeft a_levelSum a_levelProduct f a (nI i)) := by
  intro d
  induction d with
  | zero =>
    intro i a hi f hf h
    obtain ⟨f, rfl⟩ : ∃ g, f = g + 1 := ⟨f - 1, by omega⟩
    have e : i = N := by omega
    subst e
    exact br_t (nI_le (Nat.le_refl _) (by omega)) h
  | succ d ih =>
    intro i a hi f hf h
    obtain ⟨f, rfl⟩ : ∃ g, f = g + 1 := ⟨f - 1, by omega⟩
    have hs3 := hs2 i
    refine br_f (nI_ge (by omega) (by omega)) ⟨pk_in i 80 (by omega), pk_eq (so i) 0 (fun z => ?_) (fun z => ?_) (ed_rt i (hs i (by omega)))⟩
    · rw [qw_t z] at h
      exact nm_e (nm_r (nI_1 i) (ih (i + 1) _ (by omega) f (by omega) h))
    · rw [qw_f z] at h
      exact nm_r (nI_1 i) (ih (i + 1) _ (by omega) f (by omega) h)
theorem yq_wl {post : Int32 → SY → Prop} (f_length f_tokenCount f_blockCount f_looseCount f_numberCount f_operatorCount : Int32) (a_text a_kinds a_starts a_ends a_owners a_meant a_firsts a_lasts a_sorts a_blocks a_knowns a_values a_around a_depths a_compared a_numbers a_operators : Nat → Int32) {so : Nat → Nat} {N : Nat} (hN : N ≤ 80) (hs : ed_ag a_sorts so N) (hs2 : ∀ i, so i ≤ 2) : ∀ d i a, i + d = N → ∀ f, d < f → post (qw so d i a) (f_length, f_tokenCount, nI N, f_blockCount, f_looseCount, f_numberCount, f_operatorCount, a_text, a_kinds, a_starts, a_ends, a_owners, a_meant, a_firsts, a_lasts, a_sorts, a_blocks, a_knowns, a_values, a_around, a_depths, a_compared, a_numbers, a_operators) → (wY_wrong_8 post f_length f_tokenCount (nI N) f_blockCount f_looseCount f_numberCount f_operatorCount a_text a_kinds a_starts a_ends a_owners a_meant a_firsts a_lasts a_sorts a_blocks a_knowns a_values a_around a_depths a_compared a_numbers a_operators f a (nI i)) := by
  intro d
  induction d with
  | zero =>
    intro i a hi f hf h
    obtain ⟨f, rfl⟩ : ∃ g, f = g + 1 := ⟨f - 1, by omega⟩
    have e : i = N := by omega
    subst e
    exact br_t (nI_le (Nat.le_refl _) (by omega)) h
  | succ d ih =>
    intro i a hi f hf h
    obtain ⟨f, rfl⟩ : ∃ g, f = g + 1 := ⟨f - 1, by omega⟩
    have hs3 := hs2 i
    refine br_f (nI_ge (by omega) (by omega)) ⟨pk_in i 80 (by omega), pk_eq (so i) 0 (fun z => ?_) (fun z => ?_) (ed_rt i (hs i (by omega)))⟩
    · rw [qw_t z] at h
      exact nm_e (nm_r (nI_1 i) (ih (i + 1) _ (by omega) f (by omega) h))
    · rw [qw_f z] at h
      exact nm_r (nI_1 i) (ih (i + 1) _ (by omega) f (by omega) h)
theorem xq_dl {post : Int32 → Prop} (f_size f_tokenCount f_blockCount f_openCount f_looseCount : Int32) (a_text a_characterToken a_tokenKind a_tokenStart a_tokenEnd a_tokenItem a_tokenMeaning a_itemFirst a_itemEnd a_itemSort a_itemDepth a_itemBlock a_itemUses a_itemKnown a_itemValue a_blockEnd a_openBlocks a_levelCompares a_levelLeft a_levelSum a_levelProduct : Nat → Int32) {V : Nat → Bool × Int32} {N : Nat} (hN : N ≤ 80) (hk : ed_ab a_itemKnown (fun i => (V i).1) N) (hv : ed_av a_itemValue (fun i => (V i).2) N) : ∀ d i a, i + d = N → ∀ f, d < f → post (qd V d i a) → (wX_digest_4 post f_size f_tokenCount (nI N) f_blockCount f_openCount f_looseCount a_text a_characterToken a_tokenKind a_tokenStart a_tokenEnd a_tokenItem a_tokenMeaning a_itemFirst a_itemEnd a_itemSort a_itemDepth a_itemBlock a_itemUses a_itemKnown a_itemValue a_blockEnd a_openBlocks a_levelCompares a_levelLeft a_levelSum a_levelProduct f a (nI i)) := by
  intro d
  induction d with
  | zero =>
    intro i a hi f hf h
    obtain ⟨f, rfl⟩ : ∃ g, f = g + 1 := ⟨f - 1, by omega⟩
    have e : i = N := by omega
    subst e
    exact br_t (nI_le (Nat.le_refl _) (by omega)) h
  | succ d ih =>
    intro i a hi f hf h
    obtain ⟨f, rfl⟩ : ∃ g, f = g + 1 := ⟨f - 1, by omega⟩
    have ek : a_itemKnown (nI i).toNatClampNeg = ed_bI (V i).1 := ed_rt i (hk i (by omega))
    refine br_f (nI_ge (by omega) (by omega)) ⟨pk_in i 80 (by omega), ?_⟩
    cases hb : (V i).1 with
    | false =>
      rw [hb] at ek
      rw [qd_f hb] at h
      exact br_t ek (nm_r (nI_1 i) (ih (i + 1) _ (by omega) f (by omega) h))
    | true =>
      rw [hb] at ek
      rw [qd_t hb] at h
      refine br_f (by rw [ek]; decide) ⟨pk_in i 80 (by omega), nm_r (e' := a + (nI i + 1) * (V i).2) ?_ (nm_r (nI_1 i) (ih (i + 1) _ (by omega) f (by omega) h))⟩
      rw [ed_rt i (hv i (by omega))]
theorem yq_dl {post : Int32 → SY → Prop} (f_length f_tokenCount f_blockCount f_looseCount f_numberCount f_operatorCount : Int32) (a_text a_kinds a_starts a_ends a_owners a_meant a_firsts a_lasts a_sorts a_blocks a_knowns a_values a_around a_depths a_compared a_numbers a_operators : Nat → Int32) {V : Nat → Bool × Int32} {N : Nat} (hN : N ≤ 80) (hk : ed_ab a_knowns (fun i => (V i).1) N) (hv : ed_av a_values (fun i => (V i).2) N) : ∀ d i a, i + d = N → ∀ f, d < f → post (qd V d i a) (f_length, f_tokenCount, nI N, f_blockCount, f_looseCount, f_numberCount, f_operatorCount, a_text, a_kinds, a_starts, a_ends, a_owners, a_meant, a_firsts, a_lasts, a_sorts, a_blocks, a_knowns, a_values, a_around, a_depths, a_compared, a_numbers, a_operators) → (wY_digest_8 post f_length f_tokenCount (nI N) f_blockCount f_looseCount f_numberCount f_operatorCount a_text a_kinds a_starts a_ends a_owners a_meant a_firsts a_lasts a_sorts a_blocks a_knowns a_values a_around a_depths a_compared a_numbers a_operators f a (nI i)) := by
  intro d
  induction d with
  | zero =>
    intro i a hi f hf h
    obtain ⟨f, rfl⟩ : ∃ g, f = g + 1 := ⟨f - 1, by omega⟩
    have e : i = N := by omega
    subst e
    exact br_t (nI_le (Nat.le_refl _) (by omega)) h
  | succ d ih =>
    intro i a hi f hf h
    obtain ⟨f, rfl⟩ : ∃ g, f = g + 1 := ⟨f - 1, by omega⟩
    have ek : a_knowns (nI i).toNatClampNeg = ed_bI (V i).1 := ed_rt i (hk i (by omega))
    refine br_f (nI_ge (by omega) (by omega)) ⟨pk_in i 80 (by omega), ?_⟩
    cases hb : (V i).1 with
    | false =>
      rw [hb] at ek
      rw [qd_f hb] at h
      exact br_t ek (nm_r (nI_1 i) (ih (i + 1) _ (by omega) f (by omega) h))
    | true =>
      rw [hb] at ek
      rw [qd_t hb] at h
      refine br_f (by rw [ek]; decide) ⟨pk_in i 80 (by omega), nm_r (e' := a + (nI i + 1) * (V i).2) ?_ (nm_r (nI_1 i) (ih (i + 1) _ (by omega) f (by omega) h))⟩
      rw [ed_rt i (hv i (by omega))]
end
