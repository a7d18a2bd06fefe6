section
/-! rename, owed -/
def rz_l (c : Nat → Nat) (n i ch : Nat) : List Nat := rn_f c (rx_p (pq_A c n) (rx_t (it_fi (pq_K c n) (pq_T c n + 1) i) i (pq_M c n))) (rx_s (pq_A c n) (pq_S c n)) ch 0 n
def rz_c (l : List Nat) : Nat → Nat := fun j => (l[j]?).getD 0
theorem rz_ag {A : Nat → Int32} {l : List Nat} (h : rn_l A 0 l) : ed_ag A (rz_c l) l.length := by
  intro j hj
  have := rn_l_get h hj
  rw [Nat.zero_add] at this
  rw [this]
  unfold rz_c
  rw [List.getElem?_eq_getElem hj]; rfl
theorem rz_18 {l : List Nat} (h : ∀ x, x ∈ l → x ≤ 18) : ∀ j, j < l.length → rz_c l j ≤ 18 := by
  intro j hj
  unfold rz_c
  rw [List.getElem?_eq_getElem hj]
  exact h _ (List.getElem_mem hj)
theorem i_vc_rename {k : Nat} {u : SX} {v : SY} (I : i_Rel k u v) (hk : k + 5 ≤ 2560) (v1 : Int32) (v2 : Int32) : wpX_rename (fun r u' => wpY_rename (fun r' v' => r' = r ∧ i_Rel (k + 5) u' v') v v1 v2) u v1 v2 := by
  have I2 := I
  obtain ⟨c, n, hn, hc, hX, hY⟩ := I
  have hX2 := hX
  obtain ⟨hTT, hNN⟩ := pq_b hn hc
  obtain ⟨p1, p2, p3, p4⟩ := pq_f hn hc
  obtain ⟨i1, i2, i3, i4, i5, i6, i7⟩ := tk_Ir hc n (Nat.le_refl _)
  obtain ⟨f_size, f_tokenCount, f_itemCount, f_blockCount, f_openCount, f_looseCount, a_text, a_characterToken, a_tokenKind, a_tokenStart, a_tokenEnd, a_tokenItem, a_tokenMeaning, a_itemFirst, a_itemEnd, a_itemSort, a_itemDepth, a_itemBlock, a_itemUses, a_itemKnown, a_itemValue, a_blockEnd, a_openBlocks, a_levelCompares, a_levelLeft, a_levelSum, a_levelProduct⟩ := u
  obtain ⟨rfl, hT, hD⟩ := hX
  obtain ⟨rfl, rfl, rfl, d4, d5, d6, d7, d8, d9, d10, d11, d12, d13, d14⟩ := hD
  obtain ⟨f_length, f_tokenCount', f_itemCount', f_blockCount', f_looseCount', f_numberCount, f_operatorCount, a_text', a_kinds, a_starts, a_ends, a_owners, a_meant, a_firsts, a_lasts, a_sorts, a_blocks, a_knowns, a_values, a_around, a_depths, a_compared, a_numbers, a_operators⟩ := v
  by_cases z1 : v2 < 0
  · exact br_t z1 (br_t z1 ⟨rfl, I2⟩)
  · refine br_f z1 ?_
    obtain ⟨ch, hch, rfl⟩ := nI_of z1
    refine pk_le ch 4 (fun h4 => ?_) (fun h4 => br_f z1 (br_f (nI_ge (a := 4) h4 (by omega)) ⟨rfl, I2⟩))
    have hle4 : nI ch ≤ 4 := nI_le (b := 4) h4 (by omega)
    have hno : ((v1 < 0 ∨ nI (pq_N c n) ≤ v1) ∨ ∃ j, j < pq_N c n ∧ v1 = nI j ∧ ¬ mn_so (pq_K c n) (pq_T c n) j = 2) → wpY_rename (fun r' v' => r' = -3 ∧ i_Rel (k + 5) (nI n, nI (pq_T c n), nI (pq_N c n), f_blockCount, f_openCount, nI (pq_L c n), a_text, a_characterToken, a_tokenKind, a_tokenStart, a_tokenEnd, a_tokenItem, a_tokenMeaning, a_itemFirst, a_itemEnd, a_itemSort, a_itemDepth, a_itemBlock, a_itemUses, a_itemKnown, a_itemValue, a_blockEnd, a_openBlocks, a_levelCompares, a_levelLeft, a_levelSum, a_levelProduct) v') (f_length, f_tokenCount', f_itemCount', f_blockCount', f_looseCount', f_numberCount, f_operatorCount, a_text', a_kinds, a_starts, a_ends, a_owners, a_meant, a_firsts, a_lasts, a_sorts, a_blocks, a_knowns, a_values, a_around, a_depths, a_compared, a_numbers, a_operators) v1 (nI ch) := by
      intro hz
      refine br_f z1 (br_t hle4 ?_)
      refine yq_rd hn hc hY (fun f_blockCount f_numberCount f_operatorCount a_kinds a_starts a_ends a_owners a_meant a_firsts a_lasts a_sorts a_blocks a_knowns a_values a_around a_depths a_compared a_numbers a_operators a_text' hT' hD' => ?_)
      obtain ⟨e1, e2, e3, e4, e5, e6, e7, e8, e9, e10, e11, e12, e13, e14⟩ := hD'
      rcases ed_ix v1 (n := pq_N c n) (by omega) with z | z | ⟨j, hj, rfl⟩
      · exact br_t z ⟨rfl, c, n, hn, hc, hX2, rfl, hT'⟩
      · exact br_f z.1 (br_t z.2 ⟨rfl, c, n, hn, hc, hX2, rfl, hT'⟩)
      · have hs2 : mn_so (pq_K c n) (pq_T c n) j ≤ 2 := ex_so_le _ _ _
        refine br_f (nI_pos (by omega)) (br_f (nI_ge hj (by omega)) ⟨pk_in j 80 (by omega), pk_eq (mn_so (pq_K c n) (pq_T c n) j) 2 (fun y => ?_) (fun y => ⟨rfl, c, n, hn, hc, hX2, rfl, hT'⟩) (ed_rt j (e10 j hj))⟩)
        exfalso
        cases hz with
        | inl hz =>
          cases hz with
          | inl w => exact nI_pos (by omega) w
          | inr w => exact nI_ge hj (by omega) w
        | inr hz =>
          obtain ⟨j2, w1, w2, w3⟩ := hz
          have := (nI_eq (show j < 2 ^ 31 by omega) (show j2 < 2 ^ 31 by omega)).mp w2
          subst this
          exact w3 y
    unfold wpX_isDefinition
    refine xq_isItem _ _ _ _ _ _ _ _ _ _ _ _ _ _ _ _ _ _ _ _ _ _ _ _ _ _ hNN (fun z => br_t rfl (br_t rfl (hno (Or.inl z)))) (fun j hj hx => ?_)
    subst hx
    have hs2 : mn_so (pq_K c n) (pq_T c n) j ≤ 2 := ex_so_le _ _ _
    refine br_f (by decide) ⟨pk_in j 80 (by omega), pk_eq (mn_so (pq_K c n) (pq_T c n) j) 2 (fun hs => br_f (by decide) ⟨pk_in j 80 (by omega), ?_⟩) (fun hs => br_t rfl (hno (Or.inr ⟨j, hj, rfl, hs⟩))) (ed_rt j (d10 j hj))⟩
    have hE := it_E (k := pq_K c n) (T := pq_T c n) hj
    have hfT : it_fi (pq_K c n) (pq_T c n + 1) j < pq_T c n := by omega
    have hMl : ∀ t d, pq_M c n t = some d → d < 80 := fun t d hd => by have := mn_mt_lt hd; omega
    have hfin : mn_ct (pq_M c n) j (pq_T c n) + 1 = rn_c (rx_t (it_fi (pq_K c n) (pq_T c n + 1) j) j (pq_M c n)) (pq_T c n) := by
      have := rn_c_m (f := pq_M c n) (i := j) (mn_mt_fi (nm := mn_nm c (pq_S c n) (pq_E c n)) hj hs) (T := pq_T c n)
      rw [if_pos hfT] at this
      exact this.symm
    have hl18 : ∀ x, x ∈ rz_l c n j ch → x ≤ 18 := rn_f_18 hc (by omega) n 0 (by omega)
    have hln : (rz_l c n j ch).length ≤ n := rn_f_len _ _ _ _ _ _
    refine nm_r (e' := nI (rn_c (rx_t (it_fi (pq_K c n) (pq_T c n + 1) j) j (pq_M c n)) (pq_T c n))) ?_ ?_
    · rw [ed_rt j (d12 j hj), nI_1, hfin]
    · refine ⟨n + 1, ?_⟩
      refine rx_loop (c := c) (S := pq_S c n) (A := pq_A c n) (M := pq_M c n) (T := pq_T c n) (fv := it_fi (pq_K c n) (pq_T c n + 1) j) (ch := ch) hn hTT (by omega) (by omega) (by omega) d4 i2 (d9 j hj) d8 hMl d6 (fun t ht => by have := p2 t ht; omega) (fun TX hTX => ?_) n 0 (by omega) _ (by omega) a_text trivial (fun q _ hq => hT q hq)
      have hA : ed_ag TX (rz_c (rz_l c n j ch)) (rz_l c n j ch).length := rz_ag hTX
      refine xr_read (n := (rz_l c n j ch).length) (by omega) (rz_18 hl18) hA (fun f_tokenCount f_itemCount f_blockCount f_openCount f_looseCount a_characterToken a_tokenKind a_tokenStart a_tokenEnd a_tokenItem a_tokenMeaning a_itemFirst a_itemEnd a_itemSort a_itemDepth a_itemBlock a_itemUses a_itemKnown a_itemValue a_blockEnd a_openBlocks a_levelCompares a_levelLeft a_levelSum a_levelProduct hD => ?_)
      refine br_f z1 (br_t hle4 ?_)
      refine yq_rd hn hc hY (fun f_blockCount' f_numberCount f_operatorCount a_kinds a_starts a_ends a_owners a_meant a_firsts a_lasts a_sorts a_blocks a_knowns a_values a_around a_depths a_compared a_numbers a_operators a_text' hT' hD' => ?_)
      obtain ⟨e1, e2, e3, e4, e5, e6, e7, e8, e9, e10, e11, e12, e13, e14⟩ := hD'
      refine br_f (nI_pos (by omega)) (br_f (nI_ge hj (by omega)) ⟨pk_in j 80 (by omega), br_t (by rw [ed_rt j (e10 j hj), hs]; rfl) (nm_e ⟨pq_T c n + 1, ?_⟩)⟩)
      have res := ry_loop (post := fun r' v' => r' = nI (rn_c (rx_t (it_fi (pq_K c n) (pq_T c n + 1) j) j (pq_M c n)) (pq_T c n)) ∧ i_Rel (k + 5) (nI (rz_l c n j ch).length, f_tokenCount, f_itemCount, f_blockCount, f_openCount, f_looseCount, TX, a_characterToken, a_tokenKind, a_tokenStart, a_tokenEnd, a_tokenItem, a_tokenMeaning, a_itemFirst, a_itemEnd, a_itemSort, a_itemDepth, a_itemBlock, a_itemUses, a_itemKnown, a_itemValue, a_blockEnd, a_openBlocks, a_levelCompares, a_levelLeft, a_levelSum, a_levelProduct) v')
        (f_tokenCount := nI (pq_T c n)) (f_itemCount := nI (pq_N c n)) (f_blockCount := f_blockCount') (f_looseCount := nI (pq_L c n)) (f_numberCount := f_numberCount) (f_operatorCount := f_operatorCount) (a_kinds := a_kinds) (a_owners := a_owners) (a_lasts := a_lasts) (a_sorts := a_sorts) (a_blocks := a_blocks) (a_knowns := a_knowns) (a_values := a_values) (a_around := a_around) (a_depths := a_depths) (a_compared := a_compared) (a_numbers := a_numbers) (a_operators := a_operators)
        (c := c) (S := pq_S c n) (E := pq_E c n) (A := pq_A c n) (M := pq_M c n) (T := pq_T c n) (fv := it_fi (pq_K c n) (pq_T c n + 1) j) (ch := ch) hn hTT (show j < 80 by omega) (by omega) (e9 j hj) e8 hMl e5 e6 i4 i7 i2 i5
        (fun TY hTY => ⟨rfl, rz_c (rz_l c n j ch), (rz_l c n j ch).length, by omega, rz_18 hl18, ⟨rfl, hA, hD⟩, ⟨rfl, rz_ag hTY⟩⟩)
        (pq_T c n) (Nat.le_refl _) _ rfl (pq_T c n + 1) (by omega) a_text' n (Nat.le_refl _) (fun z => absurd z (Nat.lt_irrefl _)) (fun _ => rfl) hT' (by rw [Nat.sub_self]; trivial)
      rw [Nat.sub_self, Nat.sub_self] at res
      exact res
end
