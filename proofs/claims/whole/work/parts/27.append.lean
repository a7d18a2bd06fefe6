section
/-! append -/
def ap_e (o : Option Nat) : Int32 := match o with | none => -1 | some ch => nI ch
def ap_n (o : Option Nat) : Nat := match o with | none => 0 | some _ => 1
def ap_c (c : Nat → Nat) (n : Nat) (o : Option Nat) : Nat → Nat := match o with | none => c | some ch => ed_fu c n ch
def ap_k (o : Option Nat) : Prop := ∀ ch, o = some ch → ch ≤ 18
def ap_o (x : Int32) : Prop := x = -1 ∨ (¬ x < 0 ∧ ¬ 18 < x)
theorem ap_oe {x : Int32} (h : ap_o x) : ∃ o, ap_k o ∧ x = ap_e o := by
  cases h with
  | inl h => exact ⟨none, (fun ch z => by cases z), h⟩
  | inr h =>
    obtain ⟨ch, h1, h2⟩ := es_18 h.1 h.2
    exact ⟨some ch, (fun d z => by cases z; exact h1), h2⟩
theorem ap_m1 {ch : Nat} (h : ch ≤ 18) : ¬ nI ch = (-1 : Int32) := by
  intro z
  have := nI_pos' (n := ch) (by omega)
  rw [z] at this
  exact absurd this (by decide)
theorem ap_p0 {ch : Nat} (h : ch ≤ 18) : ¬ nI ch < 0 := nI_pos (by omega)
theorem ap_p18 {ch : Nat} (h : ch ≤ 18) : ¬ (18 : Int32) < nI ch := nI_nlt (b := ch) (a := 18) h (by omega)
theorem ap_eo {o : Option Nat} (h : ap_k o) : ap_o (ap_e o) := by
  cases o with
  | none => exact Or.inl rfl
  | some ch => exact Or.inr ⟨ap_p0 (h ch rfl), ap_p18 (h ch rfl)⟩
theorem ap_c18 {c : Nat → Nat} {n : Nat} {o : Option Nat} (hc : ∀ j, j < n → c j ≤ 18) (h : ap_k o) : ∀ j, j < n + ap_n o → ap_c c n o j ≤ 18 := by
  cases o with
  | none => exact hc
  | some ch =>
    intro j hj
    show ed_fu c n ch j ≤ 18
    have hj2 : j < n + 1 := hj
    by_cases z : j = n
    · subst z; rw [ed_fs]; exact h ch rfl
    · rw [ed_fn z]; exact hc j (by omega)
theorem ap_n1 (o : Option Nat) : ap_n o ≤ 1 := by
  cases o with
  | none => exact Nat.zero_le _
  | some ch => exact Nat.le_refl _
variable {f_size f_tokenCount f_itemCount f_blockCount f_openCount f_looseCount : Int32} {a_text a_characterToken a_tokenKind a_tokenStart a_tokenEnd a_tokenItem a_tokenMeaning a_itemFirst a_itemEnd a_itemSort a_itemDepth a_itemBlock a_itemUses a_itemKnown a_itemValue a_blockEnd a_openBlocks a_levelCompares a_levelLeft a_levelSum a_levelProduct : Nat → Int32}
theorem xa_may {post : Int32 → Prop} {x : Int32} (h1 : ap_o x → post 1) (h0 : ¬ ap_o x → post 0) : wpX_mayAppend post (f_size, f_tokenCount, f_itemCount, f_blockCount, f_openCount, f_looseCount, a_text, a_characterToken, a_tokenKind, a_tokenStart, a_tokenEnd, a_tokenItem, a_tokenMeaning, a_itemFirst, a_itemEnd, a_itemSort, a_itemDepth, a_itemBlock, a_itemUses, a_itemKnown, a_itemValue, a_blockEnd, a_openBlocks, a_levelCompares, a_levelLeft, a_levelSum, a_levelProduct) x := by
  refine br_c (fun z => h1 (Or.inl z)) (fun z => br_c (fun y => h0 ?_) (fun y => br_c (fun w => h0 ?_) (fun w => h1 (Or.inr ⟨y, w⟩))))
  · intro q
    cases q with
    | inl q => exact z q
    | inr q => exact q.1 y
  · intro q
    cases q with
    | inl q => exact z q
    | inr q => exact q.2 w
theorem xa_places {post : Int32 → Prop} {o : Option Nat} (ho : ap_k o) (h : post (nI (ap_n o))) : wpX_places post (f_size, f_tokenCount, f_itemCount, f_blockCount, f_openCount, f_looseCount, a_text, a_characterToken, a_tokenKind, a_tokenStart, a_tokenEnd, a_tokenItem, a_tokenMeaning, a_itemFirst, a_itemEnd, a_itemSort, a_itemDepth, a_itemBlock, a_itemUses, a_itemKnown, a_itemValue, a_blockEnd, a_openBlocks, a_levelCompares, a_levelLeft, a_levelSum, a_levelProduct) (ap_e o) := by
  cases o with
  | none => exact br_t rfl h
  | some ch => exact br_f (ap_m1 (ho ch rfl)) h
theorem xa_put {post : SX → Prop} {c : Nat → Nat} {n : Nat} {o : Option Nat} (ho : ap_k o) (hT : ed_ag a_text c n) (hr : n + ap_n o ≤ 80) (h : ∀ a_text : Nat → Int32, ed_ag a_text (ap_c c n o) (n + ap_n o) → post (nI (n + ap_n o), f_tokenCount, f_itemCount, f_blockCount, f_openCount, f_looseCount, a_text, a_characterToken, a_tokenKind, a_tokenStart, a_tokenEnd, a_tokenItem, a_tokenMeaning, a_itemFirst, a_itemEnd, a_itemSort, a_itemDepth, a_itemBlock, a_itemUses, a_itemKnown, a_itemValue, a_blockEnd, a_openBlocks, a_levelCompares, a_levelLeft, a_levelSum, a_levelProduct)) : wpX_putLast post (nI n, f_tokenCount, f_itemCount, f_blockCount, f_openCount, f_looseCount, a_text, a_characterToken, a_tokenKind, a_tokenStart, a_tokenEnd, a_tokenItem, a_tokenMeaning, a_itemFirst, a_itemEnd, a_itemSort, a_itemDepth, a_itemBlock, a_itemUses, a_itemKnown, a_itemValue, a_blockEnd, a_openBlocks, a_levelCompares, a_levelLeft, a_levelSum, a_levelProduct) (ap_e o) := by
  cases o with
  | none => exact br_t rfl (h a_text hT)
  | some ch =>
    have hr2 : n + 1 ≤ 80 := hr
    exact br_f (ap_m1 (ho ch rfl)) (br_f (nI_ge (b := 80) (by omega) (by omega)) ⟨pk_in n 80 (by omega), ed_nu n (nm_r (nI_1 n) (h _ (ed_ag_s hT)))⟩)
end
section
def ap_w (a b c d : Int32) (i : Nat) : Int32 := if i = 0 then a else if i = 1 then b else if i = 2 then c else d
variable {f_length f_tokenCount f_itemCount f_blockCount f_looseCount f_numberCount f_operatorCount : Int32} {a_text a_kinds a_starts a_ends a_owners a_meant a_firsts a_lasts a_sorts a_blocks a_knowns a_values a_around a_depths a_compared a_numbers a_operators : Nat → Int32}
theorem ya_one {post : Int32 → Prop} {a b c d : Int32} {i : Nat} (hi : i < 4) (h : post (ap_w a b c d i)) : wpY_oneOf post (f_length, f_tokenCount, f_itemCount, f_blockCount, f_looseCount, f_numberCount, f_operatorCount, a_text, a_kinds, a_starts, a_ends, a_owners, a_meant, a_firsts, a_lasts, a_sorts, a_blocks, a_knowns, a_values, a_around, a_depths, a_compared, a_numbers, a_operators) (nI i) a b c d := by
  unfold ap_w at h
  refine pk_eq i 0 (fun z => ?_) (fun z => pk_eq i 1 (fun y => ?_) (fun y => pk_eq i 2 (fun w => ?_) (fun w => ?_)))
  · rw [if_pos z] at h; exact h
  · rw [if_neg z, if_pos y] at h; exact h
  · rw [if_neg z, if_neg y, if_pos w] at h; exact h
  · rw [if_neg z, if_neg y, if_neg w] at h; exact h
theorem ya_bad {post : Int32 → SY → Prop} {a b c d : Int32} (h : post (-1) (f_length, f_tokenCount, f_itemCount, f_blockCount, f_looseCount, f_numberCount, f_operatorCount, a_text, a_kinds, a_starts, a_ends, a_owners, a_meant, a_firsts, a_lasts, a_sorts, a_blocks, a_knowns, a_values, a_around, a_depths, a_compared, a_numbers, a_operators)) : ∀ dd i, i + dd = 4 → ∀ m : Int32, (∃ j, i ≤ j ∧ j < 4 ∧ ¬ ap_o (ap_w a b c d j)) → ∀ f, dd < f → (wY_append_6 post a b c d f_length f_tokenCount f_itemCount f_blockCount f_looseCount f_numberCount f_operatorCount a_text a_kinds a_starts a_ends a_owners a_meant a_firsts a_lasts a_sorts a_blocks a_knowns a_values a_around a_depths a_compared a_numbers a_operators f m (nI i)) := by
  intro dd
  induction dd with
  | zero =>
    intro i hi m hb f hf
    obtain ⟨j, h1, h2, _⟩ := hb
    omega
  | succ dd ih =>
    intro i hi m hb f hf
    obtain ⟨f, rfl⟩ : ∃ g, f = g + 1 := ⟨f - 1, by omega⟩
    refine br_f (nI_ge (b := 4) (by omega) (by omega)) (ya_one (by omega) ?_)
    by_cases ho : ap_o (ap_w a b c d i)
    · have hn : ∀ m : Int32, (wY_append_6 post a b c d f_length f_tokenCount f_itemCount f_blockCount f_looseCount f_numberCount f_operatorCount a_text a_kinds a_starts a_ends a_owners a_meant a_firsts a_lasts a_sorts a_blocks a_knowns a_values a_around a_depths a_compared a_numbers a_operators f m (nI (i + 1))) := by
        intro m
        refine ih (i + 1) (by omega) m ?_ f (by omega)
        obtain ⟨j, h1, h2, h3⟩ := hb
        refine ⟨j, ?_, h2, h3⟩
        by_cases z : j = i
        · rw [z] at h3; exact absurd ho h3
        · omega
      have h42 : (wY_append_42 post (wY_append_6 post a b c d f_length f_tokenCount f_itemCount f_blockCount f_looseCount f_numberCount f_operatorCount a_text a_kinds a_starts a_ends a_owners a_meant a_firsts a_lasts a_sorts a_blocks a_knowns a_values a_around a_depths a_compared a_numbers a_operators f) a b c d m (nI i) (ap_w a b c d i) f_length f_tokenCount f_itemCount f_blockCount f_looseCount f_numberCount f_operatorCount a_text a_kinds a_starts a_ends a_owners a_meant a_firsts a_lasts a_sorts a_blocks a_knowns a_values a_around a_depths a_compared a_numbers a_operators) := br_c (fun _ => nm_r (nI_1 i) (hn m)) (fun _ => nm_e (nm_r (nI_1 i) (hn _)))
      refine br_c (fun _ => h42) (fun z => ?_)
      refine ys_isC (fun y => ?_) (fun _ _ => br_f (by decide) h42)
      cases ho with
      | inl q => exact absurd q z
      | inr q =>
        cases y with
        | inl y => exact absurd y q.1
        | inr y => exact absurd y q.2
    · refine br_f (fun z => ho (Or.inl z)) (ys_isC (fun _ => br_t rfl h) (fun y1 y2 => absurd (Or.inr ⟨y1, y2⟩) ho))
def ap_s (o : Nat → Option Nat) : Nat → Nat
  | 0 => 0
  | i + 1 => ap_s o i + ap_n (o i)
theorem ya_cnt {post : Int32 → SY → Prop} {a b c d : Int32} {o : Nat → Option Nat} (ho : ∀ i, i < 4 → ap_k (o i) ∧ ap_w a b c d i = ap_e (o i)) (h : (wY_append_6 post a b c d f_length f_tokenCount f_itemCount f_blockCount f_looseCount f_numberCount f_operatorCount a_text a_kinds a_starts a_ends a_owners a_meant a_firsts a_lasts a_sorts a_blocks a_knowns a_values a_around a_depths a_compared a_numbers a_operators 1 (nI (ap_s o 4)) 4)) :
    ∀ dd i, i + dd = 4 → (wY_append_6 post a b c d f_length f_tokenCount f_itemCount f_blockCount f_looseCount f_numberCount f_operatorCount a_text a_kinds a_starts a_ends a_owners a_meant a_firsts a_lasts a_sorts a_blocks a_knowns a_values a_around a_depths a_compared a_numbers a_operators (dd + 1) (nI (ap_s o i)) (nI i)) := by
  intro dd
  induction dd with
  | zero =>
    intro i hi
    have e : i = 4 := by omega
    subst e; exact h
  | succ dd ih =>
    intro i hi
    have ih := ih (i + 1) (by omega)
    obtain ⟨hk, hw⟩ := ho i (by omega)
    refine br_f (nI_ge (b := 4) (by omega) (by omega)) (ya_one (by omega) ?_)
    rw [hw]
    have e1 : ap_s o (i + 1) = ap_s o i + ap_n (o i) := rfl
    rw [e1] at ih
    cases hoi : o i with
    | none =>
      rw [hoi] at ih
      exact br_t rfl (br_t rfl (nm_r (nI_1 i) ih))
    | some ch =>
      rw [hoi] at ih hk
      have hch := hk ch rfl
      refine br_f (ap_m1 hch) (ys_isC (fun y => ?_) (fun _ _ => br_f (by decide) (br_f (ap_m1 hch) (nm_r (nI_1 _) (nm_r (nI_1 i) ih)))))
      cases y with
      | inl y => exact absurd y (ap_p0 hch)
      | inr y => exact absurd y (ap_p18 hch)
def ap_t (c : Nat → Nat) (n : Nat) (o : Nat → Option Nat) : Nat → Nat → Nat
  | 0 => c
  | i + 1 => ap_c (ap_t c n o i) (n + ap_s o i) (o i)
theorem ap_sm (o : Nat → Option Nat) (i : Nat) : ap_s o i ≤ ap_s o (i + 1) := Nat.le_add_right _ _
theorem ap_s4 {o : Nat → Option Nat} {i : Nat} (h : i ≤ 4) : ap_s o i ≤ ap_s o 4 := by
  have h0 : ap_s o 0 ≤ ap_s o 1 := ap_sm o 0
  have h1 : ap_s o 1 ≤ ap_s o 2 := ap_sm o 1
  have h2 : ap_s o 2 ≤ ap_s o 3 := ap_sm o 2
  have h3 : ap_s o 3 ≤ ap_s o 4 := ap_sm o 3
  have : i = 0 ∨ i = 1 ∨ i = 2 ∨ i = 3 ∨ i = 4 := by omega
  rcases this with rfl | rfl | rfl | rfl | rfl <;> omega
theorem es_ap (c : Nat → Nat) (n ch : Nat) {A : Nat → Int32} (h : ed_ag A (es_in c n ch) (n + 1)) : ed_ag A (ed_fu c n ch) (n + 1) := by
  intro j hj
  rw [h j hj]
  unfold es_in ed_fu
  by_cases z : j = n
  · rw [if_neg (by omega), if_pos z, if_pos z]
  · rw [if_pos (by omega), if_neg z]
theorem ya_put {post : Int32 → SY → Prop} {a b c d : Int32} {t : Nat → Nat} {n : Nat} {o : Nat → Option Nat} (ho : ∀ i, i < 4 → ap_k (o i) ∧ ap_w a b c d i = ap_e (o i)) (hr : n + ap_s o 4 ≤ 80) (h : ∀ a_text : Nat → Int32, ed_ag a_text (ap_t t n o 4) (n + ap_s o 4) → post (nI (n + ap_s o 4)) (nI (n + ap_s o 4), f_tokenCount, f_itemCount, f_blockCount, f_looseCount, f_numberCount, f_operatorCount, a_text, a_kinds, a_starts, a_ends, a_owners, a_meant, a_firsts, a_lasts, a_sorts, a_blocks, a_knowns, a_values, a_around, a_depths, a_compared, a_numbers, a_operators)) :
    ∀ dd i, i + dd = 4 → ∀ a_text : Nat → Int32, ed_ag a_text (ap_t t n o i) (n + ap_s o i) → (wY_append_83 post a b c d (dd + 1) (nI i) (nI (n + ap_s o i)) f_tokenCount f_itemCount f_blockCount f_looseCount f_numberCount f_operatorCount a_text a_kinds a_starts a_ends a_owners a_meant a_firsts a_lasts a_sorts a_blocks a_knowns a_values a_around a_depths a_compared a_numbers a_operators) := by
  intro dd
  induction dd with
  | zero =>
    intro i hi A hA
    have e : i = 4 := by omega
    subst e
    exact br_t (nI_le (a := 4) (b := 4) (Nat.le_refl _) (by omega)) (h A hA)
  | succ dd ih =>
    intro i hi A hA
    have ih := ih (i + 1) (by omega)
    obtain ⟨hk, hw⟩ := ho i (by omega)
    refine br_f (nI_ge (b := 4) (by omega) (by omega)) (ya_one (by omega) ?_)
    rw [hw]
    have e1 : ap_s o (i + 1) = ap_s o i + ap_n (o i) := rfl
    have e2 : ap_t t n o (i + 1) = ap_c (ap_t t n o i) (n + ap_s o i) (o i) := rfl
    have hle := ap_s4 (o := o) (i := i + 1) (by omega)
    rw [e1, e2] at ih
    rw [e1] at hle
    cases hoi : o i with
    | none =>
      rw [hoi] at ih
      exact br_t rfl (nm_r (nI_1 i) (ih A hA))
    | some ch =>
      rw [hoi] at ih hk hle
      have hch := hk ch rfl
      have hn1 : ap_n (some ch) = 1 := rfl
      refine br_f (ap_m1 hch) (ys_put (ch := ch) (by omega) (Nat.le_refl _) hA (fun A2 hA2 => ?_))
      exact nm_r (nI_1 i) (ih A2 (es_ap _ _ _ hA2))
end
section
theorem i_vc_append {k : Nat} {u : SX} {v : SY} (I : i_Rel k u v) (hk : k + 5 ≤ 2560) (v1 : Int32) (v2 : Int32) (v3 : Int32) (v4 : Int32) : wpX_append (fun r u' => wpY_append (fun r' v' => r' = r ∧ i_Rel (k + 5) u' v') v v1 v2 v3 v4) u v1 v2 v3 v4 := by
  have I2 := I
  obtain ⟨c, n, hn, hc, hX, hY⟩ := I
  obtain ⟨f_size, f_tokenCount, f_itemCount, f_blockCount, f_openCount, f_looseCount, a_text, a_characterToken, a_tokenKind, a_tokenStart, a_tokenEnd, a_tokenItem, a_tokenMeaning, a_itemFirst, a_itemEnd, a_itemSort, a_itemDepth, a_itemBlock, a_itemUses, a_itemKnown, a_itemValue, a_blockEnd, a_openBlocks, a_levelCompares, a_levelLeft, a_levelSum, a_levelProduct⟩ := u
  obtain ⟨f_length, f_tokenCount', f_itemCount', f_blockCount', f_looseCount', f_numberCount, f_operatorCount, a_text', a_kinds, a_starts, a_ends, a_owners, a_meant, a_firsts, a_lasts, a_sorts, a_blocks, a_knowns, a_values, a_around, a_depths, a_compared, a_numbers, a_operators⟩ := v
  obtain ⟨rfl, hT, hD⟩ := hX
  obtain ⟨rfl, hT'⟩ := hY
  unfold wpX_append
  refine xa_may (fun o1 => br_f (by decide) ?_) (fun o1 => br_t rfl ⟨5, ya_bad ⟨rfl, I2⟩ 4 0 rfl _ ⟨0, by omega, by omega, o1⟩ 5 (by omega)⟩)
  refine xa_may (fun o2 => br_f (by decide) ?_) (fun o2 => br_t rfl ⟨5, ya_bad ⟨rfl, I2⟩ 4 0 rfl _ ⟨1, by omega, by omega, o2⟩ 5 (by omega)⟩)
  refine xa_may (fun o3 => br_f (by decide) ?_) (fun o3 => br_t rfl ⟨5, ya_bad ⟨rfl, I2⟩ 4 0 rfl _ ⟨2, by omega, by omega, o3⟩ 5 (by omega)⟩)
  refine xa_may (fun o4 => br_f (by decide) ?_) (fun o4 => br_t rfl ⟨5, ya_bad ⟨rfl, I2⟩ 4 0 rfl _ ⟨3, by omega, by omega, o4⟩ 5 (by omega)⟩)
  obtain ⟨p1, k1, rfl⟩ := ap_oe o1
  obtain ⟨p2, k2, rfl⟩ := ap_oe o2
  obtain ⟨p3, k3, rfl⟩ := ap_oe o3
  obtain ⟨p4, k4, rfl⟩ := ap_oe o4
  refine xa_places k1 (xa_places k2 (xa_places k3 (xa_places k4 ?_)))
  have n1 := ap_n1 p1
  have n2 := ap_n1 p2
  have n3 := ap_n1 p3
  have n4 := ap_n1 p4
  have hsum : ((nI (ap_n p1) + nI (ap_n p2)) + nI (ap_n p3)) + nI (ap_n p4) = nI (ap_n p1 + ap_n p2 + ap_n p3 + ap_n p4) := by rw [nI_add, nI_add, nI_add]
  let o : Nat → Option Nat := fun i => if i = 0 then p1 else if i = 1 then p2 else if i = 2 then p3 else p4
  have hs4 : ap_s o 4 = ap_n p1 + ap_n p2 + ap_n p3 + ap_n p4 := by
    show 0 + ap_n p1 + ap_n p2 + ap_n p3 + ap_n p4 = _
    rw [Nat.zero_add]
  have ho : ∀ i, i < 4 → ap_k (o i) ∧ ap_w (ap_e p1) (ap_e p2) (ap_e p3) (ap_e p4) i = ap_e (o i) := by
    intro i hi
    have : i = 0 ∨ i = 1 ∨ i = 2 ∨ i = 3 := by omega
    rcases this with rfl | rfl | rfl | rfl
    · exact ⟨k1, rfl⟩
    · exact ⟨k2, rfl⟩
    · exact ⟨k3, rfl⟩
    · exact ⟨k4, rfl⟩
  refine nm_r hsum (pk_le (n + (ap_n p1 + ap_n p2 + ap_n p3 + ap_n p4)) 80 (fun hle => ?_) (fun hgt => ?_) (nI_add _ _))
  · refine xa_put k1 hT (by omega) (fun A1 h1 => ?_)
    refine xa_put k2 h1 (by omega) (fun A2 h2 => ?_)
    refine xa_put k3 h2 (by omega) (fun A3 h3 => ?_)
    refine xa_put k4 h3 (by omega) (fun A4 h4 => ?_)
    have hc1 := ap_c18 hc k1
    have hc2 := ap_c18 hc1 k2
    have hc3 := ap_c18 hc2 k3
    have hc4 := ap_c18 hc3 k4
    refine xr_read (n := n + ap_n p1 + ap_n p2 + ap_n p3 + ap_n p4) (by omega) hc4 h4 (fun f_tokenCount f_itemCount f_blockCount f_openCount f_looseCount a_characterToken a_tokenKind a_tokenStart a_tokenEnd a_tokenItem a_tokenMeaning a_itemFirst a_itemEnd a_itemSort a_itemDepth a_itemBlock a_itemUses a_itemKnown a_itemValue a_blockEnd a_openBlocks a_levelCompares a_levelLeft a_levelSum a_levelProduct hD => ?_)
    refine ⟨5, ya_cnt ho ?_ 4 0 rfl⟩
    refine br_t (by decide) (pk_le (n + ap_s o 4) 80 (fun _ => ⟨5, ?_⟩) (fun y => by omega) (nI_add _ _))
    refine ya_put ho (by omega) (fun A hA => ?_) 4 0 rfl a_text' hT'
    have el : n + ap_s o 4 = n + ap_n p1 + ap_n p2 + ap_n p3 + ap_n p4 := by omega
    rw [el] at hA
    refine ⟨by rw [el], ap_c (ap_c (ap_c (ap_c c n p1) (n + ap_n p1) p2) (n + ap_n p1 + ap_n p2) p3) (n + ap_n p1 + ap_n p2 + ap_n p3) p4, n + ap_n p1 + ap_n p2 + ap_n p3 + ap_n p4, by omega, hc4, ⟨rfl, h4, hD⟩, ⟨by rw [el], ?_⟩⟩
    have et : ap_t c n o 4 = ap_c (ap_c (ap_c (ap_c c n p1) (n + ap_n p1) p2) (n + ap_n p1 + ap_n p2) p3) (n + ap_n p1 + ap_n p2 + ap_n p3) p4 := by
      show ap_c (ap_c (ap_c (ap_c c (n + 0) p1) (n + (0 + ap_n p1)) p2) (n + (0 + ap_n p1 + ap_n p2)) p3) (n + (0 + ap_n p1 + ap_n p2 + ap_n p3)) p4 = _
      rw [Nat.zero_add, Nat.add_zero, show n + (ap_n p1 + ap_n p2) = n + ap_n p1 + ap_n p2 from by omega, show n + (ap_n p1 + ap_n p2 + ap_n p3) = n + ap_n p1 + ap_n p2 + ap_n p3 from by omega]
    rw [et] at hA; exact hA
  · refine ⟨5, ya_cnt ho ?_ 4 0 rfl⟩
    exact br_t (by decide) (pk_le (n + ap_s o 4) 80 (fun y => by omega) (fun _ => ⟨rfl, I2⟩) (nI_add _ _))
end
