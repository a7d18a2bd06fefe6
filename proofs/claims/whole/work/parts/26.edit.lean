section
/-! new object, clear, insert, remove -/
theorem i_vc0 : wpX_init (fun u => wpY_init (fun v => i_Rel 0 u v)) := by
  refine ⟨fun _ => 0, 0, by omega, fun j hj => absurd hj (Nat.not_lt_zero _), ⟨rfl, fun j hj => absurd hj (Nat.not_lt_zero _), rfl, rfl, rfl, ?_, ?_, ?_, ?_, ?_, ?_, ?_, ?_, ?_, ?_, ?_⟩, ⟨rfl, fun j hj => absurd hj (Nat.not_lt_zero _)⟩⟩
  all_goals exact fun j hj => absurd hj (Nat.not_lt_zero _)
theorem i_vc_clear {k : Nat} {u : SX} {v : SY} (I : i_Rel k u v) (hk : k + 5 ≤ 2560) : wpX_clear (fun u' => wpY_clear (fun v' => i_Rel (k + 5) u' v') v) u := by
  obtain ⟨c, n, hn, hc, hX, hY⟩ := I
  obtain ⟨f_size, f_tokenCount, f_itemCount, f_blockCount, f_openCount, f_looseCount, a_text, a_characterToken, a_tokenKind, a_tokenStart, a_tokenEnd, a_tokenItem, a_tokenMeaning, a_itemFirst, a_itemEnd, a_itemSort, a_itemDepth, a_itemBlock, a_itemUses, a_itemKnown, a_itemValue, a_blockEnd, a_openBlocks, a_levelCompares, a_levelLeft, a_levelSum, a_levelProduct⟩ := u
  unfold wpX_clear
  refine xr_read (c := c) (n := 0) (by omega) (fun j hj => absurd hj (Nat.not_lt_zero _)) (fun j hj => absurd hj (Nat.not_lt_zero _)) (fun f_tokenCount f_itemCount f_blockCount f_openCount f_looseCount a_characterToken a_tokenKind a_tokenStart a_tokenEnd a_tokenItem a_tokenMeaning a_itemFirst a_itemEnd a_itemSort a_itemDepth a_itemBlock a_itemUses a_itemKnown a_itemValue a_blockEnd a_openBlocks a_levelCompares a_levelLeft a_levelSum a_levelProduct hD => ?_)
  obtain ⟨f_length, f_tokenCount', f_itemCount', f_blockCount', f_looseCount', f_numberCount, f_operatorCount, a_text', a_kinds, a_starts, a_ends, a_owners, a_meant, a_firsts, a_lasts, a_sorts, a_blocks, a_knowns, a_values, a_around, a_depths, a_compared, a_numbers, a_operators⟩ := v
  exact ⟨c, 0, by omega, fun j hj => absurd hj (Nat.not_lt_zero _), ⟨rfl, fun j hj => absurd hj (Nat.not_lt_zero _), hD⟩, ⟨rfl, fun j hj => absurd hj (Nat.not_lt_zero _)⟩⟩
def es_in (c : Nat → Nat) (p ch : Nat) : Nat → Nat := fun j => if j < p then c j else if j = p then ch else c (j - 1)
def es_rm (c : Nat → Nat) (p m : Nat) : Nat → Nat := fun j => if j < p then c j else c (j + m)
theorem es_in18 {c : Nat → Nat} {n p ch : Nat} (hc : ∀ j, j < n → c j ≤ 18) (hp : p ≤ n) (hch : ch ≤ 18) : ∀ j, j < n + 1 → es_in c p ch j ≤ 18 := by
  intro j hj
  unfold es_in
  split
  · exact hc j (by omega)
  · split
    · exact hch
    · exact hc (j - 1) (by omega)
theorem es_rm18 {c : Nat → Nat} {n p m : Nat} (hc : ∀ j, j < n → c j ≤ 18) (hp : p + m ≤ n) : ∀ j, j < n - m → es_rm c p m j ≤ 18 := by
  intro j hj
  unfold es_rm
  split
  · exact hc j (by omega)
  · exact hc (j + m) (by omega)
theorem es_inA {A : Nat → Int32} {c : Nat → Nat} {n p ch : Nat} (hp : p ≤ n) (h1 : ∀ j, j < p → A j = nI (c j)) (h2 : ∀ j, p < j → j ≤ n → A j = nI (c (j - 1))) : ed_ag (upd A p (nI ch)) (es_in c p ch) (n + 1) := by
  intro j hj
  unfold es_in
  by_cases z : j = p
  · subst z; rw [pk_us, if_neg (by omega), if_pos rfl]
  · rw [pk_un z]
    by_cases y : j < p
    · rw [if_pos y]; exact h1 j y
    · rw [if_neg y, if_neg z]; exact h2 j (by omega) (by omega)
theorem es_rmA {A : Nat → Int32} {c : Nat → Nat} {n p m : Nat} (h1 : ∀ j, j < p → A j = nI (c j)) (h2 : ∀ j, p ≤ j → j + m < n → A j = nI (c (j + m))) : ed_ag A (es_rm c p m) (n - m) := by
  intro j hj
  unfold es_rm
  by_cases y : j < p
  · rw [if_pos y]; exact h1 j y
  · rw [if_neg y]; exact h2 j (by omega) (by omega)
end
section
variable {f_size f_tokenCount f_itemCount f_blockCount f_openCount f_looseCount : Int32} {a_text a_characterToken a_tokenKind a_tokenStart a_tokenEnd a_tokenItem a_tokenMeaning a_itemFirst a_itemEnd a_itemSort a_itemDepth a_itemBlock a_itemUses a_itemKnown a_itemValue a_blockEnd a_openBlocks a_levelCompares a_levelLeft a_levelSum a_levelProduct : Nat → Int32}
theorem xs_in {post : Int32 → SX → Prop} {c : Nat → Nat} {n p ch : Nat} (hn : n < 80) (hp : p ≤ n) (hc : ∀ j, j < n → c j ≤ 18) (hch : ch ≤ 18) (h : ∀ u', ed_RX (es_in c p ch) (n + 1) u' → post (nI (n + 1)) u') :
    ∀ d q, q = p + d → q ≤ n → ∀ f, d < f → ∀ a_text : Nat → Int32, (∀ j, j < q → a_text j = nI (c j)) → (∀ j, q < j → j ≤ n → a_text j = nI (c (j - 1))) → (wX_insert_41 post (nI p) (nI ch) (nI n) f_tokenCount f_itemCount f_blockCount f_openCount f_looseCount f (nI q) a_text a_characterToken a_tokenKind a_tokenStart a_tokenEnd a_tokenItem a_tokenMeaning a_itemFirst a_itemEnd a_itemSort a_itemDepth a_itemBlock a_itemUses a_itemKnown a_itemValue a_blockEnd a_openBlocks a_levelCompares a_levelLeft a_levelSum a_levelProduct) := by
  intro d
  induction d with
  | zero =>
    intro q hq hqn f hf A g1 g2
    obtain ⟨f, rfl⟩ : ∃ g, f = g + 1 := ⟨f - 1, by omega⟩
    have e : q = p := by omega
    subst e
    refine br_t (nI_le (Nat.le_refl _) (by omega)) ⟨pk_in q 80 (by omega), ed_nu q (nm_r (nI_1 n) ?_)⟩
    have hA : ed_ag (upd A q (nI ch)) (es_in c q ch) (n + 1) := es_inA hp g1 g2
    exact xr_read (n := n + 1) (by omega) (es_in18 hc hp hch) hA (fun _ _ _ _ _ _ _ _ _ _ _ _ _ _ _ _ _ _ _ _ _ _ _ _ _ hD => h _ ⟨rfl, hA, hD⟩)
  | succ d ih =>
    intro q hq hqn f hf A g1 g2
    obtain ⟨f, rfl⟩ : ∃ g, f = g + 1 := ⟨f - 1, by omega⟩
    obtain ⟨q, rfl⟩ : ∃ g, q = g + 1 := ⟨q - 1, by omega⟩
    refine br_f (nI_ge (by omega) (by omega)) ⟨pk_in q 80 (by omega) (nI_pred q), pk_in (q + 1) 80 (by omega), ed_nuv (q + 1) (nI (c q)) (ed_rt q (g1 q (by omega)) (nI_pred q)) (nm_r (pk_m1 q) ?_)⟩
    refine ih q (by omega) (by omega) f (by omega) _ (fun j hj => ?_) (fun j hj1 hj2 => ?_)
    · rw [pk_un (by omega)]; exact g1 j (by omega)
    · by_cases z : j = q + 1
      · subst z; rw [pk_us]; rfl
      · rw [pk_un z]; exact g2 j (by omega) hj2
theorem xs_rm {post : Int32 → SX → Prop} {c : Nat → Nat} {n p m : Nat} (hn : n ≤ 80) (hp : p + m ≤ n) (hc : ∀ j, j < n → c j ≤ 18) (h : ∀ u', ed_RX (es_rm c p m) (n - m) u' → post (nI (n - m)) u') :
    ∀ d q, q + d = n → p + m ≤ q → ∀ f, d < f → ∀ a_text : Nat → Int32, (∀ j, j < p → a_text j = nI (c j)) → (∀ j, p ≤ j → j + m < q → a_text j = nI (c (j + m))) → (∀ j, q ≤ j → j < n → a_text j = nI (c j)) → (wX_remove_32 post (nI m) (nI n) f_tokenCount f_itemCount f_blockCount f_openCount f_looseCount f (nI q) a_text a_characterToken a_tokenKind a_tokenStart a_tokenEnd a_tokenItem a_tokenMeaning a_itemFirst a_itemEnd a_itemSort a_itemDepth a_itemBlock a_itemUses a_itemKnown a_itemValue a_blockEnd a_openBlocks a_levelCompares a_levelLeft a_levelSum a_levelProduct) := by
  intro d
  induction d with
  | zero =>
    intro q hq hpq f hf A g1 g2 g3
    obtain ⟨f, rfl⟩ : ∃ g, f = g + 1 := ⟨f - 1, by omega⟩
    have e : q = n := by omega
    subst e
    refine br_t (nI_le (Nat.le_refl _) (by omega)) (nm_r (pk_sub (by omega)) ?_)
    have hA : ed_ag A (es_rm c p m) (q - m) := es_rmA g1 g2
    exact xr_read (n := q - m) (by omega) (es_rm18 hc hp) hA (fun _ _ _ _ _ _ _ _ _ _ _ _ _ _ _ _ _ _ _ _ _ _ _ _ _ hD => h _ ⟨rfl, hA, hD⟩)
  | succ d ih =>
    intro q hq hpq f hf A g1 g2 g3
    obtain ⟨f, rfl⟩ : ∃ g, f = g + 1 := ⟨f - 1, by omega⟩
    refine br_f (nI_ge (by omega) (by omega)) ⟨pk_in q 80 (by omega), pk_in (q - m) 80 (by omega) (pk_sub (by omega)), ed_nuv (q - m) (nI (c q)) (ed_rt q (g3 q (Nat.le_refl _) (by omega))) (nm_r (nI_1 q) ?_) (pk_sub (by omega))⟩
    refine ih (q + 1) (by omega) (by omega) f (by omega) _ (fun j hj => ?_) (fun j hj1 hj2 => ?_) (fun j hj1 hj2 => ?_)
    · rw [pk_un (by omega)]; exact g1 j hj
    · by_cases z : j = q - m
      · subst z; rw [pk_us, show q - m + m = q from by omega]
      · rw [pk_un z]; exact g2 j hj1 (by omega)
    · rw [pk_un (by omega)]; exact g3 j (by omega) hj2
end
section
variable {f_length f_tokenCount f_itemCount f_blockCount f_looseCount f_numberCount f_operatorCount : Int32} {a_text a_kinds a_starts a_ends a_owners a_meant a_firsts a_lasts a_sorts a_blocks a_knowns a_values a_around a_depths a_compared a_numbers a_operators : Nat → Int32}
theorem ys_in {post : SY → Prop} {c : Nat → Nat} {n p ch : Nat} (hn : n < 80) (hp : p ≤ n) (h : ∀ a_text : Nat → Int32, ed_ag a_text (es_in c p ch) (n + 1) → post (nI (n + 1), f_tokenCount, f_itemCount, f_blockCount, f_looseCount, f_numberCount, f_operatorCount, a_text, a_kinds, a_starts, a_ends, a_owners, a_meant, a_firsts, a_lasts, a_sorts, a_blocks, a_knowns, a_values, a_around, a_depths, a_compared, a_numbers, a_operators)) :
    ∀ d q, q = p + d → q ≤ n → ∀ f, d < f → ∀ a_text : Nat → Int32, (∀ j, j < q → a_text j = nI (c j)) → (∀ j, q < j → j ≤ n → a_text j = nI (c (j - 1))) → (wY_putIn_5 post (nI p) (nI ch) (nI n) f_tokenCount f_itemCount f_blockCount f_looseCount f_numberCount f_operatorCount f (nI q) a_text a_kinds a_starts a_ends a_owners a_meant a_firsts a_lasts a_sorts a_blocks a_knowns a_values a_around a_depths a_compared a_numbers a_operators) := by
  intro d
  induction d with
  | zero =>
    intro q hq hqn f hf A g1 g2
    obtain ⟨f, rfl⟩ : ∃ g, f = g + 1 := ⟨f - 1, by omega⟩
    have e : q = p := by omega
    subst e
    exact br_t (nI_le (Nat.le_refl _) (by omega)) ⟨pk_in q 81 (by omega), ed_nu q (nm_r (nI_1 n) (h _ (es_inA hp g1 g2)))⟩
  | succ d ih =>
    intro q hq hqn f hf A g1 g2
    obtain ⟨f, rfl⟩ : ∃ g, f = g + 1 := ⟨f - 1, by omega⟩
    obtain ⟨q, rfl⟩ : ∃ g, q = g + 1 := ⟨q - 1, by omega⟩
    refine br_f (nI_ge (by omega) (by omega)) ⟨pk_in q 81 (by omega) (nI_pred q), pk_in (q + 1) 81 (by omega), ed_nuv (q + 1) (nI (c q)) (ed_rt q (g1 q (by omega)) (nI_pred q)) (nm_r (pk_m1 q) ?_)⟩
    refine ih q (by omega) (by omega) f (by omega) _ (fun j hj => ?_) (fun j hj1 hj2 => ?_)
    · rw [pk_un (by omega)]; exact g1 j (by omega)
    · by_cases z : j = q + 1
      · subst z; rw [pk_us]; rfl
      · rw [pk_un z]; exact g2 j (by omega) hj2
theorem ys_put {post : SY → Prop} {c : Nat → Nat} {n p ch : Nat} (hn : n < 80) (hp : p ≤ n) (hT : ed_ag a_text c n) (h : ∀ a_text : Nat → Int32, ed_ag a_text (es_in c p ch) (n + 1) → post (nI (n + 1), f_tokenCount, f_itemCount, f_blockCount, f_looseCount, f_numberCount, f_operatorCount, a_text, a_kinds, a_starts, a_ends, a_owners, a_meant, a_firsts, a_lasts, a_sorts, a_blocks, a_knowns, a_values, a_around, a_depths, a_compared, a_numbers, a_operators)) : wpY_putIn post (nI n, f_tokenCount, f_itemCount, f_blockCount, f_looseCount, f_numberCount, f_operatorCount, a_text, a_kinds, a_starts, a_ends, a_owners, a_meant, a_firsts, a_lasts, a_sorts, a_blocks, a_knowns, a_values, a_around, a_depths, a_compared, a_numbers, a_operators) (nI p) (nI ch) :=
  ⟨n - p + 1, ys_in hn hp h (n - p) n (by omega) (Nat.le_refl _) _ (by omega) a_text hT (fun j a b => by omega)⟩
theorem ys_tl {post : SY → Prop} {n p m : Nat} (hn : n ≤ 80) (hp : p + m ≤ n) (h : ∀ A : Nat → Int32, (∀ j, j < p → A j = a_text j) → (∀ j, p ≤ j → j + m < n → A j = a_text (j + m)) → post (nI (n - m), f_tokenCount, f_itemCount, f_blockCount, f_looseCount, f_numberCount, f_operatorCount, A, a_kinds, a_starts, a_ends, a_owners, a_meant, a_firsts, a_lasts, a_sorts, a_blocks, a_knowns, a_values, a_around, a_depths, a_compared, a_numbers, a_operators)) :
    ∀ d q, q + d = n - m → p ≤ q → ∀ f, d < f → ∀ A : Nat → Int32, (∀ j, j < p → A j = a_text j) → (∀ j, p ≤ j → j < q → A j = a_text (j + m)) → (∀ j, q ≤ j → A j = a_text j) → (wY_takeOut_12 post (nI m) (nI (n - m)) f_tokenCount f_itemCount f_blockCount f_looseCount f_numberCount f_operatorCount f (nI q) A a_kinds a_starts a_ends a_owners a_meant a_firsts a_lasts a_sorts a_blocks a_knowns a_values a_around a_depths a_compared a_numbers a_operators) := by
  intro d
  induction d with
  | zero =>
    intro q hq hpq f hf A g1 g2 g3
    obtain ⟨f, rfl⟩ : ∃ g, f = g + 1 := ⟨f - 1, by omega⟩
    exact br_t (nI_le (by omega) (by omega)) (h A g1 (fun j a b => g2 j a (by omega)))
  | succ d ih =>
    intro q hq hpq f hf A g1 g2 g3
    obtain ⟨f, rfl⟩ : ∃ g, f = g + 1 := ⟨f - 1, by omega⟩
    refine br_f (nI_ge (by omega) (by omega)) ⟨pk_in (q + m) 81 (by omega) (nI_add q m), pk_in q 81 (by omega), ed_nuv q (a_text (q + m)) (ed_rt (q + m) (g3 (q + m) (by omega)) (nI_add q m)) (nm_r (nI_1 q) ?_)⟩
    refine ih (q + 1) (by omega) (by omega) f (by omega) _ (fun j hj => ?_) (fun j hj1 hj2 => ?_) (fun j hj => ?_)
    · rw [pk_un (by omega)]; exact g1 j hj
    · by_cases z : j = q
      · subst z; rw [pk_us]
      · rw [pk_un z]; exact g2 j hj1 (by omega)
    · rw [pk_un (by omega)]; exact g3 j (by omega)
theorem ys_take {post : SY → Prop} {n p m : Nat} (hn : n ≤ 80) (hp : p + m ≤ n) (h : ∀ A : Nat → Int32, (∀ j, j < p → A j = a_text j) → (∀ j, p ≤ j → j + m < n → A j = a_text (j + m)) → post (nI (n - m), f_tokenCount, f_itemCount, f_blockCount, f_looseCount, f_numberCount, f_operatorCount, A, a_kinds, a_starts, a_ends, a_owners, a_meant, a_firsts, a_lasts, a_sorts, a_blocks, a_knowns, a_values, a_around, a_depths, a_compared, a_numbers, a_operators)) : wpY_takeOut post (nI n, f_tokenCount, f_itemCount, f_blockCount, f_looseCount, f_numberCount, f_operatorCount, a_text, a_kinds, a_starts, a_ends, a_owners, a_meant, a_firsts, a_lasts, a_sorts, a_blocks, a_knowns, a_values, a_around, a_depths, a_compared, a_numbers, a_operators) (nI p) (nI m) :=
  nm_r (pk_sub (by omega)) ⟨n - m - p + 1, ys_tl hn hp h (n - m - p) p (by omega) (Nat.le_refl _) _ (by omega) a_text (fun _ _ => rfl) (fun j a b => by omega) (fun _ _ => rfl)⟩
theorem ys_isC {post : Int32 → Prop} {x : Int32} (h0 : (x < 0 ∨ 18 < x) → post 0) (h1 : ¬ x < 0 → ¬ 18 < x → post 1) : wpY_isCharacter post (f_length, f_tokenCount, f_itemCount, f_blockCount, f_looseCount, f_numberCount, f_operatorCount, a_text, a_kinds, a_starts, a_ends, a_owners, a_meant, a_firsts, a_lasts, a_sorts, a_blocks, a_knowns, a_values, a_around, a_depths, a_compared, a_numbers, a_operators) x :=
  br_c (fun z => h0 (Or.inl z)) (fun z => br_c (fun y => h0 (Or.inr y)) (fun y => h1 z y))
end
section
theorem es_18 {x : Int32} (h0 : ¬ x < 0) (h1 : ¬ 18 < x) : ∃ ch, ch ≤ 18 ∧ x = nI ch := by
  obtain ⟨j, hj, rfl⟩ := nI_of h0
  refine ⟨j, ?_, rfl⟩
  by_cases z : j ≤ 18
  · exact z
  · exact absurd (nI_lt (a := 18) (by omega) hj) h1
theorem i_vc_insert {k : Nat} {u : SX} {v : SY} (I : i_Rel k u v) (hk : k + 5 ≤ 2560) (v1 : Int32) (v2 : Int32) : wpX_insert (fun r u' => wpY_insert (fun r' v' => r' = r ∧ i_Rel (k + 5) u' v') v v1 v2) u v1 v2 := by
  have I2 := I
  obtain ⟨c, n, hn, hc, hX, hY⟩ := I
  obtain ⟨f_size, f_tokenCount, f_itemCount, f_blockCount, f_openCount, f_looseCount, a_text, a_characterToken, a_tokenKind, a_tokenStart, a_tokenEnd, a_tokenItem, a_tokenMeaning, a_itemFirst, a_itemEnd, a_itemSort, a_itemDepth, a_itemBlock, a_itemUses, a_itemKnown, a_itemValue, a_blockEnd, a_openBlocks, a_levelCompares, a_levelLeft, a_levelSum, a_levelProduct⟩ := u
  obtain ⟨f_length, f_tokenCount', f_itemCount', f_blockCount', f_looseCount', f_numberCount, f_operatorCount, a_text', a_kinds, a_starts, a_ends, a_owners, a_meant, a_firsts, a_lasts, a_sorts, a_blocks, a_knowns, a_values, a_around, a_depths, a_compared, a_numbers, a_operators⟩ := v
  obtain ⟨rfl, hT, hD⟩ := hX
  obtain ⟨rfl, hT'⟩ := hY
  by_cases z1 : v2 < 0
  · refine br_t z1 ?_
    unfold wpY_insert
    exact ys_isC (fun _ => br_t rfl ⟨rfl, I2⟩) (fun y _ => absurd z1 y)
  · refine br_f z1 ?_
    by_cases z2 : 18 < v2
    · refine br_t z2 ?_
      unfold wpY_insert
      exact ys_isC (fun _ => br_t rfl ⟨rfl, I2⟩) (fun _ y => absurd z2 y)
    · refine br_f z2 ?_
      by_cases z3 : v1 < 0
      · refine br_t z3 ?_
        unfold wpY_insert
        exact ys_isC (fun y => absurd y (by intro w; cases w with | inl w => exact z1 w | inr w => exact z2 w)) (fun _ _ => br_f (by decide) (br_t z3 ⟨rfl, I2⟩))
      · refine br_f z3 ?_
        obtain ⟨p, hp, rfl⟩ := nI_of z3
        obtain ⟨ch, hch, rfl⟩ := es_18 z1 z2
        refine pk_le p n (fun hle => pk_lt n 80 (fun hlt => ⟨n - p + 1, ?_⟩) (fun hge => ?_)) (fun hgt => ?_)
        · refine xs_in hlt hle hc hch (fun u' hu' => ?_) (n - p) n (by omega) (Nat.le_refl _) _ (by omega) a_text hT (fun j a b => by omega)
          unfold wpY_insert
          refine ys_isC (fun y => absurd y (by intro w; cases w with | inl w => exact z1 w | inr w => exact z2 w)) (fun _ _ => br_f (by decide) (br_f z3 (br_t (nI_le hle (by omega)) (pk_eq n 80 (fun e => by omega) (fun _ => ?_)))))
          exact ys_put hlt hle hT' (fun A hA => ⟨rfl, es_in c p ch, n + 1, by omega, es_in18 hc hle hch, hu', ⟨rfl, hA⟩⟩)
        · have e : n = 80 := by omega
          unfold wpY_insert
          exact ys_isC (fun y => absurd y (by intro w; cases w with | inl w => exact z1 w | inr w => exact z2 w)) (fun _ _ => br_f (by decide) (br_f z3 (br_t (nI_le hle (by omega)) (pk_eq n 80 (fun _ => ⟨rfl, I2⟩) (fun y => absurd e y)))))
        · unfold wpY_insert
          exact ys_isC (fun y => absurd y (by intro w; cases w with | inl w => exact z1 w | inr w => exact z2 w)) (fun _ _ => br_f (by decide) (br_f z3 (br_f (nI_ge hgt (by omega)) ⟨rfl, I2⟩)))
theorem i_vc_remove {k : Nat} {u : SX} {v : SY} (I : i_Rel k u v) (hk : k + 5 ≤ 2560) (v1 : Int32) (v2 : Int32) : wpX_remove (fun r u' => wpY_remove (fun r' v' => r' = r ∧ i_Rel (k + 5) u' v') v v1 v2) u v1 v2 := by
  have I2 := I
  obtain ⟨c, n, hn, hc, hX, hY⟩ := I
  obtain ⟨f_size, f_tokenCount, f_itemCount, f_blockCount, f_openCount, f_looseCount, a_text, a_characterToken, a_tokenKind, a_tokenStart, a_tokenEnd, a_tokenItem, a_tokenMeaning, a_itemFirst, a_itemEnd, a_itemSort, a_itemDepth, a_itemBlock, a_itemUses, a_itemKnown, a_itemValue, a_blockEnd, a_openBlocks, a_levelCompares, a_levelLeft, a_levelSum, a_levelProduct⟩ := u
  obtain ⟨f_length, f_tokenCount', f_itemCount', f_blockCount', f_looseCount', f_numberCount, f_operatorCount, a_text', a_kinds, a_starts, a_ends, a_owners, a_meant, a_firsts, a_lasts, a_sorts, a_blocks, a_knowns, a_values, a_around, a_depths, a_compared, a_numbers, a_operators⟩ := v
  obtain ⟨rfl, hT, hD⟩ := hX
  obtain ⟨rfl, hT'⟩ := hY
  by_cases z1 : v1 < 0
  · exact br_t z1 (br_t z1 ⟨rfl, I2⟩)
  · refine br_f z1 ?_
    obtain ⟨p, hp, rfl⟩ := nI_of z1
    refine pk_lt n p (fun hlt => br_f z1 (br_t (nI_lt hlt (by omega)) ⟨rfl, I2⟩)) (fun hge => ?_)
    by_cases z2 : v2 < 0
    · exact br_t z2 (br_f z1 (br_f (nI_nlt hge (by omega)) (br_t z2 ⟨rfl, I2⟩)))
    · refine br_f z2 ?_
      obtain ⟨m, hm, rfl⟩ := nI_of z2
      have es : nI n - nI p = nI (n - p) := pk_sub hge
      refine pk_le m (n - p) (fun hle => nm_r (nI_add p m) ⟨n - (p + m) + 1, ?_⟩) (fun hgt => ?_) rfl es
      · refine xs_rm hn (by omega) hc (fun u' hu' => ?_) (n - (p + m)) (p + m) (by omega) (Nat.le_refl _) _ (by omega) a_text (fun j hj => hT j (by omega)) (fun j a b => by omega) (fun j _ b => hT j b)
        refine br_f z1 (br_f (nI_nlt hge (by omega)) (br_f z2 (pk_le m (n - p) (fun _ => ?_) (fun y => by omega) rfl es)))
        refine ys_take hn (by omega) (fun A a1 a2 => ⟨rfl, es_rm c p m, n - m, by omega, es_rm18 hc (by omega), hu', ⟨rfl, ?_⟩⟩)
        exact es_rmA (fun j hj => by rw [a1 j hj]; exact hT' j (by omega)) (fun j b1 b2 => by rw [a2 j b1 b2]; exact hT' (j + m) b2)
      · exact br_f z1 (br_f (nI_nlt hge (by omega)) (br_f z2 (pk_le m (n - p) (fun y => by omega) (fun _ => ⟨rfl, I2⟩) rfl es)))
end
