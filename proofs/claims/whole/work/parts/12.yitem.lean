section
/-! Y: expressions, sorts, items -/
variable {f_length f_tokenCount f_itemCount f_blockCount f_looseCount f_numberCount f_operatorCount : Int32} {a_text a_kinds a_starts a_ends a_owners a_meant a_firsts a_lasts a_sorts a_blocks a_knowns a_values a_around a_depths a_compared a_numbers a_operators : Nat → Int32}
theorem ye_loop {post : Int32 → SY → Prop} {k : Nat → Nat} {T e : Nat} (hT : T ≤ 80) (he : e ≤ T) (hk : ed_ag a_kinds k T) (hkk : ∀ t, t < T → k t < 100) :
    ∀ d t, t + d = e → ∀ f, d < f → ∀ (w : Bool) (b : Bool) (r : List Bool) (a_compared : Nat → Int32), r.length ≤ t → ed_bk a_compared (b :: r) → (∀ a_compared : Nat → Int32, post (ed_bI (ex_r k d t w (b :: r))) (f_length, f_tokenCount, f_itemCount, f_blockCount, f_looseCount, f_numberCount, f_operatorCount, a_text, a_kinds, a_starts, a_ends, a_owners, a_meant, a_firsts, a_lasts, a_sorts, a_blocks, a_knowns, a_values, a_around, a_depths, a_compared, a_numbers, a_operators)) →
      (wY_isExpression_15 post (nI e) f_length f_tokenCount f_itemCount f_blockCount f_looseCount f_numberCount f_operatorCount f (nI r.length) (ed_bI w) (nI t) a_text a_kinds a_starts a_ends a_owners a_meant a_firsts a_lasts a_sorts a_blocks a_knowns a_values a_around a_depths a_compared a_numbers a_operators) := by
  intro d
  induction d with
  | zero =>
    intro t ht f hf w b r LC hr hb hP
    obtain ⟨f, rfl⟩ : ∃ g, f = g + 1 := ⟨f - 1, by omega⟩
    refine br_t (nI_le (by omega) (by omega)) ?_
    cases w with
    | true => exact br_f (by decide) (hP LC)
    | false =>
      refine br_t rfl (pk_eq r.length 0 (fun z => ?_) (fun z => ?_))
      · have e1 : ex_r k 0 t false (b :: r) = true := by
          show (true && ((b :: r).length == 1)) = true
          rw [List.length_cons, z]; rfl
        rw [e1] at hP; exact hP LC
      · have e1 : ex_r k 0 t false (b :: r) = false := by
          show (true && ((b :: r).length == 1)) = false
          rw [List.length_cons, Bool.true_and]
          exact beq_false_of_ne (by omega)
        rw [e1] at hP; exact hP LC
  | succ d ih =>
    intro t ht f hf w b r LC hr hb hP
    obtain ⟨f, rfl⟩ : ∃ g, f = g + 1 := ⟨f - 1, by omega⟩
    have ih := ih (t + 1) (by omega) f (by omega)
    have hkt := hkk t (by omega)
    refine br_f (nI_ge (by omega) (by omega)) ⟨pk_in t 80 (by omega), ed_rd t (hk t (by omega)) ?_⟩
    cases w with
    | true =>
      refine br_f (by decide) (pk_le (k t) 1 (fun h1 => ?_) (fun h1 => ?_))
      · rw [ex_w1 h1] at hP
        exact pk_eq (k t) 6 (fun h6 => by omega) (fun h6 => pk_le (k t) 1 (fun _ => nm_r (nI_1 t) (ih false b r LC (by omega) hb hP)) (fun h => by omega))
      · refine pk_eq (k t) 6 (fun h6 => ?_) (fun h6 => pk_le (k t) 1 (fun h => by omega) (fun h => ?_))
        · rw [ex_w6 h6] at hP
          refine nm_r (nI_1 _) ⟨pk_in (r.length + 1) 81 (by omega), ed_nuv (r.length + 1) (ed_bI false) ed_nb0 (nm_r (nI_1 t) ?_)⟩
          exact ih true false (b :: r) _ (by rw [List.length_cons]; omega) (ed_bk_p hb) hP
        · rw [ex_wn (by omega) h6] at hP
          exact hP LC
    | false =>
      refine br_t rfl ?_
      have eb : LC (nI r.length).toNatClampNeg = ed_bI b := ed_rt r.length hb.1
      have h120 : ∀ d : Bool, d = (b || decide (k t = 3)) → (∀ a_compared : Nat → Int32, ed_bk a_compared (d :: r) → (wY_isExpression_15 post (nI e) f_length f_tokenCount f_itemCount f_blockCount f_looseCount f_numberCount f_operatorCount f (nI r.length) (ed_bI true) (nI (t + 1)) a_text a_kinds a_starts a_ends a_owners a_meant a_firsts a_lasts a_sorts a_blocks a_knowns a_values a_around a_depths a_compared a_numbers a_operators)) → (wY_isExpression_120 post (wY_isExpression_15 post (nI e) f_length f_tokenCount f_itemCount f_blockCount f_looseCount f_numberCount f_operatorCount f) (nI e) (nI r.length) (nI t) (nI (k t)) f_length f_tokenCount f_itemCount f_blockCount f_looseCount f_numberCount f_operatorCount a_text a_kinds a_starts a_ends a_owners a_meant a_firsts a_lasts a_sorts a_blocks a_knowns a_values a_around a_depths LC a_numbers a_operators) := by
        intro d hd hJ
        refine ⟨pk_in r.length 81 (by omega), ?_⟩
        cases b with
        | true =>
          have hd : d = true := hd
          subst hd
          exact br_f (by rw [eb]; decide) ⟨pk_in r.length 81 (by omega), ed_nuv r.length (ed_bI true) ed_nb1 (nm_r (nI_1 t) (hJ _ (ed_bk_t hb)))⟩
        | false =>
          refine br_t eb (pk_eq (k t) 3 (fun h3 => ?_) (fun h3 => ?_))
          · have hd : d = true := by rw [hd]; simp [h3]
            subst hd
            exact ⟨pk_in r.length 81 (by omega), ed_nuv r.length (ed_bI true) ed_nb1 (nm_r (nI_1 t) (hJ _ (ed_bk_t hb)))⟩
          · have hd : d = false := by rw [hd]; simp [h3]
            subst hd
            exact ⟨pk_in r.length 81 (by omega), ed_nuv r.length (ed_bI false) ed_nb0 (nm_r (nI_1 t) (hJ _ (ed_bk_t hb)))⟩
      have h93 : ¬ (k t = 7 ∧ 0 < r.length) → (wY_isExpression_93 post (wY_isExpression_15 post (nI e) f_length f_tokenCount f_itemCount f_blockCount f_looseCount f_numberCount f_operatorCount f) (nI e) (nI r.length) (nI t) (nI (k t)) f_length f_tokenCount f_itemCount f_blockCount f_looseCount f_numberCount f_operatorCount a_text a_kinds a_starts a_ends a_owners a_meant a_firsts a_lasts a_sorts a_blocks a_knowns a_values a_around a_depths LC a_numbers a_operators) := by
        intro hn
        refine pk_eq (k t) 4 (fun h4 => ?_) (fun h4 => pk_eq (k t) 5 (fun h5 => ?_) (fun h5 => pk_eq (k t) 3 (fun h3 => ?_) (fun h3 => ?_)))
        · rw [ex_f4 (by omega)] at hP
          exact h120 b (by rw [decide_eq_false (by omega), Bool.or_false]) (fun LC hb => ih true b r LC (by omega) hb hP)
        · rw [ex_f4 (by omega)] at hP
          exact h120 b (by rw [decide_eq_false (by omega), Bool.or_false]) (fun LC hb => ih true b r LC (by omega) hb hP)
        · refine ⟨pk_in r.length 81 (by omega), ?_⟩
          cases b with
          | true =>
            rw [ex_f3n h3] at hP
            exact br_f (by rw [eb]; decide) (hP LC)
          | false =>
            rw [ex_f3 h3] at hP
            exact br_t eb (h120 true (by simp [h3]) (fun LC hb => ih true true r LC (by omega) hb hP))
        · by_cases h7 : k t = 7
          · have hr0 : r = [] := List.eq_nil_of_length_eq_zero (by omega)
            subst hr0
            rw [ex_f7n h7] at hP
            exact hP LC
          · rw [ex_fn h7 h4 h5 h3] at hP
            exact hP LC
      refine pk_eq (k t) 7 (fun h7 => pk_le r.length 0 (fun hr0 => h93 (by omega)) (fun hr0 => ?_)) (fun h7 => h93 (by omega))
      cases r with
      | nil => exact absurd hr0 (Nat.lt_irrefl _)
      | cons b2 r2 =>
        rw [ex_f7 h7] at hP
        refine nm_r (pk_m1 r2.length) (nm_r (nI_1 t) ?_)
        exact ih false b2 r2 LC (by rw [List.length_cons] at hr; omega) hb.2 hP
theorem ye_is {post : Int32 → SY → Prop} {k : Nat → Nat} {T s e : Nat} (hT : T ≤ 80) (he : e ≤ T) (hs : s ≤ e) (hk : ed_ag a_kinds k T) (hkk : ∀ t, t < T → k t < 100)
    (hP : ∀ a_compared : Nat → Int32, post (ed_bI (ex_r k (e - s) s true [false])) (f_length, f_tokenCount, f_itemCount, f_blockCount, f_looseCount, f_numberCount, f_operatorCount, a_text, a_kinds, a_starts, a_ends, a_owners, a_meant, a_firsts, a_lasts, a_sorts, a_blocks, a_knowns, a_values, a_around, a_depths, a_compared, a_numbers, a_operators)) : wpY_isExpression post (f_length, f_tokenCount, f_itemCount, f_blockCount, f_looseCount, f_numberCount, f_operatorCount, a_text, a_kinds, a_starts, a_ends, a_owners, a_meant, a_firsts, a_lasts, a_sorts, a_blocks, a_knowns, a_values, a_around, a_depths, a_compared, a_numbers, a_operators) (nI s) (nI e) := by
  refine nm_e ⟨e - s + 1, ?_⟩
  rw [ed_nb0]
  exact ye_loop hT he hk hkk (e - s) s (by omega) _ (by omega) true false [] _ (Nat.zero_le _) ⟨pk_us, trivial⟩ hP
theorem ye_sort {post : Int32 → SY → Prop} {k : Nat → Nat} {T s e : Nat} (hT : T ≤ 80) (he : e ≤ T) (hs : s < e) (hk : ed_ag a_kinds k T) (hkk : ∀ t, t < T → k t < 100) (hke : k e < 100)
    (hP : ∀ a_compared : Nat → Int32, post (nI (ex_so k s e)) (f_length, f_tokenCount, f_itemCount, f_blockCount, f_looseCount, f_numberCount, f_operatorCount, a_text, a_kinds, a_starts, a_ends, a_owners, a_meant, a_firsts, a_lasts, a_sorts, a_blocks, a_knowns, a_values, a_around, a_depths, a_compared, a_numbers, a_operators)) : wpY_sortOf post (f_length, f_tokenCount, f_itemCount, f_blockCount, f_looseCount, f_numberCount, f_operatorCount, a_text, a_kinds, a_starts, a_ends, a_owners, a_meant, a_firsts, a_lasts, a_sorts, a_blocks, a_knowns, a_values, a_around, a_depths, a_compared, a_numbers, a_operators) (nI s) (nI e) (nI (k e)) := by
  have hks := hkk s (by omega)
  refine pk_eq (k e) 8 (fun h8 => ?_) (fun h8 => ?_)
  · have h53 : ¬ (k s = 0 ∧ 1 < e - s ∧ k (s + 1) = 2) → (wY_sortOf_53 post (nI s) (nI e) f_length f_tokenCount f_itemCount f_blockCount f_looseCount f_numberCount f_operatorCount a_text a_kinds a_starts a_ends a_owners a_meant a_firsts a_lasts a_sorts a_blocks a_knowns a_values a_around a_depths a_compared a_numbers a_operators) := by
      intro hn
      refine ye_is hT he (by omega) hk hkk (fun LC => ?_)
      by_cases hx : ex_r k (e - s) s true [false] = true
      · have e2 : ex_so k s e = 1 := by unfold ex_so; rw [if_pos h8, if_neg hn, if_pos hx]
        rw [hx]; rw [e2] at hP
        exact br_f (by decide) (hP LC)
      · have e2 : ex_so k s e = 0 := by unfold ex_so; rw [if_pos h8, if_neg hn, if_neg hx]
        have hx : ex_r k (e - s) s true [false] = false := by cases h : ex_r k (e - s) s true [false]; rfl; exact absurd h hx
        rw [hx]; rw [e2] at hP
        exact br_t rfl (hP LC)
    refine ⟨pk_in s 80 (by omega), pk_eq (k s) 0 (fun z0 => ?_) (fun z0 => h53 (by omega)) (ed_rt s (hk s (by omega)))⟩
    refine pk_le (e - s) 1 (fun z1 => h53 (by omega)) (fun z1 => ?_) (pk_sub (by omega))
    have hks1 := hkk (s + 1) (by omega)
    refine ⟨pk_in (s + 1) 80 (by omega) (nI_1 s), pk_eq (k (s + 1)) 2 (fun z2 => ?_) (fun z2 => h53 (by omega)) (ed_rt (s + 1) (hk (s + 1) (by omega)) (nI_1 s))⟩
    rw [show nI s + 2 = nI (s + 2) from nI_add s 2]
    refine ye_is hT he (by omega) hk hkk (fun LC => ?_)
    by_cases hx2 : ex_r k (e - (s + 2)) (s + 2) true [false] = true
    · have e2 : ex_so k s e = 2 := by unfold ex_so; rw [if_pos h8, if_pos ⟨z0, by omega, z2⟩, if_pos hx2]
      rw [hx2]; rw [e2] at hP
      exact br_f (by decide) (hP LC)
    · have e2 : ex_so k s e = 0 := by unfold ex_so; rw [if_pos h8, if_pos ⟨z0, by omega, z2⟩, if_neg hx2]
      have hx2 : ex_r k (e - (s + 2)) (s + 2) true [false] = false := by cases h : ex_r k (e - (s + 2)) (s + 2) true [false]; rfl; exact absurd h hx2
      rw [hx2]; rw [e2] at hP
      exact br_t rfl (hP LC)
  · have e2 : ex_so k s e = 0 := by unfold ex_so; rw [if_neg h8]
    rw [e2] at hP; exact hP _
theorem ye_own {post : SY → Prop} {s e m : Nat} (he : e ≤ 80)
    (hP : ∀ a_owners' : Nat → Int32, (∀ j, j < s → a_owners' j = a_owners j) → (∀ j, s ≤ j → j < e → a_owners' j = nI m) → (∀ j, e ≤ j → a_owners' j = a_owners j) → post (f_length, f_tokenCount, nI (m + 1), f_blockCount, f_looseCount, f_numberCount, f_operatorCount, a_text, a_kinds, a_starts, a_ends, a_owners', a_meant, a_firsts, a_lasts, a_sorts, a_blocks, a_knowns, a_values, a_around, a_depths, a_compared, a_numbers, a_operators)) :
    ∀ d t, t + d = e → s ≤ t → ∀ f, d < f → ∀ a_owners' : Nat → Int32, (∀ j, j < s → a_owners' j = a_owners j) → (∀ j, s ≤ j → j < t → a_owners' j = nI m) → (∀ j, t ≤ j → a_owners' j = a_owners j) →
      (wY_addItem_50 post (nI e) f_length f_tokenCount (nI m) f_blockCount f_looseCount f_numberCount f_operatorCount f (nI t) a_text a_kinds a_starts a_ends a_owners' a_meant a_firsts a_lasts a_sorts a_blocks a_knowns a_values a_around a_depths a_compared a_numbers a_operators) := by
  intro d
  induction d with
  | zero =>
    intro t ht hs f hf OW h1 h2 h3
    obtain ⟨f, rfl⟩ : ∃ g, f = g + 1 := ⟨f - 1, by omega⟩
    have e1 : t = e := by omega
    subst e1
    exact br_t (nI_le (Nat.le_refl _) (by omega)) (nm_r (nI_1 m) (hP OW h1 h2 h3))
  | succ d ih =>
    intro t ht hs f hf OW h1 h2 h3
    obtain ⟨f, rfl⟩ : ∃ g, f = g + 1 := ⟨f - 1, by omega⟩
    refine br_f (nI_ge (by omega) (by omega)) ⟨pk_in t 80 (by omega), ed_nu t (nm_r (nI_1 t) ?_)⟩
    refine ih (t + 1) (by omega) (by omega) f (by omega) _ (fun j hj => ?_) (fun j hj1 hj2 => ?_) (fun j hj => ?_)
    · rw [pk_un (by omega)]; exact h1 j hj
    · by_cases z : j = t
      · rw [z, pk_us]
      · rw [pk_un z]; exact h2 j hj1 (by omega)
    · rw [pk_un (by omega)]; exact h3 j (by omega)
theorem ye_add {post : SY → Prop} {k : Nat → Nat} {T s e m : Nat} {o : Int32} (hT : T ≤ 80) (he : e ≤ T) (hs : s < e) (hm : m < 80) (hk : ed_ag a_kinds k T) (hkk : ∀ t, t < T → k t < 100) (hke : k e < 100)
    (hP : ∀ a_compared a_owners' : Nat → Int32, (∀ j, j < s → a_owners' j = a_owners j) → (∀ j, s ≤ j → j < e → a_owners' j = nI m) → (∀ j, e ≤ j → a_owners' j = a_owners j) → post (f_length, f_tokenCount, nI (m + 1), f_blockCount, f_looseCount, f_numberCount, f_operatorCount, a_text, a_kinds, a_starts, a_ends, a_owners', a_meant, upd a_firsts m (nI s), upd a_lasts m (nI e), upd a_sorts m (nI (ex_so k s e)), upd a_blocks m o, a_knowns, a_values, a_around, a_depths, a_compared, a_numbers, a_operators)) :
    wpY_addItem post (f_length, f_tokenCount, nI m, f_blockCount, f_looseCount, f_numberCount, f_operatorCount, a_text, a_kinds, a_starts, a_ends, a_owners, a_meant, a_firsts, a_lasts, a_sorts, a_blocks, a_knowns, a_values, a_around, a_depths, a_compared, a_numbers, a_operators) (nI s) (nI e) (nI (k e)) o := by
  refine ⟨pk_in m 80 hm, ed_nu m ⟨pk_in m 80 hm, ed_nu m ?_⟩⟩
  refine ye_sort hT he hs hk hkk hke (fun LC => ?_)
  refine ⟨pk_in m 80 hm, ed_nu m ⟨pk_in m 80 hm, ed_nu m ⟨e - s + 1, ?_⟩⟩⟩
  exact ye_own (by omega) (hP LC) (e - s) s (by omega) (Nat.le_refl _) _ (by omega) _ (fun _ _ => rfl) (fun j a b => by omega) (fun _ _ => rfl)
end
