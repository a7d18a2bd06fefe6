section
/-! Y: names, blocks, numbers, the two stacks -/
def ev_rd (q : Nat) (x y : Int32) : Int32 := if q = 4 then x + y else if q = 5 then x * y else if x = y then 1 else 0
def ev_R (r : List ev_L) : List Int32 := match r with | [] => [] | _ :: _ => 0 :: ev_O r
theorem ev_OR (L : ev_L) (r : List ev_L) : ev_O (L :: r) = ev_op L ++ ev_R r := rfl
theorem mn_nv_y (v x : Int32) : 10 * v + x - 5 = v * 10 + (x - 5) := by
  rw [Int32.mul_comm, Int32.sub_eq_add_neg, Int32.sub_eq_add_neg, Int32.add_assoc]
variable {f_length f_tokenCount f_itemCount f_blockCount f_looseCount f_numberCount f_operatorCount : Int32} {a_text a_kinds a_starts a_ends a_owners a_meant a_firsts a_lasts a_sorts a_blocks a_knowns a_values a_around a_depths a_compared a_numbers a_operators : Nat → Int32}
theorem ym_sl {post : Int32 → Prop} {c st en : Nat → Nat} {T n t u : Nat} (hn : n ≤ 80) (hT : T ≤ 80) (hS : ed_ag a_starts st T) (hE : ed_ag a_ends en T) (hX : ed_ag a_text c n) (hse : ∀ q, q < T → st q < en q ∧ en q ≤ n) (hc : ∀ j, j < n → c j ≤ 18) (ht : t < T) (hu : u < T) (hw : en t - st t = en u - st u)
    (h1 : mn_nm c st en t u = true → post 1) (h0 : mn_nm c st en t u = false → post 0) :
    ∀ d j, j + d = en t - st t → (∀ i, i < j → c (st t + i) = c (st u + i)) → ∀ f, d < f → (wY_isSameName_33 post (nI t) (nI u) f_length f_tokenCount f_itemCount f_blockCount f_looseCount f_numberCount f_operatorCount a_text a_kinds a_starts a_ends a_owners a_meant a_firsts a_lasts a_sorts a_blocks a_knowns a_values a_around a_depths a_compared a_numbers a_operators f (nI j)) := by
  intro d
  have ht2 := hse t ht
  have hu2 := hse u hu
  have e0 : a_ends (nI t).toNatClampNeg - a_starts (nI t).toNatClampNeg = nI (en t - st t) := by rw [ed_rt t (hS t ht), ed_rt t (hE t ht), pk_sub (by omega)]
  induction d with
  | zero =>
    intro j hj hi f hf
    obtain ⟨f, rfl⟩ : ∃ g, f = g + 1 := ⟨f - 1, by omega⟩
    refine ⟨pk_in t 80 (by omega), pk_in t 80 (by omega), pk_le (en t - st t) j (fun _ => h1 ?_) (fun z => by omega) e0⟩
    unfold mn_nm
    exact decide_eq_true ⟨hw, fun i hi2 => hi i (by omega)⟩
  | succ d ih =>
    intro j hj hi f hf
    obtain ⟨f, rfl⟩ : ∃ g, f = g + 1 := ⟨f - 1, by omega⟩
    have e1 : a_starts (nI t).toNatClampNeg + nI j = nI (st t + j) := by rw [ed_rt t (hS t ht), nI_add]
    have e2 : a_starts (nI u).toNatClampNeg + nI j = nI (st u + j) := by rw [ed_rt u (hS u hu), nI_add]
    have c1 := hc (st t + j) (by omega)
    have c2 := hc (st u + j) (by omega)
    refine ⟨pk_in t 80 (by omega), pk_in t 80 (by omega), pk_le (en t - st t) j (fun z => by omega) (fun _ => ⟨pk_in t 80 (by omega), ?_⟩) e0⟩
    rw [e1, e2]
    refine ⟨pk_in (st t + j) 81 (by omega), pk_in u 80 (by omega), pk_in (st u + j) 81 (by omega), pk_eq (c (st t + j)) (c (st u + j)) (fun e => ?_) (fun e => ?_) (ed_rt _ (hX _ (by omega))) (ed_rt _ (hX _ (by omega)))⟩
    · refine nm_r (nI_1 j) (ih (j + 1) (by omega) (fun i hi2 => ?_) f (by omega))
      by_cases z : i = j
      · subst z; exact e
      · exact hi i (by omega)
    · refine h0 ?_
      unfold mn_nm
      exact decide_eq_false (fun z => e (z.2 j (by omega)))
theorem ym_same {post : Int32 → Prop} {c st en : Nat → Nat} {T n t u : Nat} (hn : n ≤ 80) (hT : T ≤ 80) (hS : ed_ag a_starts st T) (hE : ed_ag a_ends en T) (hX : ed_ag a_text c n) (hse : ∀ q, q < T → st q < en q ∧ en q ≤ n) (hc : ∀ j, j < n → c j ≤ 18) (ht : t < T) (hu : u < T)
    (h1 : mn_nm c st en t u = true → post 1) (h0 : mn_nm c st en t u = false → post 0) : wpY_isSameName post (f_length, f_tokenCount, f_itemCount, f_blockCount, f_looseCount, f_numberCount, f_operatorCount, a_text, a_kinds, a_starts, a_ends, a_owners, a_meant, a_firsts, a_lasts, a_sorts, a_blocks, a_knowns, a_values, a_around, a_depths, a_compared, a_numbers, a_operators) (nI t) (nI u) := by
  have ht2 := hse t ht
  have hu2 := hse u hu
  have e1 : a_ends (nI t).toNatClampNeg - a_starts (nI t).toNatClampNeg = nI (en t - st t) := by rw [ed_rt t (hS t ht), ed_rt t (hE t ht), pk_sub (by omega)]
  have e2 : a_ends (nI u).toNatClampNeg - a_starts (nI u).toNatClampNeg = nI (en u - st u) := by rw [ed_rt u (hS u hu), ed_rt u (hE u hu), pk_sub (by omega)]
  refine ⟨pk_in t 80 (by omega), pk_in t 80 (by omega), pk_in u 80 (by omega), pk_in u 80 (by omega), pk_eq (en t - st t) (en u - st u) (fun hw => ⟨en t - st t + 1, ?_⟩) (fun hw => h0 ?_) e1 e2⟩
  · exact ym_sl hn hT hS hE hX hse hc ht hu hw h1 h0 (en t - st t) 0 (by omega) (fun i hi => by omega) _ (by omega)
  · unfold mn_nm
    exact decide_eq_false (fun z => hw z.1)
theorem ym_within {post : Int32 → Prop} {m : List Nat} (hm : ∀ b, b ∈ m → 1 ≤ b ∧ b ≤ 80) :
    ∀ l : List Nat, (∀ b, b ∈ l → b ≤ 80) → yc_I a_around a_depths l → (mn_rl l m = true → post 1) → (mn_rl l m = false → post 0) → ∀ f, l.length < f → (wY_isWithin_2 post (yc_h m) f_length f_tokenCount f_itemCount f_blockCount f_looseCount f_numberCount f_operatorCount a_text a_kinds a_starts a_ends a_owners a_meant a_firsts a_lasts a_sorts a_blocks a_knowns a_values a_around a_depths a_compared a_numbers a_operators f (yc_h l)) := by
  intro l
  induction l with
  | nil =>
    intro _ _ h1 h0 f hf
    obtain ⟨f, rfl⟩ : ∃ g, f = g + 1 := ⟨f - 1, by omega⟩
    refine br_t (show (-1 : Int32) < 0 by decide) ?_
    cases m with
    | nil => exact br_t rfl (h1 rfl)
    | cons b m =>
      have hb := hm b List.mem_cons_self
      refine br_f (fun z => ?_) (h0 (show decide (b ∈ ([] : List Nat)) = false from decide_eq_false (by intro y; cases y)))
      have z2 : (-1 : Int32) = nI (b - 1) := z
      have := nI_pos' (n := b - 1) (by omega)
      rw [← z2] at this
      exact absurd this (by decide)
  | cons a r ih =>
    intro hl hy h1 h0 f hf
    obtain ⟨f, rfl⟩ : ∃ g, f = g + 1 := ⟨f - 1, by omega⟩
    obtain ⟨y1, y2, y3, y4⟩ := hy
    have ha := hl a List.mem_cons_self
    have hlen : r.length + 1 < f + 1 := hf
    have ih := ih (fun b hb => hl b (List.mem_cons_of_mem _ hb)) y4
    refine br_f (show ¬ nI (a - 1) < 0 from nI_pos (by omega)) ?_
    cases m with
    | nil =>
      refine br_f (fun z => ?_) ⟨pk_in (a - 1) 80 (by omega), ed_rd (a - 1) y2 (ih (fun _ => h1 rfl) (fun z => by cases z) f (by omega))⟩
      have z2 : nI (a - 1) = (-1 : Int32) := z
      have := nI_pos' (n := a - 1) (by omega)
      rw [z2] at this
      exact absurd this (by decide)
    | cons b m =>
      have hb := hm b List.mem_cons_self
      refine pk_eq (a - 1) (b - 1) (fun e => ?_) (fun e => ?_)
      · have e2 : a = b := by omega
        refine br_t (show nI (a - 1) = nI (b - 1) by rw [e2]) (h1 (show decide (b ∈ a :: r) = true from decide_eq_true ?_))
        rw [e2]; exact List.mem_cons_self
      · refine ⟨pk_in (a - 1) 80 (by omega), ed_rd (a - 1) y2 (ih (fun z => h1 ?_) (fun z => h0 ?_) f (by omega))⟩
        · exact decide_eq_true (List.mem_cons_of_mem _ (of_decide_eq_true z))
        · refine decide_eq_false (fun y => ?_)
          cases List.mem_cons.mp y with
          | inl q => omega
          | inr q => exact of_decide_eq_false z q
theorem ym_find {post : Int32 → Prop} {c st en k : Nat → Nat} {T n t i : Nat} (hn : n ≤ 80) (hT : T ≤ 80) (hS : ed_ag a_starts st T) (hE : ed_ag a_ends en T) (hX : ed_ag a_text c n) (hse : ∀ q, q < T → st q < en q ∧ en q ≤ n) (hc : ∀ j, j < n → c j ≤ 18) (h11 : k T = 11)
    (hi : i < it_cn k (T + 1)) (ht : t < T) (hFI : ed_ag a_firsts (it_fi k (T + 1)) (it_cn k (T + 1))) (hSO : ed_ag a_sorts (mn_so k T) (it_cn k (T + 1))) (hBL : ∀ i, i < it_cn k (T + 1) → a_blocks i = yc_h (it_ik k (T + 1) i)) (hCH : ∀ i, i < it_cn k (T + 1) → yc_I a_around a_depths (it_ik k (T + 1) i)) :
    ∀ D, D ≤ i → ∀ x3 : Int32, x3 = nI D - 1 → ∀ f, D < f → post (ed_oI (mn_sr k T (mn_nm c st en) i t D)) → (wY_find_4 post (nI t) (nI i) f_length f_tokenCount f_itemCount f_blockCount f_looseCount f_numberCount f_operatorCount a_text a_kinds a_starts a_ends a_owners a_meant a_firsts a_lasts a_sorts a_blocks a_knowns a_values a_around a_depths a_compared a_numbers a_operators f x3) := by
  have hN := it_N h11
  have hM := it_M h11
  have hel : ∀ j, j < it_cn k (T + 1) → ∀ b, b ∈ it_ik k (T + 1) j → 1 ≤ b ∧ b ≤ 80 := by
    intro j hj b hb
    have h1 := (it_Cp k (T + 1)).2.1 j hj b hb
    have h2 := (it_Cp k (T + 1)).2.2.1 j hj
    omega
  intro D
  induction D with
  | zero =>
    intro _ x3 hx f hf hP
    obtain ⟨f, rfl⟩ : ∃ g, f = g + 1 := ⟨f - 1, by omega⟩
    subst hx
    exact br_t (by decide) hP
  | succ D ih =>
    intro hD x3 hx f hf hP
    obtain ⟨f, rfl⟩ : ∃ g, f = g + 1 := ⟨f - 1, by omega⟩
    rw [nI_pred] at hx
    subst hx
    have hdi := it_E (k := k) (T := T) (show D < it_cn k (T + 1) by omega)
    have hso : mn_so k T D ≤ 2 := ex_so_le _ _ _
    have eso : a_sorts (nI D).toNatClampNeg = nI (mn_so k T D) := ed_rt D (hSO D (by omega))
    have efi : a_firsts (nI D).toNatClampNeg = nI (it_fi k (T + 1) D) := ed_rt D (hFI D (by omega))
    have ebi : a_blocks (nI i).toNatClampNeg = yc_h (it_ik k (T + 1) i) := ed_rt i (hBL i hi)
    have ebD : a_blocks (nI D).toNatClampNeg = yc_h (it_ik k (T + 1) D) := ed_rt D (hBL D (by omega))
    have hskip : ¬ (mn_so k T D = 2 ∧ mn_rc k T i D = true ∧ mn_nm c st en (it_fi k (T + 1) D) t = true) → (wY_find_4 post (nI t) (nI i) f_length f_tokenCount f_itemCount f_blockCount f_looseCount f_numberCount f_operatorCount a_text a_kinds a_starts a_ends a_owners a_meant a_firsts a_lasts a_sorts a_blocks a_knowns a_values a_around a_depths a_compared a_numbers a_operators f (nI D + (-1))) := by
      intro hno
      refine ih (by omega) _ (Int32.sub_eq_add_neg _ _).symm f (by omega) ?_
      have e1 : mn_sr k T (mn_nm c st en) i t (D + 1) = mn_sr k T (mn_nm c st en) i t D := by
        show (if _ then _ else _) = _
        rw [if_neg hno]
      rw [e1] at hP; exact hP
    refine br_f (nI_pos (by omega)) ⟨pk_in D 80 (by omega), pk_eq (mn_so k T D) 2 (fun h2 => ⟨pk_in D 80 (by omega), ?_⟩) (fun h2 => nm_e (hskip (fun z => h2 z.1))) eso⟩
    rw [efi]
    refine ym_same hn hT hS hE hX hse hc ht (by omega) (fun hy => br_f (by decide) ⟨pk_in i 80 (by omega), pk_in D 80 (by omega), ?_⟩) (fun hy => br_t rfl (nm_e (hskip (fun z => by rw [mn_nm_c, hy] at z; exact absurd z.2.2 (by decide)))))
    rw [ebi, ebD]
    refine ⟨(it_ik k (T + 1) i).length + 1, ?_⟩
    refine ym_within (hel D (by omega)) _ (fun b hb => (hel i hi b hb).2) (hCH i hi) (fun hw => br_f (by decide) ?_) (fun hw => br_t rfl (nm_e (hskip (fun z => ?_)))) _ (by omega)
    · have e1 : mn_sr k T (mn_nm c st en) i t (D + 1) = some D := by
        show (if _ then _ else _) = _
        rw [if_pos ⟨h2, hw, by rw [mn_nm_c]; exact hy⟩]
      rw [e1] at hP; exact hP
    · have := z.2.1
      unfold mn_rc at this
      rw [hw] at this; cases this
theorem ym_num {post : Int32 → Prop} {c en : Nat → Nat} {T n t : Nat} (hn : n ≤ 80) (hT : T ≤ 80) (hE : ed_ag a_ends en T) (hX : ed_ag a_text c n) (ht : t < T) (hen : en t ≤ n) :
    ∀ d p v, p + d = en t → post (mn_nv c d p v) → ∀ f, d < f → (wY_numberAt_9 post (nI t) f_length f_tokenCount f_itemCount f_blockCount f_looseCount f_numberCount f_operatorCount a_text a_kinds a_starts a_ends a_owners a_meant a_firsts a_lasts a_sorts a_blocks a_knowns a_values a_around a_depths a_compared a_numbers a_operators f v (nI p)) := by
  have ee : a_ends (nI t).toNatClampNeg = nI (en t) := ed_rt t (hE t ht)
  intro d
  induction d with
  | zero =>
    intro p v hp h f hf
    obtain ⟨f, rfl⟩ : ∃ g, f = g + 1 := ⟨f - 1, by omega⟩
    exact ⟨pk_in t 80 (by omega), pk_le (en t) p (fun _ => h) (fun z => by omega) ee⟩
  | succ d ih =>
    intro p v hp h f hf
    obtain ⟨f, rfl⟩ : ∃ g, f = g + 1 := ⟨f - 1, by omega⟩
    refine ⟨pk_in t 80 (by omega), pk_le (en t) p (fun z => by omega) (fun _ => ⟨pk_in p 81 (by omega), nm_r (e' := v * 10 + (nI (c p) - 5)) ?_ (nm_r (nI_1 p) (ih (p + 1) _ (by omega) h f (by omega)))⟩) ee⟩
    rw [ed_rt p (hX p (by omega))]; exact mn_nv_y _ _
theorem ym_number {post : Int32 → Prop} {c st en : Nat → Nat} {T n t : Nat} (hn : n ≤ 80) (hT : T ≤ 80) (hS : ed_ag a_starts st T) (hE : ed_ag a_ends en T) (hX : ed_ag a_text c n) (ht : t < T) (hse : st t < en t ∧ en t ≤ n)
    (h : post (mn_nv c (en t - st t) (st t) 0)) : wpY_numberAt post (f_length, f_tokenCount, f_itemCount, f_blockCount, f_looseCount, f_numberCount, f_operatorCount, a_text, a_kinds, a_starts, a_ends, a_owners, a_meant, a_firsts, a_lasts, a_sorts, a_blocks, a_knowns, a_values, a_around, a_depths, a_compared, a_numbers, a_operators) (nI t) :=
  ⟨pk_in t 80 (by omega), ed_rd t (hS t ht) ⟨en t - st t + 1, ym_num hn hT hE hX ht hse.2 (en t - st t) (st t) 0 (by omega) h _ (by omega)⟩⟩
def yl_W (post : SY → Prop) (x1 : Int32) (f_length f_tokenCount f_itemCount f_blockCount f_looseCount f_numberCount f_operatorCount : Int32) (a_text a_kinds a_starts a_ends a_owners a_meant a_firsts a_lasts a_sorts a_blocks a_knowns a_values a_around a_depths a_compared a_numbers a_operators : Nat → Int32) (k : Nat) (O N : List Int32) : Prop :=
  ∀ f, k ≤ f → ∀ a_numbers : Nat → Int32, ed_sk a_numbers N → (wY_close_0 post x1 f_length f_tokenCount f_itemCount f_blockCount f_looseCount f (nI N.length) (nI O.length) a_text a_kinds a_starts a_ends a_owners a_meant a_firsts a_lasts a_sorts a_blocks a_knowns a_values a_around a_depths a_compared a_numbers a_operators)
theorem yl_up {post : SY → Prop} {x1 : Int32} {k : Nat} {O N : List Int32} (h : yl_W post x1 f_length f_tokenCount f_itemCount f_blockCount f_looseCount f_numberCount f_operatorCount a_text a_kinds a_starts a_ends a_owners a_meant a_firsts a_lasts a_sorts a_blocks a_knowns a_values a_around a_depths a_compared a_numbers a_operators k O N) : yl_W post x1 f_length f_tokenCount f_itemCount f_blockCount f_looseCount f_numberCount f_operatorCount a_text a_kinds a_starts a_ends a_owners a_meant a_firsts a_lasts a_sorts a_blocks a_knowns a_values a_around a_depths a_compared a_numbers a_operators (k + 1) O N := fun f hf => h f (by omega)
theorem yl_A {post : SY → Prop} {s q k : Nat} {y x : Int32} {O N : List Int32} (hO : O.length < 81) (hN : N.length + 1 < 81) (hs : s ≤ q) (hq : q ≤ 5) (hq3 : 3 ≤ q) (hsk : ed_sk a_operators (nI q :: O))
    (h : yl_W post (nI s) f_length f_tokenCount f_itemCount f_blockCount f_looseCount f_numberCount f_operatorCount a_text a_kinds a_starts a_ends a_owners a_meant a_firsts a_lasts a_sorts a_blocks a_knowns a_values a_around a_depths a_compared a_numbers a_operators k O (ev_rd q x y :: N)) : yl_W post (nI s) f_length f_tokenCount f_itemCount f_blockCount f_looseCount f_numberCount f_operatorCount a_text a_kinds a_starts a_ends a_owners a_meant a_firsts a_lasts a_sorts a_blocks a_knowns a_values a_around a_depths a_compared a_numbers a_operators (k + 1) (nI q :: O) (y :: x :: N) := by
  intro f hf NU hN2
  obtain ⟨f, rfl⟩ : ∃ g, f = g + 1 := ⟨f - 1, by omega⟩
  have h := h f (by omega)
  have e1 : nI (nI q :: O).length - 1 = nI O.length := nI_pred _
  have e2 : nI (y :: x :: N).length - 1 = nI (N.length + 1) := nI_pred _
  have e3 : nI (N.length + 1) - 1 = nI N.length := nI_pred _
  have e4 : a_operators (nI O.length).toNatClampNeg = nI q := ed_rt O.length hsk.1
  have hy : NU (N.length + 1) = y := hN2.1
  have hx : NU N.length = x := hN2.2.1
  refine br_f (nI_nle (Nat.succ_pos _) (by rw [List.length_cons]; omega)) ?_
  rw [e1]
  refine ⟨pk_in O.length 81 hO, ?_⟩
  rw [e4]
  refine br_f (nI_nlt hs (by omega)) (nm_e (nm_r e2 ⟨pk_in (N.length + 1) 81 hN, ed_rd (N.length + 1) hy ?_⟩))
  rw [e3]
  refine ⟨pk_in N.length 81 (by omega), ed_rd N.length hx ⟨pk_in O.length 81 hO, ed_rd O.length hsk.1 ?_⟩⟩
  have hput : ∀ z : Int32, z = ev_rd q x y → ed_sk (upd NU N.length z) (ev_rd q x y :: N) := by
    intro z hz
    rw [hz]; exact ed_sk_p hN2.2.2
  refine pk_eq q 4 (fun h4 => ⟨pk_in N.length 81 (by omega), ed_nu N.length (h _ (hput _ ?_))⟩) (fun h4 => pk_eq q 5 (fun h5 => ⟨pk_in N.length 81 (by omega), ed_nu N.length (h _ (hput _ ?_))⟩) (fun h5 => ?_))
  · unfold ev_rd; rw [if_pos h4]
  · unfold ev_rd; rw [if_neg h4, if_pos h5]
  · by_cases e : x = y
    · refine br_t e ⟨pk_in N.length 81 (by omega), ed_nu N.length (h _ (hput _ ?_))⟩
      unfold ev_rd; rw [if_neg h4, if_neg h5, if_pos e]
    · refine br_f e ⟨pk_in N.length 81 (by omega), ed_nu N.length (h _ (hput _ ?_))⟩
      unfold ev_rd; rw [if_neg h4, if_neg h5, if_neg e]
theorem yl_stop {post : SY → Prop} {s : Nat} {O N : List Int32} (hO : O.length < 82) (hs : s ≤ 5) (hsk : ed_sk a_operators O) (ho : ∀ o r, O = o :: r → ∃ q, o = nI q ∧ q < s)
    (h : ∀ a_numbers : Nat → Int32, ed_sk a_numbers N → post (f_length, f_tokenCount, f_itemCount, f_blockCount, f_looseCount, nI N.length, nI O.length, a_text, a_kinds, a_starts, a_ends, a_owners, a_meant, a_firsts, a_lasts, a_sorts, a_blocks, a_knowns, a_values, a_around, a_depths, a_compared, a_numbers, a_operators)) : yl_W post (nI s) f_length f_tokenCount f_itemCount f_blockCount f_looseCount f_numberCount f_operatorCount a_text a_kinds a_starts a_ends a_owners a_meant a_firsts a_lasts a_sorts a_blocks a_knowns a_values a_around a_depths a_compared a_numbers a_operators 1 O N := by
  intro f hf NU hN
  obtain ⟨f, rfl⟩ : ∃ g, f = g + 1 := ⟨f - 1, by omega⟩
  cases O with
  | nil => exact br_t (by decide) (h NU hN)
  | cons o r =>
    obtain ⟨q, hq, hqs⟩ := ho o r rfl
    have e1 : nI (o :: r).length - 1 = nI r.length := nI_pred _
    have hl : r.length + 1 < 82 := hO
    have e4 : a_operators (nI r.length).toNatClampNeg = nI q := (ed_rt r.length hsk.1).trans hq
    refine br_f (nI_nle (Nat.succ_pos _) (by rw [List.length_cons]; omega)) ?_
    rw [e1]
    refine ⟨pk_in r.length 81 (by omega), ?_⟩
    rw [e4]
    exact br_t (nI_lt hqs (by omega)) (h NU hN)
end
