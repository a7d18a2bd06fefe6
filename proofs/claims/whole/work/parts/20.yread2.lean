section
/-! Y's whole reading of the text -/
theorem ev_r6 {k : Nat → Nat} {tv : Nat → Int32} {m t : Nat} {L : ev_L} {r : List ev_L} (h : k t = 6) : ev_r k tv (m + 1) t (L :: r) none = ev_r k tv m (t + 1) ((none, none, none) :: L :: r) none := by
  show (if _ then _ else _) = _
  rw [if_pos h]
theorem ev_rf {k : Nat → Nat} {tv : Nat → Int32} {m t : Nat} {L : ev_L} {r : List ev_L} (h : ¬ k t = 6) : ev_r k tv (m + 1) t (L :: r) none = ev_r k tv m (t + 1) (L :: r) (some (tv t)) := by
  show (if _ then _ else _) = _
  rw [if_neg h]
theorem ev_r7 {k : Nat → Nat} {tv : Nat → Int32} {m t : Nat} {L : ev_L} {r : List ev_L} {v : Int32} (h : k t = 7) : ev_r k tv (m + 1) t (L :: r) (some v) = ev_r k tv m (t + 1) r (some (ev_v L v)) := by
  show (if _ then _ else _) = _
  rw [if_pos h]
theorem ev_r5 {k : Nat → Nat} {tv : Nat → Int32} {m t : Nat} {L : ev_L} {r : List ev_L} {v : Int32} (h : k t = 5) : ev_r k tv (m + 1) t (L :: r) (some v) = ev_r k tv m (t + 1) ((L.1, L.2.1, some (ev_p L v)) :: r) none := by
  show (if _ then _ else _) = _
  rw [if_neg (by omega), if_pos h]
theorem ev_r4 {k : Nat → Nat} {tv : Nat → Int32} {m t : Nat} {L : ev_L} {r : List ev_L} {v : Int32} (h : k t = 4) : ev_r k tv (m + 1) t (L :: r) (some v) = ev_r k tv m (t + 1) ((L.1, some (ev_s L v), none) :: r) none := by
  show (if _ then _ else _) = _
  rw [if_neg (by omega), if_neg (by omega), if_pos h]
theorem ev_r3 {k : Nat → Nat} {tv : Nat → Int32} {m t : Nat} {L : ev_L} {r : List ev_L} {v : Int32} (h : k t = 3) : ev_r k tv (m + 1) t (L :: r) (some v) = ev_r k tv m (t + 1) ((some (ev_s L v), none, none) :: r) none := by
  show (if _ then _ else _) = _
  rw [if_neg (by omega), if_neg (by omega), if_neg (by omega)]
def yp_P (c st en k : Nat → Nat) (T n : Nat) (a_text a_kinds a_starts a_ends a_firsts a_lasts a_sorts a_blocks a_around a_depths : Nat → Int32) : Prop :=
  n ≤ 80 ∧ T ≤ 80 ∧ (∀ q, q < T → st q < en q ∧ en q ≤ n) ∧ (∀ j, j < n → c j ≤ 18) ∧ (∀ t, t < T → k t ≤ 10) ∧ k T = 11
  ∧ ed_ag a_text c n ∧ ed_ag a_kinds k T ∧ ed_ag a_starts st T ∧ ed_ag a_ends en T
  ∧ ed_ag a_firsts (it_fi k (T + 1)) (it_cn k (T + 1)) ∧ ed_ag a_lasts (it_ie k (T + 1)) (it_cn k (T + 1)) ∧ ed_ag a_sorts (mn_so k T) (it_cn k (T + 1))
  ∧ (∀ i, i < it_cn k (T + 1) → a_blocks i = yc_h (it_ik k (T + 1) i)) ∧ (∀ i, i < it_cn k (T + 1) → yc_I a_around a_depths (it_ik k (T + 1) i))
variable {f_length f_tokenCount f_itemCount f_blockCount f_looseCount f_numberCount f_operatorCount : Int32} {a_text a_kinds a_starts a_ends a_owners a_meant a_firsts a_lasts a_sorts a_blocks a_knowns a_values a_around a_depths a_compared a_numbers a_operators : Nat → Int32}
theorem yw_end {post : SY → Prop} {i : Nat} {K : Bool} {x : Int32} (hi : i < 80) (hK : a_knowns i = ed_bI K) (hx : K = true → a_numbers 0 = x) (h : post (f_length, f_tokenCount, f_itemCount, f_blockCount, f_looseCount, f_numberCount, f_operatorCount, a_text, a_kinds, a_starts, a_ends, a_owners, a_meant, a_firsts, a_lasts, a_sorts, a_blocks, a_knowns, upd a_values i (if K then x else 0), a_around, a_depths, a_compared, a_numbers, a_operators)) :
    vp_in (nI i) 80 ∧ ((a_knowns (nI i).toNatClampNeg = 0 → (vp_in (nI i) 80 ∧ ∀ a_values_39, a_values_39 = upd a_values (nI i).toNatClampNeg 0 → post (f_length, f_tokenCount, f_itemCount, f_blockCount, f_looseCount, f_numberCount, f_operatorCount, a_text, a_kinds, a_starts, a_ends, a_owners, a_meant, a_firsts, a_lasts, a_sorts, a_blocks, a_knowns, a_values_39, a_around, a_depths, a_compared, a_numbers, a_operators))) ∧ (¬ a_knowns (nI i).toNatClampNeg = 0 → (vp_in (nI i) 80 ∧ ∀ a_values_41, a_values_41 = upd a_values (nI i).toNatClampNeg (a_numbers 0) → post (f_length, f_tokenCount, f_itemCount, f_blockCount, f_looseCount, f_numberCount, f_operatorCount, a_text, a_kinds, a_starts, a_ends, a_owners, a_meant, a_firsts, a_lasts, a_sorts, a_blocks, a_knowns, a_values_41, a_around, a_depths, a_compared, a_numbers, a_operators)))) := by
  have eK : a_knowns (nI i).toNatClampNeg = ed_bI K := ed_rt i hK
  refine ⟨pk_in i 80 hi, ?_⟩
  cases K with
  | false => exact br_t eK ⟨pk_in i 80 hi, ed_nu i h⟩
  | true => exact br_f (by rw [eK]; decide) ⟨pk_in i 80 hi, ed_nuv i x (hx rfl) h⟩
theorem yw_loop {post : SY → Prop} {c st en k : Nat → Nat} {T n i : Nat} {tb : Nat → Bool × Int32} {K : Bool} (hp : yp_P c st en k T n a_text a_kinds a_starts a_ends a_firsts a_lasts a_sorts a_blocks a_around a_depths) (hi : i < it_cn k (T + 1)) (hso : mn_so k T i ≠ 0) (hV : ∀ d, d < i → a_values d = (tb d).2) :
    ∀ d t, t + d = it_ie k (T + 1) i → mn_es k T i ≤ t → ∀ fu, d < fu → ∀ (L : ev_L) (r : List ev_L) (o : Option Int32) (acc : Bool) (a_meant a_knowns a_numbers a_operators : Nat → Int32),
      2 * ev_t (L :: r) + r.length + ev_b o ≤ t → ex_r k d t o.isNone (ev_cs (L :: r)) = true → ed_sk a_numbers (o.toList ++ ev_N (L :: r)) → ed_sk a_operators (ev_O (L :: r)) →
      ed_ao a_meant (mm_f k T (mn_nm c st en) i t) T → (∀ d, d < i → a_knowns d = ed_bI (tb d).1) → a_knowns i = ed_bI acc → (acc && mn_ak k (fun t => mn_sr k T (mn_nm c st en) i t i) tb d t) = K →
      (∀ (f_numberCount f_operatorCount : Int32) (a_meant a_knowns a_numbers a_operators : Nat → Int32), ed_ao a_meant (mn_mt k T (mn_nm c st en) (i + 1)) T → (∀ d, d < i → a_knowns d = ed_bI (tb d).1) → a_knowns i = ed_bI K →
        post (f_length, f_tokenCount, f_itemCount, f_blockCount, f_looseCount, f_numberCount, f_operatorCount, a_text, a_kinds, a_starts, a_ends, a_owners, a_meant, a_firsts, a_lasts, a_sorts, a_blocks, a_knowns, upd a_values i (if K then ev_r k (mn_tv k (fun t => mn_nv c (en t - st t) (st t) 0) (fun t => mn_sr k T (mn_nm c st en) i t i) tb) d t (L :: r) o else 0), a_around, a_depths, a_compared, a_numbers, a_operators)) →
      (wY_work_60 post (nI i) fu (nI t) f_length f_tokenCount f_itemCount f_blockCount f_looseCount (nI (o.toList ++ ev_N (L :: r)).length) (nI (ev_O (L :: r)).length) a_text a_kinds a_starts a_ends a_owners a_meant a_firsts a_lasts a_sorts a_blocks a_knowns a_values a_around a_depths a_compared a_numbers a_operators) := by
  obtain ⟨h1, h2, h3, h4, h5, h6, h7, h8, h9, h10, h11, h12, h13, h14, h15⟩ := hp
  have hN := it_N h6
  have hE := it_E hi
  have hes := mn_es_ge k T i
  have hs2 : mn_so k T i ≤ 2 := ex_so_le _ _ _
  have eie : a_lasts (nI i).toNatClampNeg = nI (it_ie k (T + 1) i) := ed_rt i (h12 i hi)
  have eso : a_sorts (nI i).toNatClampNeg = nI (mn_so k T i) := ed_rt i (h13 i hi)
  intro d
  induction d with
  | zero =>
    intro t ht hge fu hfu L r o acc ME KN NU OP hinv hex hnu hop hme hK hKi hacc hP
    obtain ⟨fu, rfl⟩ : ∃ g, fu = g + 1 := ⟨fu - 1, by omega⟩
    obtain ⟨q1, q2⟩ := ex_i0 hex
    cases o with
    | none => cases q1
    | some v =>
      cases r with
      | cons M r => unfold ev_cs at q2; rw [List.length_map] at q2; cases q2
      | nil =>
        have hKK : acc = K := by rw [← hacc]; exact (Bool.and_true acc).symm
        have ht2 : t = it_ie k (T + 1) i := by omega
        rw [ht2, mm_e] at hme
        have hO := ev_O_l [L]
        have hNl := ev_N_l [L]
        have hl1 : [L].length = 1 := rfl
        have hl2 : (ev_N [L]).length = (ev_nu L ++ []).length := rfl
        refine ⟨pk_in i 80 (by omega), pk_le (it_ie k (T + 1) i) t (fun _ => ?_) (fun z => by omega) eie⟩
        unfold wY_work_292
        refine yl_c3 (L := L) (r := []) (v := v) (N := []) (by rw [ev_OR] at hO; omega) (by omega) hop hnu (fun NU hn2 => ?_)
        refine yw_end (K := K) (x := ev_v L v) (by omega) (by rw [← hKK]; exact hKi) (fun _ => hn2.1) ?_
        exact hP _ _ ME KN NU OP hme hK (by rw [← hKK]; exact hKi)
  | succ d ih =>
    intro t ht hge fu hfu L r o acc ME KN NU OP hinv hex hnu hop hme hK hKi hacc hP
    obtain ⟨fu, rfl⟩ : ∃ g, fu = g + 1 := ⟨fu - 1, by omega⟩
    have ih := ih (t + 1) (by omega) (by omega) fu (by omega)
    have hkt := h5 t (by omega)
    have hO := ev_O_l (L :: r)
    have hNl := ev_N_l (L :: r)
    rw [List.length_cons] at hO
    have hl2 : (ev_N (L :: r)).length = (ev_nu L ++ ev_N r).length := rfl
    have hO1 : (ev_op L ++ ev_R r).length ≤ 81 := by rw [ev_OR] at hO; omega
    have tL : ev_t (L :: r) = ev_b L.1 + ev_b L.2.1 + ev_b L.2.2 + ev_t r := rfl
    have hb1 := ev_b_le L.1
    have hb2 := ev_b_le L.2.1
    have hb3 := ev_b_le L.2.2
    refine ⟨pk_in i 80 (by omega), pk_le (it_ie k (T + 1) i) t (fun z => by omega) (fun _ => ⟨pk_in i 80 (by omega), pk_le (mn_so k T i) 0 (fun z => by omega) (fun _ => ⟨pk_in t 80 (by omega), ed_rd t (h8 t (by omega)) ?_⟩) eso⟩) eie⟩
    have hakn : ¬ k t = 0 → mn_ak k (fun t => mn_sr k T (mn_nm c st en) i t i) tb (d + 1) t = mn_ak k (fun t => mn_sr k T (mn_nm c st en) i t i) tb d (t + 1) := by
      intro z
      show (mn_k1 k _ tb t && _) = _
      unfold mn_k1; rw [if_neg z, Bool.true_and]
    cases o with
    | none =>
      have hw : ex_r k (d + 1) t true (ev_cs (L :: r)) = true := hex
      have hk := ex_iw hw
      have hbo : ev_b none = 0 := rfl
      refine pk_le 2 (k t) (fun hk2 => ?_) (fun hk2 => ?_)
      · have h6' : k t = 6 := by omega
        rw [ex_w6 h6'] at hw
        rw [hakn (by omega)] at hacc
        have hmm := mm_n (T := T) (nm := mn_nm c st en) (i := i) (show ¬ k t = 0 by omega)
        rw [hmm] at ih
        refine pk_eq (k t) 7 (fun z => by omega) (fun _ => pk_eq (k t) 6 (fun _ => ?_) (fun z => absurd h6' z))
        refine pk_eq (k t) 6 (fun _ => ?_) (fun z => absurd h6' z)
        refine ⟨pk_in (ev_O (L :: r)).length 81 (by omega), ed_nu (ev_O (L :: r)).length (nm_r (nI_1 _) (nm_r (nI_1 t) ?_))⟩
        refine ih (none, none, none) (L :: r) none acc ME KN NU _ ?_ hw hnu (ed_sk_p hop) hme hK hKi hacc (fun NC OC ME KN NU OP m1 m2 m3 => ?_)
        · have t0 : ev_t ((none, none, none) :: L :: r) = 0 + ev_t (L :: r) := rfl
          rw [t0, List.length_cons]; omega
        · have := hP NC OC ME KN NU OP m1 m2 m3
          rw [ev_r6 h6'] at this
          exact this
      · have hk1 : k t ≤ 1 := by omega
        rw [ex_w1 hk1] at hw
        have hfin : ∀ o : Option Nat, (k t = 0 → o = mn_sr k T (mn_nm c st en) i t i) → (k t = 1 → o = none) → (wY_work_114 post (wY_work_60 post (nI i) fu) (nI i) (nI t) (nI (k t)) (ed_oI o) (nI t) f_length f_tokenCount f_itemCount f_blockCount f_looseCount (nI (ev_N (L :: r)).length) (nI (ev_O (L :: r)).length) a_text a_kinds a_starts a_ends a_owners ME a_firsts a_lasts a_sorts a_blocks KN a_values a_around a_depths a_compared NU OP) := by
          intro o ho0 ho1
          have hmt : mn_mt k T (mn_nm c st en) (i + 1) t = o := by
            show (if _ then _ else _) = _
            by_cases z : k t = 0
            · rw [if_pos ⟨hso, hge, by omega, z⟩, ho0 z]
            · rw [if_neg (fun y => z y.2.2.2), ho1 (by omega)]
              exact mn_mt_out hi (by omega)
          refine yw_factor (f := fun t => mn_sr k T (mn_nm c st en) i t i) (tb := tb) (acc := acc) h1 h2 h9 h10 h7 (by omega) (h3 t (by omega)) (by omega) (by omega) hk1 ho0 ho1 (fun x hx => mn_sr_lt hx) hKi hK hV ?_
          refine ih L r (some _) (acc && mn_k1 k (fun t => mn_sr k T (mn_nm c st en) i t i) tb t) _ _ _ OP ?_ hw (ed_sk_p hnu) hop ?_ ?_ pk_us ?_ (fun NC OC ME KN NU OP m1 m2 m3 => ?_)
          · have hbs : ev_b (some (mn_tv k (fun t => mn_nv c (en t - st t) (st t) 0) (fun t => mn_sr k T (mn_nm c st en) i t i) tb t)) = 1 := rfl
            omega
          · rw [mm_s, hmt]
            intro j hj
            by_cases z : j = t
            · subst z; rw [pk_us, ed_fs]
            · rw [pk_un z, ed_fn z]; exact hme j hj
          · intro x hx
            rw [pk_un (by omega)]; exact hK x hx
          · rw [Bool.and_assoc]; exact hacc
          · have := hP NC OC ME KN NU OP m1 m2 m3
            rw [ev_rf (by omega)] at this
            exact this
        refine pk_eq (k t) 0 (fun h0 => ?_) (fun h0 => ?_)
        · refine nm_e ⟨i + 1, ?_⟩
          exact ym_find h1 h2 h9 h10 h7 h3 h4 h6 hi (by omega) h11 h13 h14 h15 i (Nat.le_refl _) _ rfl (i + 1) (by omega) (hfin _ (fun _ => rfl) (fun z => by omega))
        · exact hfin none (fun z => absurd z h0) (fun _ => rfl)
    | some v =>
      have hw : ex_r k (d + 1) t false (L.1.isSome :: ev_cs r) = true := hex
      have hk := ex_if hw
      have hbo : ev_b (some v) = 1 := rfl
      rw [hakn (by omega)] at hacc
      have hmm := mm_n (T := T) (nm := mn_nm c st en) (i := i) (show ¬ k t = 0 by omega)
      rw [hmm] at ih
      refine pk_le 2 (k t) (fun hk2 => ?_) (fun hk2 => by omega)
      refine pk_eq (k t) 7 (fun h7' => ?_) (fun h7' => pk_eq (k t) 6 (fun z => by omega) (fun _ => ?_))
      · cases r with
        | nil =>
          rcases hk with z | z | z | z
          · exact absurd rfl z.2
          · omega
          · omega
          · omega
        | cons M r =>
          have hw2 : ex_r k (d + 1) t false (L.1.isSome :: M.1.isSome :: ev_cs r) = true := hw
          rw [ex_f7 h7'] at hw2
          refine yl_c3 (L := L) (r := M :: r) (v := v) (N := ev_N (M :: r)) hO1 (by omega) hop hnu (fun NU hn2 => ?_)
          refine nm_r (show nI (ev_R (M :: r)).length - 1 = nI (ev_O (M :: r)).length from nI_pred _) (nm_r (nI_1 t) ?_)
          refine ih M r (some (ev_v L v)) acc ME KN NU OP ?_ hw2 hn2 (ed_sk_t (l := ev_op L) hop).2 hme hK hKi hacc (fun NC OC ME KN NU OP m1 m2 m3 => ?_)
          · rw [List.length_cons] at hinv
            have : ev_b (some (ev_v L v)) = 1 := rfl
            omega
          · have := hP NC OC ME KN NU OP m1 m2 m3
            rw [ev_r7 h7'] at this
            exact this
      · have hgo : ∀ (L2 : ev_L) (Q : List Int32) (NU : Nat → Int32), ev_w L2 ≤ ev_w L + 1 → 1 ≤ ev_w L2 → ev_op L2 ++ ev_R r = nI (k t) :: Q → ed_sk OP Q → ed_sk NU (ev_N (L2 :: r)) → ex_r k d (t + 1) true (ev_cs (L2 :: r)) = true →
            (∀ (f_numberCount f_operatorCount : Int32) (a_meant a_knowns a_numbers a_operators : Nat → Int32), ed_ao a_meant (mn_mt k T (mn_nm c st en) (i + 1)) T → (∀ d, d < i → a_knowns d = ed_bI (tb d).1) → a_knowns i = ed_bI K →
              post (f_length, f_tokenCount, f_itemCount, f_blockCount, f_looseCount, f_numberCount, f_operatorCount, a_text, a_kinds, a_starts, a_ends, a_owners, a_meant, a_firsts, a_lasts, a_sorts, a_blocks, a_knowns, upd a_values i (if K then ev_r k (mn_tv k (fun t => mn_nv c (en t - st t) (st t) 0) (fun t => mn_sr k T (mn_nm c st en) i t i) tb) d (t + 1) (L2 :: r) none else 0), a_around, a_depths, a_compared, a_numbers, a_operators)) →
            (wY_work_254 post (wY_work_60 post (nI i) fu) (nI i) (nI t) (nI (k t)) f_length f_tokenCount f_itemCount f_blockCount f_looseCount (nI (ev_N (L2 :: r)).length) (nI Q.length) a_text a_kinds a_starts a_ends a_owners ME a_firsts a_lasts a_sorts a_blocks KN a_values a_around a_depths a_compared NU OP) := by
          intro L2 Q NU w1 w2 hQ hs hnu2 hex2 hP2
          have t2 : ev_t (L2 :: r) = ev_w L2 + ev_t r := rfl
          have wL : ev_t (L :: r) = ev_w L + ev_t r := rfl
          have hO2 := ev_O_l (L2 :: r)
          rw [ev_OR, hQ, List.length_cons, List.length_cons] at hO2
          refine pk_eq (k t) 6 (fun z => by omega) (fun _ => ?_)
          refine ⟨pk_in Q.length 81 (by omega), ed_nu Q.length (nm_r (nI_1 _) (nm_r (nI_1 t) ?_))⟩
          have hop2 : ed_sk (upd OP Q.length (nI (k t))) (ev_O (L2 :: r)) := by rw [ev_OR, hQ]; exact ed_sk_p hs
          have res := ih L2 r none acc ME KN NU (upd OP Q.length (nI (k t))) (by have : ev_b none = 0 := rfl; omega) hex2 hnu2 hop2 hme hK hKi hacc hP2
          rw [ev_OR, hQ, List.length_cons] at res
          exact res
        by_cases h5' : k t = 5
        · rw [ex_f4 (by omega)] at hw
          rw [h5']
          refine yl_c5 (L := L) (r := r) (v := v) (N := ev_N r) hO1 (by omega) hop hnu (fun NU hn2 => ?_)
          have g := hgo (L.1, L.2.1, some (ev_p L v)) (ev_op (L.1, L.2.1, none) ++ ev_R r) NU ?_ ?_ (by rw [h5']; rfl) ?_ hn2 hw (fun NC OC ME KN NU OP m1 m2 m3 => ?_)
          · rw [h5'] at g; exact g
          · show ev_b L.1 + ev_b L.2.1 + 1 ≤ ev_b L.1 + ev_b L.2.1 + ev_b L.2.2 + 1; omega
          · show 1 ≤ ev_b L.1 + ev_b L.2.1 + 1; omega
          · obtain ⟨x1, x2, x3⟩ := L
            cases x3 with
            | none => exact hop
            | some x3 => exact hop.2
          · have := hP NC OC ME KN NU OP m1 m2 m3
            rw [ev_r5 h5'] at this
            exact this
        · by_cases h4' : k t = 4
          · rw [ex_f4 (by omega)] at hw
            rw [h4']
            refine yl_c4 (L := L) (r := r) (v := v) (N := ev_N r) hO1 (by omega) hop hnu (fun NU hn2 => ?_)
            have g := hgo (L.1, some (ev_s L v), none) (ev_op (L.1, none, none) ++ ev_R r) NU ?_ ?_ (by rw [h4']; rfl) ?_ hn2 hw (fun NC OC ME KN NU OP m1 m2 m3 => ?_)
            · rw [h4'] at g; exact g
            · show ev_b L.1 + 1 + 0 ≤ ev_b L.1 + ev_b L.2.1 + ev_b L.2.2 + 1; omega
            · show 1 ≤ ev_b L.1 + 1 + 0; omega
            · obtain ⟨x1, x2, x3⟩ := L
              cases x3 with
              | none =>
                cases x2 with
                | none => exact hop
                | some x2 => exact hop.2
              | some x3 =>
                cases x2 with
                | none => exact hop.2
                | some x2 => exact hop.2.2
            · have := hP NC OC ME KN NU OP m1 m2 m3
              rw [ev_r4 h4'] at this
              exact this
          · have h3' : k t = 3 := by omega
            have hLn : L.1.isSome = false := by
              rcases hk with z | z | z | z
              · omega
              · omega
              · omega
              · exact z.2
            have hL1 : L.1 = none := by
              cases hx : L.1 with
              | none => rfl
              | some x => rw [hx] at hLn; cases hLn
            have hvs : ev_v L v = ev_s L v := by unfold ev_v; rw [hL1]
            rw [hLn, ex_f3 h3'] at hw
            rw [h3']
            refine yl_c3 (L := L) (r := r) (v := v) (N := ev_N r) hO1 (by omega) hop hnu (fun NU hn2 => ?_)
            have g := hgo (some (ev_v L v), none, none) (ev_R r) NU ?_ ?_ (by rw [h3']; rfl) (ed_sk_t hop) hn2 hw (fun NC OC ME KN NU OP m1 m2 m3 => ?_)
            · rw [h3'] at g; exact g
            · show 1 + 0 + 0 ≤ ev_b L.1 + ev_b L.2.1 + ev_b L.2.2 + 1; omega
            · show 1 ≤ 1 + 0 + 0; omega
            · have := hP NC OC ME KN NU OP m1 m2 m3
              rw [ev_r3 h3'] at this
              rw [hvs]; exact this
end
