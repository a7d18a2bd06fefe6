section
/-! Y's whole reading, put together -/
variable {f_length f_tokenCount f_itemCount f_blockCount f_looseCount f_numberCount f_operatorCount : Int32} {a_text a_kinds a_starts a_ends a_owners a_meant a_firsts a_lasts a_sorts a_blocks a_knowns a_values a_around a_depths a_compared a_numbers a_operators : Nat → Int32}
theorem yw_work {post : SY → Prop} {c st en k : Nat → Nat} {T n i : Nat} (hp : yp_P c st en k T n a_text a_kinds a_starts a_ends a_firsts a_lasts a_sorts a_blocks a_around a_depths) (hi : i < it_cn k (T + 1))
    (hM : ed_ao a_meant (mn_mt k T (mn_nm c st en) i) T)
    (hK : ed_ab a_knowns (fun j => (mn_kv k T (mn_nm c st en) (fun t => mn_nv c (en t - st t) (st t) 0) i j).1) i) (hV : ed_av a_values (fun j => (mn_kv k T (mn_nm c st en) (fun t => mn_nv c (en t - st t) (st t) 0) i j).2) i)
    (hP : ∀ (f_numberCount f_operatorCount : Int32) (a_meant a_knowns a_values a_numbers a_operators : Nat → Int32), ed_ao a_meant (mn_mt k T (mn_nm c st en) (i + 1)) T → ed_ab a_knowns (fun j => (mn_kv k T (mn_nm c st en) (fun t => mn_nv c (en t - st t) (st t) 0) (i + 1) j).1) (i + 1) → ed_av a_values (fun j => (mn_kv k T (mn_nm c st en) (fun t => mn_nv c (en t - st t) (st t) 0) (i + 1) j).2) (i + 1) → post (f_length, f_tokenCount, f_itemCount, f_blockCount, f_looseCount, f_numberCount, f_operatorCount, a_text, a_kinds, a_starts, a_ends, a_owners, a_meant, a_firsts, a_lasts, a_sorts, a_blocks, a_knowns, a_values, a_around, a_depths, a_compared, a_numbers, a_operators)) :
    wpY_work post (f_length, f_tokenCount, f_itemCount, f_blockCount, f_looseCount, f_numberCount, f_operatorCount, a_text, a_kinds, a_starts, a_ends, a_owners, a_meant, a_firsts, a_lasts, a_sorts, a_blocks, a_knowns, a_values, a_around, a_depths, a_compared, a_numbers, a_operators) (nI i) := by
  have hp2 := hp
  obtain ⟨h1, h2, h3, h4, h5, h6, h7, h8, h9, h10, h11, h12, h13, h14, h15⟩ := hp
  have hN := it_N h6
  have hE := it_E hi
  have hs2 : mn_so k T i ≤ 2 := ex_so_le _ _ _
  have eso : a_sorts (nI i).toNatClampNeg = nI (mn_so k T i) := ed_rt i (h13 i hi)
  have hfin : ∀ (f_numberCount f_operatorCount : Int32) (a_meant a_knowns a_numbers a_operators : Nat → Int32) (b : Bool) (x : Int32), mn_iv k T (mn_nm c st en) (fun t => mn_nv c (en t - st t) (st t) 0) (mn_kv k T (mn_nm c st en) (fun t => mn_nv c (en t - st t) (st t) 0) i) i = (b, x) → ed_ao a_meant (mn_mt k T (mn_nm c st en) (i + 1)) T → (∀ d, d < i → a_knowns d = ed_bI (mn_kv k T (mn_nm c st en) (fun t => mn_nv c (en t - st t) (st t) 0) i d).1) → a_knowns i = ed_bI b → post (f_length, f_tokenCount, f_itemCount, f_blockCount, f_looseCount, f_numberCount, f_operatorCount, a_text, a_kinds, a_starts, a_ends, a_owners, a_meant, a_firsts, a_lasts, a_sorts, a_blocks, a_knowns, upd a_values i x, a_around, a_depths, a_compared, a_numbers, a_operators) := by
    intro NC OC ME KN NU OP b x hiv m1 m2 m3
    refine hP NC OC ME KN _ NU OP m1 ?_ ?_
    · intro j hj
      show KN j = ed_bI (ed_fu (mn_kv k T (mn_nm c st en) (fun t => mn_nv c (en t - st t) (st t) 0) i) i (mn_iv k T (mn_nm c st en) (fun t => mn_nv c (en t - st t) (st t) 0) (mn_kv k T (mn_nm c st en) (fun t => mn_nv c (en t - st t) (st t) 0) i) i) j).1
      by_cases z : j = i
      · subst z; rw [ed_fs, hiv]; exact m3
      · rw [ed_fn z]; exact m2 j (by omega)
    · intro j hj
      show upd a_values i x j = (ed_fu (mn_kv k T (mn_nm c st en) (fun t => mn_nv c (en t - st t) (st t) 0) i) i (mn_iv k T (mn_nm c st en) (fun t => mn_nv c (en t - st t) (st t) 0) (mn_kv k T (mn_nm c st en) (fun t => mn_nv c (en t - st t) (st t) 0) i) i) j).2
      by_cases z : j = i
      · subst z; rw [ed_fs, hiv, pk_us]
      · rw [ed_fn z, pk_un z]; exact hV j (by omega)
  refine ⟨pk_in i 80 (by omega), pk_le (mn_so k T i) 0 (fun h0 => ?_) (fun h0 => ?_) eso⟩
  · have hso0 : mn_so k T i = 0 := by omega
    refine ⟨pk_in i 80 (by omega), ed_nuv i (ed_bI false) ed_nb0 ⟨pk_in i 80 (by omega), br_f (by rw [eso, hso0]; decide) ⟨pk_in i 80 (by omega), ed_rd i (h11 i hi) ⟨1, ?_⟩⟩⟩⟩
    have e12 : a_lasts (nI i).toNatClampNeg = nI (it_ie k (T + 1) i) := ed_rt i (h12 i hi)
    refine ⟨pk_in i 80 (by omega), pk_le (it_ie k (T + 1) i) (it_fi k (T + 1) i) (fun z => by omega) (fun _ => ⟨pk_in i 80 (by omega), br_t (by rw [eso, hso0]; decide) ?_⟩) e12⟩
    unfold wY_work_292
    refine ⟨1, br_t (by decide) ?_⟩
    refine yw_end (K := false) (x := 0) (by omega) pk_us (fun z => by cases z) ?_
    refine hfin _ _ _ _ _ _ false 0 ?_ ?_ (fun x hx => ?_) pk_us
    · unfold mn_iv; rw [if_neg (fun z => z.1 hso0)]
    · rw [mm_w hso0]; exact hM
    · rw [pk_un (by omega)]; exact hK x hx
  · have hso : mn_so k T i ≠ 0 := by omega
    obtain ⟨hex, hle⟩ := ex_so_ex hE.1 hso
    have hle : mn_es k T i ≤ it_ie k (T + 1) i := hle
    have hes := mn_es_ge k T i
    have hgo : ∃ n60 : Nat, (wY_work_60 post (nI i) n60 (nI (mn_es k T i)) f_length f_tokenCount f_itemCount f_blockCount f_looseCount 0 0 a_text a_kinds a_starts a_ends a_owners a_meant a_firsts a_lasts a_sorts a_blocks (upd a_knowns i (ed_bI true)) a_values a_around a_depths a_compared a_numbers a_operators) := by
      refine ⟨it_ie k (T + 1) i - mn_es k T i + 1, ?_⟩
      refine yw_loop (tb := mn_kv k T (mn_nm c st en) (fun t => mn_nv c (en t - st t) (st t) 0) i) (K := mn_ak k (fun t => mn_sr k T (mn_nm c st en) i t i) (mn_kv k T (mn_nm c st en) (fun t => mn_nv c (en t - st t) (st t) 0) i) (it_ie k (T + 1) i - mn_es k T i) (mn_es k T i)) hp2 hi hso hV (it_ie k (T + 1) i - mn_es k T i) (mn_es k T i) (by omega) (Nat.le_refl _) _ (by omega) (none, none, none) [] none true a_meant _ a_numbers a_operators ?_ hex trivial trivial ?_ (fun x hx => ?_) pk_us (Bool.true_and _) (fun NC OC ME KN NU OP m1 m2 m3 => ?_)
      · exact Nat.zero_le _
      · rw [mm_0]; exact hM
      · rw [pk_un (by omega)]; exact hK x hx
      · refine hfin NC OC ME KN NU OP _ _ ?_ m1 m2 m3
        unfold mn_iv
        cases hak : mn_ak k (fun t => mn_sr k T (mn_nm c st en) i t i) (mn_kv k T (mn_nm c st en) (fun t => mn_nv c (en t - st t) (st t) 0) i) (it_ie k (T + 1) i - mn_es k T i) (mn_es k T i) with
        | true => rw [if_pos ⟨hso, rfl⟩]; rfl
        | false => rw [if_neg (fun z => by cases z.2)]; rfl
    refine ⟨pk_in i 80 (by omega), ed_nuv i (ed_bI true) ed_nb1 ⟨pk_in i 80 (by omega), pk_eq (mn_so k T i) 2 (fun z2 => ⟨pk_in i 80 (by omega), ?_⟩) (fun z2 => ⟨pk_in i 80 (by omega), ?_⟩) eso⟩⟩
    · have e : mn_es k T i = it_fi k (T + 1) i + 2 := by unfold mn_es ex_es; rw [if_pos z2]
      rw [e] at hgo
      refine nm_r (e' := nI (it_fi k (T + 1) i + 2)) ?_ hgo
      rw [ed_rt i (h11 i hi)]; exact nI_add _ 2
    · have e : mn_es k T i = it_fi k (T + 1) i := by unfold mn_es ex_es; rw [if_neg z2]
      rw [e] at hgo
      exact ed_rd i (h11 i hi) hgo
theorem yr_items {post : SY → Prop} {c st en k : Nat → Nat} {T n : Nat} (hp : yp_P c st en k T n a_text a_kinds a_starts a_ends a_firsts a_lasts a_sorts a_blocks a_around a_depths)
    (hP : ∀ (f_numberCount f_operatorCount : Int32) (a_meant a_knowns a_values a_numbers a_operators : Nat → Int32), ed_ao a_meant (mn_mt k T (mn_nm c st en) (it_cn k (T + 1))) T → ed_ab a_knowns (fun j => (mn_kv k T (mn_nm c st en) (fun t => mn_nv c (en t - st t) (st t) 0) (it_cn k (T + 1)) j).1) (it_cn k (T + 1)) → ed_av a_values (fun j => (mn_kv k T (mn_nm c st en) (fun t => mn_nv c (en t - st t) (st t) 0) (it_cn k (T + 1)) j).2) (it_cn k (T + 1)) → post (f_length, f_tokenCount, nI (it_cn k (T + 1)), f_blockCount, f_looseCount, f_numberCount, f_operatorCount, a_text, a_kinds, a_starts, a_ends, a_owners, a_meant, a_firsts, a_lasts, a_sorts, a_blocks, a_knowns, a_values, a_around, a_depths, a_compared, a_numbers, a_operators)) :
    ∀ d i, i + d = it_cn k (T + 1) → ∀ fu, d < fu → ∀ (f_numberCount f_operatorCount : Int32) (a_meant a_knowns a_values a_numbers a_operators : Nat → Int32), ed_ao a_meant (mn_mt k T (mn_nm c st en) i) T → ed_ab a_knowns (fun j => (mn_kv k T (mn_nm c st en) (fun t => mn_nv c (en t - st t) (st t) 0) i j).1) i → ed_av a_values (fun j => (mn_kv k T (mn_nm c st en) (fun t => mn_nv c (en t - st t) (st t) 0) i j).2) i →
      (wY_read_10 post fu (nI i) f_length f_tokenCount (nI (it_cn k (T + 1))) f_blockCount f_looseCount f_numberCount f_operatorCount a_text a_kinds a_starts a_ends a_owners a_meant a_firsts a_lasts a_sorts a_blocks a_knowns a_values a_around a_depths a_compared a_numbers a_operators) := by
  have hN := it_N hp.2.2.2.2.2.1
  have hT := hp.2.1
  intro d
  induction d with
  | zero =>
    intro i hi fu hfu NC OC ME KN VA NU OP g1 g2 g3
    obtain ⟨fu, rfl⟩ : ∃ g, fu = g + 1 := ⟨fu - 1, by omega⟩
    have e : i = it_cn k (T + 1) := by omega
    rw [e] at g1 g2 g3
    rw [e]
    exact br_t (nI_le (Nat.le_refl _) (by omega)) (hP NC OC ME KN VA NU OP g1 g2 g3)
  | succ d ih =>
    intro i hi fu hfu NC OC ME KN VA NU OP g1 g2 g3
    obtain ⟨fu, rfl⟩ : ∃ g, fu = g + 1 := ⟨fu - 1, by omega⟩
    refine br_f (nI_ge (by omega) (by omega)) ?_
    refine yw_work hp (by omega) g1 g2 g3 (fun NC OC ME KN VA NU OP m1 m2 m3 => ?_)
    exact nm_r (nI_1 i) (ih (i + 1) (by omega) fu (by omega) NC OC ME KN VA NU OP m1 m2 m3)
def yd_D (c : Nat → Nat) (n : Nat) (f_tokenCount f_itemCount f_looseCount : Int32) (a_kinds a_starts a_ends a_owners a_meant a_firsts a_sorts a_blocks a_knowns a_values a_around a_depths : Nat → Int32) : Prop :=
  f_tokenCount = nI (pq_T c n) ∧ f_itemCount = nI (pq_N c n) ∧ f_looseCount = nI (pq_L c n)
  ∧ ed_ag a_kinds (pq_K c n) (pq_T c n) ∧ ed_ag a_starts (pq_S c n) (pq_T c n) ∧ ed_ag a_ends (pq_E c n) (pq_T c n) ∧ ed_ao a_owners (it_ow (pq_K c n)) (pq_T c n) ∧ ed_ao a_meant (pq_M c n) (pq_T c n)
  ∧ ed_ag a_firsts (it_fi (pq_K c n) (pq_T c n + 1)) (pq_N c n) ∧ ed_ag a_sorts (mn_so (pq_K c n) (pq_T c n)) (pq_N c n)
  ∧ (∀ i, i < pq_N c n → a_blocks i = yc_h (it_ik (pq_K c n) (pq_T c n + 1) i)) ∧ (∀ i, i < pq_N c n → yc_I a_around a_depths (it_ik (pq_K c n) (pq_T c n + 1) i))
  ∧ ed_ab a_knowns (fun i => (pq_V c n i).1) (pq_N c n) ∧ ed_av a_values (fun i => (pq_V c n i).2) (pq_N c n)
theorem yr_read {post : SY → Prop} {c : Nat → Nat} {n : Nat} (hn : n ≤ 80) (hc : ∀ j, j < n → c j ≤ 18) (hX : ed_ag a_text c n)
    (hP : ∀ (f_tokenCount f_itemCount f_blockCount f_looseCount f_numberCount f_operatorCount : Int32) (a_kinds a_starts a_ends a_owners a_meant a_firsts a_lasts a_sorts a_blocks a_knowns a_values a_around a_depths a_compared a_numbers a_operators : Nat → Int32),
      yd_D c n f_tokenCount f_itemCount f_looseCount a_kinds a_starts a_ends a_owners a_meant a_firsts a_sorts a_blocks a_knowns a_values a_around a_depths → post (nI n, f_tokenCount, f_itemCount, f_blockCount, f_looseCount, f_numberCount, f_operatorCount, a_text, a_kinds, a_starts, a_ends, a_owners, a_meant, a_firsts, a_lasts, a_sorts, a_blocks, a_knowns, a_values, a_around, a_depths, a_compared, a_numbers, a_operators)) : wpY_read post (nI n, f_tokenCount, f_itemCount, f_blockCount, f_looseCount, f_numberCount, f_operatorCount, a_text, a_kinds, a_starts, a_ends, a_owners, a_meant, a_firsts, a_lasts, a_sorts, a_blocks, a_knowns, a_values, a_around, a_depths, a_compared, a_numbers, a_operators) := by
  obtain ⟨p1, p2, p3, p4⟩ := pq_f hn hc
  have hN : pq_N c n ≤ pq_T c n := it_N p4
  unfold wpY_read
  refine yt_read hn hc hX (fun KI ST EN OW ME g1 g2 g3 g4 g5 => ?_)
  have g1 := pq_k g1
  have hkk : ∀ t, t < pq_T c n + 1 → pq_K c n t < 100 := by
    intro t ht
    by_cases z : t = pq_T c n
    · rw [z, p4]; omega
    · have := p3 t (by omega); omega
  refine yi_read (k := pq_K c n) (T := pq_T c n) p1 g1 hkk p4 g4 (fun BC LC OW FI LA SO BL AR DE CO q1 q2 => ?_)
  obtain ⟨r1, r2, r3, r4, r5, r6, r7, r8, r9⟩ := q2
  have hp : yp_P c (pq_S c n) (pq_E c n) (pq_K c n) (pq_T c n) n a_text KI ST EN FI LA SO BL AR DE := ⟨hn, p1, p2, hc, p3, p4, hX, g1, g2, g3, r4, r5, r6, r7, r8⟩
  refine ⟨pq_N c n + 1, ?_⟩
  refine yr_items hp (fun NC OC ME KN VA NU OP m1 m2 m3 => ?_) (pq_N c n) 0 (Nat.zero_add _) _ (by omega) _ _ _ _ _ _ _ (fun t ht => g5 t ht) (fun j hj => absurd hj (Nat.not_lt_zero _)) (fun j hj => absurd hj (Nat.not_lt_zero _))
  exact hP _ _ _ _ _ _ _ _ _ _ _ _ _ _ _ _ _ _ _ _ _ _ ⟨rfl, rfl, rfl, g1, g2, g3, q1, m1, r4, r6, r7, r8, m2, m3⟩
end
