section
/-! X's whole reading of the text -/
variable {f_size f_tokenCount f_itemCount f_blockCount f_openCount f_looseCount : Int32} {a_text a_characterToken a_tokenKind a_tokenStart a_tokenEnd a_tokenItem a_tokenMeaning a_itemFirst a_itemEnd a_itemSort a_itemDepth a_itemBlock a_itemUses a_itemKnown a_itemValue a_blockEnd a_openBlocks a_levelCompares a_levelLeft a_levelSum a_levelProduct : Nat → Int32}
theorem xv_names {post : Int32 → Prop} {c st en k : Nat → Nat} {T n i : Nat} {f : Nat → Option Nat} {tb : Nat → Bool × Int32} (hp : xp_P c st en k T n a_text a_tokenKind a_tokenStart a_tokenEnd a_itemFirst a_itemEnd a_itemSort) (hi : i < it_cn k (T + 1))
    (hTM : ∀ t, mn_es k T i ≤ t → t < it_ie k (T + 1) i → k t = 0 → a_tokenMeaning t = ed_oI (f t)) (hf : ∀ t d, f t = some d → d < i) (hK : ∀ d, d < i → a_itemKnown d = ed_bI (tb d).1) :
    ∀ d t, t + d = it_ie k (T + 1) i → mn_es k T i ≤ t → ∀ fu, d < fu → post (ed_bI (mn_ak k f tb d t)) → (wX_namesAreKnown_6 post (nI i) f_size f_tokenCount f_itemCount f_blockCount f_openCount f_looseCount a_text a_characterToken a_tokenKind a_tokenStart a_tokenEnd a_tokenItem a_tokenMeaning a_itemFirst a_itemEnd a_itemSort a_itemDepth a_itemBlock a_itemUses a_itemKnown a_itemValue a_blockEnd a_openBlocks a_levelCompares a_levelLeft a_levelSum a_levelProduct fu (nI t)) := by
  obtain ⟨h1, h2, h3, h4, h5, h6, h7, h8, h9, h10, h11, h12, h13⟩ := hp
  have hN := it_N h6
  have hE := it_E hi
  have eie : a_itemEnd (nI i).toNatClampNeg = nI (it_ie k (T + 1) i) := ed_rt i (h12 i hi)
  intro d
  induction d with
  | zero =>
    intro t ht hge fu hfu hP
    obtain ⟨fu, rfl⟩ : ∃ g, fu = g + 1 := ⟨fu - 1, by omega⟩
    exact ⟨pk_in i 80 (by omega), pk_le (it_ie k (T + 1) i) t (fun _ => hP) (fun z => by omega) eie⟩
  | succ d ih =>
    intro t ht hge fu hfu hP
    obtain ⟨fu, rfl⟩ : ∃ g, fu = g + 1 := ⟨fu - 1, by omega⟩
    have ih := ih (t + 1) (by omega) (by omega) fu (by omega)
    have hkt := h5 t (by omega)
    have hak : mn_ak k f tb (d + 1) t = (mn_k1 k f tb t && mn_ak k f tb d (t + 1)) := rfl
    rw [hak] at hP
    refine ⟨pk_in i 80 (by omega), pk_le (it_ie k (T + 1) i) t (fun z => by omega) (fun _ => ⟨pk_in t 80 (by omega), pk_eq (k t) 0 (fun h0 => ?_) (fun h0 => ?_) (ed_rt t (h8 t (by omega)))⟩) eie⟩
    · refine ⟨pk_in t 80 (by omega), ed_rd t (hTM t hge (by omega) h0) ?_⟩
      have hk1 : mn_k1 k f tb t = (match f t with | none => false | some d => (tb d).1) := by unfold mn_k1; rw [if_pos h0]; rfl
      cases hft : f t with
      | none =>
        rw [hft] at hk1
        rw [hk1] at hP
        exact br_t rfl hP
      | some x =>
        have hx := hf t x hft
        rw [hft] at hk1
        rw [hk1] at hP
        dsimp only at hP
        have ekn : a_itemKnown (nI x).toNatClampNeg = ed_bI (tb x).1 := ed_rt x (hK x hx)
        refine br_f (ed_m3 (show x < 2 ^ 31 by omega)) ⟨pk_in x 80 (by omega), ?_⟩
        cases hb : (tb x).1 with
        | false =>
          rw [hb] at hP ekn
          exact br_t ekn hP
        | true =>
          rw [hb, Bool.true_and] at hP
          rw [hb] at ekn
          exact br_f (by show ¬ a_itemKnown (nI x).toNatClampNeg = 0; rw [ekn]; decide) (nm_r (nI_1 t) (ih hP))
    · have hk1 : mn_k1 k f tb t = true := by unfold mn_k1; rw [if_neg h0]
      rw [hk1, Bool.true_and] at hP
      exact nm_r (nI_1 t) (ih hP)
theorem xv_known {post : Int32 → Prop} {c st en k : Nat → Nat} {T n i : Nat} {f : Nat → Option Nat} {tb : Nat → Bool × Int32} (hp : xp_P c st en k T n a_text a_tokenKind a_tokenStart a_tokenEnd a_itemFirst a_itemEnd a_itemSort) (hi : i < it_cn k (T + 1)) (hso : mn_so k T i ≠ 0)
    (hTM : ∀ t, mn_es k T i ≤ t → t < it_ie k (T + 1) i → k t = 0 → a_tokenMeaning t = ed_oI (f t)) (hf : ∀ t d, f t = some d → d < i) (hK : ∀ d, d < i → a_itemKnown d = ed_bI (tb d).1)
    (hP : post (ed_bI (mn_ak k f tb (it_ie k (T + 1) i - mn_es k T i) (mn_es k T i)))) : wpX_namesAreKnown post (f_size, f_tokenCount, f_itemCount, f_blockCount, f_openCount, f_looseCount, a_text, a_characterToken, a_tokenKind, a_tokenStart, a_tokenEnd, a_tokenItem, a_tokenMeaning, a_itemFirst, a_itemEnd, a_itemSort, a_itemDepth, a_itemBlock, a_itemUses, a_itemKnown, a_itemValue, a_blockEnd, a_openBlocks, a_levelCompares, a_levelLeft, a_levelSum, a_levelProduct) (nI i) := by
  have hp2 := hp
  obtain ⟨h1, h2, h3, h4, h5, h6, h7, h8, h9, h10, h11, h12, h13⟩ := hp
  have hN := it_N h6
  have hle : mn_es k T i ≤ it_ie k (T + 1) i := (ex_so_ex (it_E hi).1 hso).2
  unfold wpX_namesAreKnown
  refine xm_start (by omega) (h13 i hi) (ex_so_le _ _ _) (h11 i hi) ⟨it_ie k (T + 1) i - mn_es k T i + 1, ?_⟩
  exact xv_names hp2 hi hTM hf hK (it_ie k (T + 1) i - mn_es k T i) (mn_es k T i) (by omega) (Nat.le_refl _) _ (by omega) hP
theorem xv_value {post : Int32 → SX → Prop} {c st en k : Nat → Nat} {T n i : Nat} {f : Nat → Option Nat} {tb : Nat → Bool × Int32} (hp : xp_P c st en k T n a_text a_tokenKind a_tokenStart a_tokenEnd a_itemFirst a_itemEnd a_itemSort) (hi : i < it_cn k (T + 1)) (hso : mn_so k T i ≠ 0)
    (hTM : ∀ t, mn_es k T i ≤ t → t < it_ie k (T + 1) i → k t = 0 → a_tokenMeaning t = ed_oI (f t)) (hf : ∀ t d, f t = some d → d < i) (hV : ∀ d, d < i → a_itemValue d = (tb d).2)
    (hP : ∀ a_levelCompares a_levelLeft a_levelSum a_levelProduct : Nat → Int32, post (ev_r k (mn_tv k (fun t => mn_nv c (en t - st t) (st t) 0) f tb) (it_ie k (T + 1) i - mn_es k T i) (mn_es k T i) [(none, none, none)] none) (f_size, f_tokenCount, nI (it_cn k (T + 1)), f_blockCount, f_openCount, f_looseCount, a_text, a_characterToken, a_tokenKind, a_tokenStart, a_tokenEnd, a_tokenItem, a_tokenMeaning, a_itemFirst, a_itemEnd, a_itemSort, a_itemDepth, a_itemBlock, a_itemUses, a_itemKnown, a_itemValue, a_blockEnd, a_openBlocks, a_levelCompares, a_levelLeft, a_levelSum, a_levelProduct)) :
    wpX_expressionValue post (f_size, f_tokenCount, nI (it_cn k (T + 1)), f_blockCount, f_openCount, f_looseCount, a_text, a_characterToken, a_tokenKind, a_tokenStart, a_tokenEnd, a_tokenItem, a_tokenMeaning, a_itemFirst, a_itemEnd, a_itemSort, a_itemDepth, a_itemBlock, a_itemUses, a_itemKnown, a_itemValue, a_blockEnd, a_openBlocks, a_levelCompares, a_levelLeft, a_levelSum, a_levelProduct) (nI i) := by
  have hp2 := hp
  obtain ⟨h1, h2, h3, h4, h5, h6, h7, h8, h9, h10, h11, h12, h13⟩ := hp
  have hN := it_N h6
  obtain ⟨hex, hle⟩ := ex_so_ex (it_E hi).1 hso
  have hle : mn_es k T i ≤ it_ie k (T + 1) i := hle
  unfold wpX_expressionValue
  refine ⟨pk_in 0 81 (by omega), ed_nuv 0 0 ed_nb0 ⟨pk_in 0 81 (by omega), ed_nu 0 ⟨pk_in 0 81 (by omega), ed_nu 0 ?_⟩⟩⟩
  refine xm_start (by omega) (h13 i hi) (ex_so_le _ _ _) (h11 i hi) ⟨it_ie k (T + 1) i - mn_es k T i + 1, ?_⟩
  exact xv_loop hp2 hi hTM hf hV (it_ie k (T + 1) i - mn_es k T i) (mn_es k T i) (by omega) (Nat.le_refl _) _ (by omega) (none, none, none) [] none _ _ _ _ (Nat.zero_le _) hex ⟨pk_us, (fun x hx => by cases hx), pk_us, pk_us, trivial⟩ hP
theorem xv_items {post : SX → Prop} {c st en k : Nat → Nat} {T n : Nat} (hp : xp_P c st en k T n a_text a_tokenKind a_tokenStart a_tokenEnd a_itemFirst a_itemEnd a_itemSort) (hM : ed_ao a_tokenMeaning (mn_mt k T (mn_nm c st en) (it_cn k (T + 1))) T)
    (hP : ∀ a_itemKnown a_itemValue a_levelCompares a_levelLeft a_levelSum a_levelProduct : Nat → Int32, ed_ab a_itemKnown (fun j => (mn_kv k T (mn_nm c st en) (fun t => mn_nv c (en t - st t) (st t) 0) (it_cn k (T + 1)) j).1) (it_cn k (T + 1)) → ed_av a_itemValue (fun j => (mn_kv k T (mn_nm c st en) (fun t => mn_nv c (en t - st t) (st t) 0) (it_cn k (T + 1)) j).2) (it_cn k (T + 1)) → post (f_size, f_tokenCount, nI (it_cn k (T + 1)), f_blockCount, f_openCount, f_looseCount, a_text, a_characterToken, a_tokenKind, a_tokenStart, a_tokenEnd, a_tokenItem, a_tokenMeaning, a_itemFirst, a_itemEnd, a_itemSort, a_itemDepth, a_itemBlock, a_itemUses, a_itemKnown, a_itemValue, a_blockEnd, a_openBlocks, a_levelCompares, a_levelLeft, a_levelSum, a_levelProduct)) :
    ∀ d i, i + d = it_cn k (T + 1) → ∀ fu, d < fu → ∀ a_itemKnown a_itemValue a_levelCompares a_levelLeft a_levelSum a_levelProduct : Nat → Int32, ed_ab a_itemKnown (fun j => (mn_kv k T (mn_nm c st en) (fun t => mn_nv c (en t - st t) (st t) 0) i j).1) i → ed_av a_itemValue (fun j => (mn_kv k T (mn_nm c st en) (fun t => mn_nv c (en t - st t) (st t) 0) i j).2) i →
      (wX_findValues_2 post fu (nI i) f_size f_tokenCount (nI (it_cn k (T + 1))) f_blockCount f_openCount f_looseCount a_text a_characterToken a_tokenKind a_tokenStart a_tokenEnd a_tokenItem a_tokenMeaning a_itemFirst a_itemEnd a_itemSort a_itemDepth a_itemBlock a_itemUses a_itemKnown a_itemValue a_blockEnd a_openBlocks a_levelCompares a_levelLeft a_levelSum a_levelProduct) := by
  have hN := it_N hp.2.2.2.2.2.1
  have hT := hp.2.1
  intro d
  induction d with
  | zero =>
    intro i hi fu hfu KN VA CM LF SM PR g1 g2
    obtain ⟨fu, rfl⟩ : ∃ g, fu = g + 1 := ⟨fu - 1, by omega⟩
    have e : i = it_cn k (T + 1) := by omega
    rw [e] at g1 g2
    rw [e]
    exact br_t (nI_le (Nat.le_refl _) (by omega)) (hP KN VA CM LF SM PR g1 g2)
  | succ d ih =>
    intro i hi fu hfu KN VA CM LF SM PR g1 g2
    obtain ⟨fu, rfl⟩ : ∃ g, fu = g + 1 := ⟨fu - 1, by omega⟩
    have ih := ih (i + 1) (by omega) fu (by omega)
    have hs2 : mn_so k T i ≤ 2 := ex_so_le _ _ _
    have hiN : i < it_cn k (T + 1) := by omega
    have hkv : mn_kv k T (mn_nm c st en) (fun t => mn_nv c (en t - st t) (st t) 0) (i + 1) = ed_fu (mn_kv k T (mn_nm c st en) (fun t => mn_nv c (en t - st t) (st t) 0) i) i (mn_iv k T (mn_nm c st en) (fun t => mn_nv c (en t - st t) (st t) 0) (mn_kv k T (mn_nm c st en) (fun t => mn_nv c (en t - st t) (st t) 0) i) i) := rfl
    have hn1 : ∀ b : Bool, (mn_iv k T (mn_nm c st en) (fun t => mn_nv c (en t - st t) (st t) 0) (mn_kv k T (mn_nm c st en) (fun t => mn_nv c (en t - st t) (st t) 0) i) i).1 = b → ed_ab (upd KN i (ed_bI b)) (fun j => (mn_kv k T (mn_nm c st en) (fun t => mn_nv c (en t - st t) (st t) 0) (i + 1) j).1) (i + 1) := by
      intro b hb j hj
      dsimp only
      rw [hkv]
      by_cases z : j = i
      · subst z; rw [pk_us, ed_fs, hb]
      · rw [pk_un z, ed_fn z]; exact g1 j (by omega)
    have hn2 : ∀ x : Int32, (mn_iv k T (mn_nm c st en) (fun t => mn_nv c (en t - st t) (st t) 0) (mn_kv k T (mn_nm c st en) (fun t => mn_nv c (en t - st t) (st t) 0) i) i).2 = x → ed_av (upd VA i x) (fun j => (mn_kv k T (mn_nm c st en) (fun t => mn_nv c (en t - st t) (st t) 0) (i + 1) j).2) (i + 1) := by
      intro b hb j hj
      dsimp only
      rw [hkv]
      by_cases z : j = i
      · subst z; rw [pk_us, ed_fs, hb]
      · rw [pk_un z, ed_fn z]; exact g2 j (by omega)
    have h36 : mn_iv k T (mn_nm c st en) (fun t => mn_nv c (en t - st t) (st t) 0) (mn_kv k T (mn_nm c st en) (fun t => mn_nv c (en t - st t) (st t) 0) i) i = (false, 0) → (wX_findValues_36 post (wX_findValues_2 post fu) (nI i) (nI i) f_size f_tokenCount (nI (it_cn k (T + 1))) f_blockCount f_openCount f_looseCount a_text a_characterToken a_tokenKind a_tokenStart a_tokenEnd a_tokenItem a_tokenMeaning a_itemFirst a_itemEnd a_itemSort a_itemDepth a_itemBlock a_itemUses KN VA a_blockEnd a_openBlocks CM LF SM PR) := by
      intro hiv
      refine ⟨pk_in i 80 (by omega), ed_nuv i (ed_bI false) ed_nb0 ⟨pk_in i 80 (by omega), br_t (ed_rt i pk_us) ⟨pk_in i 80 (by omega), ed_nu i (nm_r (nI_1 i) ?_)⟩⟩⟩
      exact ih _ _ CM LF SM PR (hn1 false (by rw [hiv])) (hn2 0 (by rw [hiv]))
    have hTM : mn_so k T i ≠ 0 → ∀ t, mn_es k T i ≤ t → t < it_ie k (T + 1) i → k t = 0 → a_tokenMeaning t = ed_oI (mn_sr k T (mn_nm c st en) i t i) := by
      intro hso t q1 q2 q3
      have := (it_E hiN).2
      rw [hM t (by omega), mn_mt_in hso q1 q2 q3 hiN (Nat.le_refl _)]
    refine br_f (nI_ge (by omega) (by omega)) ⟨pk_in i 80 (by omega), pk_eq (mn_so k T i) 0 (fun h0 => ?_) (fun h0 => ?_) (ed_rt i (hp.2.2.2.2.2.2.2.2.2.2.2.2 i hiN))⟩
    · refine h36 ?_
      unfold mn_iv; rw [if_neg (fun z => z.1 h0)]
    · refine xv_known (f := fun t => mn_sr k T (mn_nm c st en) i t i) (tb := mn_kv k T (mn_nm c st en) (fun t => mn_nv c (en t - st t) (st t) 0) i) hp hiN h0 (hTM h0) (fun t d hd => mn_sr_lt hd) g1 ?_
      cases hak : mn_ak k (fun t => mn_sr k T (mn_nm c st en) i t i) (mn_kv k T (mn_nm c st en) (fun t => mn_nv c (en t - st t) (st t) 0) i) (it_ie k (T + 1) i - mn_es k T i) (mn_es k T i) with
      | false =>
        refine br_t rfl (h36 ?_)
        unfold mn_iv; rw [if_neg (fun z => by rw [hak] at z; exact absurd z.2 (by decide))]
      | true =>
        have hiv : mn_iv k T (mn_nm c st en) (fun t => mn_nv c (en t - st t) (st t) 0) (mn_kv k T (mn_nm c st en) (fun t => mn_nv c (en t - st t) (st t) 0) i) i = (true, ev_r k (mn_tv k (fun t => mn_nv c (en t - st t) (st t) 0) (fun t => mn_sr k T (mn_nm c st en) i t i) (mn_kv k T (mn_nm c st en) (fun t => mn_nv c (en t - st t) (st t) 0) i)) (it_ie k (T + 1) i - mn_es k T i) (mn_es k T i) [(none, none, none)] none) := by
          unfold mn_iv; rw [if_pos ⟨h0, hak⟩]
        refine br_f (by decide) ⟨pk_in i 80 (by omega), ed_nuv i (ed_bI true) ed_nb1 ⟨pk_in i 80 (by omega), br_f (by rw [ed_rt (w := ed_bI true) i pk_us]; decide) ?_⟩⟩
        refine xv_value (f := fun t => mn_sr k T (mn_nm c st en) i t i) (tb := mn_kv k T (mn_nm c st en) (fun t => mn_nv c (en t - st t) (st t) 0) i) hp hiN h0 (hTM h0) (fun t d hd => mn_sr_lt hd) g2 (fun CM LF SM PR => ?_)
        refine ⟨pk_in i 80 (by omega), ed_nu i (nm_r (nI_1 i) (ih _ _ CM LF SM PR (hn1 true (by rw [hiv])) (hn2 _ (by rw [hiv]))))⟩
def pq_T (c : Nat → Nat) (n : Nat) : Nat := (tk_r c n).1
def pq_K (c : Nat → Nat) (n : Nat) : Nat → Nat := fun t => if t < pq_T c n then (tk_r c n).2.1 t else 11
def pq_S (c : Nat → Nat) (n : Nat) : Nat → Nat := (tk_r c n).2.2.1
def pq_E (c : Nat → Nat) (n : Nat) : Nat → Nat := (tk_r c n).2.2.2.1
def pq_A (c : Nat → Nat) (n : Nat) : Nat → Option Nat := (tk_r c n).2.2.2.2
def pq_N (c : Nat → Nat) (n : Nat) : Nat := it_cn (pq_K c n) (pq_T c n + 1)
def pq_M (c : Nat → Nat) (n : Nat) : Nat → Option Nat := mn_mt (pq_K c n) (pq_T c n) (mn_nm c (pq_S c n) (pq_E c n)) (pq_N c n)
def pq_V (c : Nat → Nat) (n : Nat) : Nat → Bool × Int32 := mn_kv (pq_K c n) (pq_T c n) (mn_nm c (pq_S c n) (pq_E c n)) (fun t => mn_nv c (pq_E c n t - pq_S c n t) (pq_S c n t) 0) (pq_N c n)
def pq_L (c : Nat → Nat) (n : Nat) : Nat := it_lo (pq_K c n) (pq_T c n + 1) + (it_bs (pq_K c n) (pq_T c n + 1)).length
def xd_D (c : Nat → Nat) (n : Nat) (f_tokenCount f_itemCount f_looseCount : Int32) (a_characterToken a_tokenKind a_tokenStart a_tokenItem a_tokenMeaning a_itemFirst a_itemSort a_itemDepth a_itemUses a_itemKnown a_itemValue : Nat → Int32) : Prop :=
  f_tokenCount = nI (pq_T c n) ∧ f_itemCount = nI (pq_N c n) ∧ f_looseCount = nI (pq_L c n)
  ∧ ed_ao a_characterToken (pq_A c n) n ∧ ed_ag a_tokenKind (pq_K c n) (pq_T c n) ∧ ed_ag a_tokenStart (pq_S c n) (pq_T c n) ∧ ed_ao a_tokenItem (it_ow (pq_K c n)) (pq_T c n) ∧ ed_ao a_tokenMeaning (pq_M c n) (pq_T c n)
  ∧ ed_ag a_itemFirst (it_fi (pq_K c n) (pq_T c n + 1)) (pq_N c n) ∧ ed_ag a_itemSort (mn_so (pq_K c n) (pq_T c n)) (pq_N c n) ∧ ed_ag a_itemDepth (fun i => (it_ik (pq_K c n) (pq_T c n + 1) i).length) (pq_N c n)
  ∧ ed_ag a_itemUses (fun d => mn_ct (pq_M c n) d (pq_T c n)) (pq_N c n) ∧ ed_ab a_itemKnown (fun i => (pq_V c n i).1) (pq_N c n) ∧ ed_av a_itemValue (fun i => (pq_V c n i).2) (pq_N c n)
theorem pq_f {c : Nat → Nat} {n : Nat} (hn : n ≤ 80) (hc : ∀ j, j < n → c j ≤ 18) : pq_T c n ≤ 80 ∧ (∀ q, q < pq_T c n → pq_S c n q < pq_E c n q ∧ pq_E c n q ≤ n) ∧ (∀ t, t < pq_T c n → pq_K c n t ≤ 10) ∧ pq_K c n (pq_T c n) = 11 := by
  obtain ⟨i1, i2, i3, i4, i5, i6, i7⟩ := tk_Ir hc n (Nat.le_refl _)
  refine ⟨Nat.le_trans i1 hn, i4, fun t ht => ?_, ?_⟩
  · unfold pq_K; rw [if_pos ht]; exact i6 t ht
  · unfold pq_K; rw [if_neg (Nat.lt_irrefl _)]
theorem pq_k {a : Nat → Int32} {c : Nat → Nat} {n : Nat} (h : ed_ag a (tk_r c n).2.1 (tk_r c n).1) : ed_ag a (pq_K c n) (pq_T c n) := by
  intro j hj
  unfold pq_K; rw [if_pos hj]; exact h j hj
theorem xr_read {post : SX → Prop} {c : Nat → Nat} {n : Nat} (hn : n ≤ 80) (hc : ∀ j, j < n → c j ≤ 18) (hX : ed_ag a_text c n)
    (hP : ∀ (f_tokenCount f_itemCount f_blockCount f_openCount f_looseCount : Int32) (a_characterToken a_tokenKind a_tokenStart a_tokenEnd a_tokenItem a_tokenMeaning a_itemFirst a_itemEnd a_itemSort a_itemDepth a_itemBlock a_itemUses a_itemKnown a_itemValue a_blockEnd a_openBlocks a_levelCompares a_levelLeft a_levelSum a_levelProduct : Nat → Int32),
      xd_D c n f_tokenCount f_itemCount f_looseCount a_characterToken a_tokenKind a_tokenStart a_tokenItem a_tokenMeaning a_itemFirst a_itemSort a_itemDepth a_itemUses a_itemKnown a_itemValue → post (nI n, f_tokenCount, f_itemCount, f_blockCount, f_openCount, f_looseCount, a_text, a_characterToken, a_tokenKind, a_tokenStart, a_tokenEnd, a_tokenItem, a_tokenMeaning, a_itemFirst, a_itemEnd, a_itemSort, a_itemDepth, a_itemBlock, a_itemUses, a_itemKnown, a_itemValue, a_blockEnd, a_openBlocks, a_levelCompares, a_levelLeft, a_levelSum, a_levelProduct)) : wpX_readText post (nI n, f_tokenCount, f_itemCount, f_blockCount, f_openCount, f_looseCount, a_text, a_characterToken, a_tokenKind, a_tokenStart, a_tokenEnd, a_tokenItem, a_tokenMeaning, a_itemFirst, a_itemEnd, a_itemSort, a_itemDepth, a_itemBlock, a_itemUses, a_itemKnown, a_itemValue, a_blockEnd, a_openBlocks, a_levelCompares, a_levelLeft, a_levelSum, a_levelProduct) := by
  obtain ⟨p1, p2, p3, p4⟩ := pq_f hn hc
  have hN : pq_N c n ≤ pq_T c n := it_N p4
  unfold wpX_readText
  refine xt_read hn hc hX (fun CT TK TS TE g1 g2 g3 g4 => ?_)
  have g2 := pq_k g2
  refine xi_read (k := pq_K c n) (T := pq_T c n) p1 g2 p3 p4 (fun BC OC TI IF IE ID IB BE OB q1 q2 q3 q4 q5 q6 => ?_)
  refine ⟨pq_N c n + 1, ?_⟩
  refine xe_sorts (k := pq_K c n) (T := pq_T c n) (N := pq_N c n) p1 (by omega) g2 (fun t ht => by have := p3 t ht; omega) p4 q2 q3 (fun i hi => it_E hi) (fun IS LC s1 => ?_) (pq_N c n) 0 (by omega) _ (by omega) _ _ (fun j hj => absurd hj (Nat.not_lt_zero _))
  have hp : xp_P c (pq_S c n) (pq_E c n) (pq_K c n) (pq_T c n) n a_text TK TS TE IF IE IS := ⟨hn, p1, p2, hc, p3, p4, hX, g2, g3, g4, q2, q3, s1⟩
  refine xm_find hp ⟨q5, q6⟩ (fun TM US m1 m2 => ?_)
  refine ⟨pq_N c n + 1, ?_⟩
  refine xv_items hp m1 (fun KN VA CM LF SM PR v1 v2 => ?_) (pq_N c n) 0 (Nat.zero_add _) _ (by omega) _ _ _ _ _ _ (fun j hj => absurd hj (Nat.not_lt_zero _)) (fun j hj => absurd hj (Nat.not_lt_zero _))
  exact hP _ _ _ _ _ _ _ _ _ _ _ _ _ _ _ _ _ _ _ _ _ _ _ _ _ ⟨rfl, rfl, rfl, g1, g2, g3, q1, m1, q2, s1, q4, m2, v1, v2⟩
end
