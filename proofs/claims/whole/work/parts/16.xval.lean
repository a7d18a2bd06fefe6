section
/-! X finds the values -/
theorem ex_iw {k : Nat → Nat} {d t : Nat} {cs : List Bool} (h : ex_r k (d + 1) t true cs = true) : k t = 6 ∨ k t ≤ 1 := by
  by_cases h6 : k t = 6
  · exact Or.inl h6
  · by_cases h1 : k t ≤ 1
    · exact Or.inr h1
    · rw [ex_wn h1 h6] at h; cases h
theorem ex_if {k : Nat → Nat} {d t : Nat} {b : Bool} {r : List Bool} (h : ex_r k (d + 1) t false (b :: r) = true) : (k t = 7 ∧ r ≠ []) ∨ k t = 4 ∨ k t = 5 ∨ (k t = 3 ∧ b = false) := by
  by_cases h7 : k t = 7
  · cases r with
    | nil => rw [ex_f7n h7] at h; cases h
    | cons a r => exact Or.inl ⟨h7, by intro z; cases z⟩
  · by_cases h4 : k t = 4
    · exact Or.inr (Or.inl h4)
    · by_cases h5 : k t = 5
      · exact Or.inr (Or.inr (Or.inl h5))
      · by_cases h3 : k t = 3
        · cases b with
          | true => rw [ex_f3n h3] at h; cases h
          | false => exact Or.inr (Or.inr (Or.inr ⟨h3, rfl⟩))
        · rw [ex_fn h7 h4 h5 h3] at h; cases h
theorem ex_i0 {k : Nat → Nat} {t : Nat} {w : Bool} {cs : List Bool} (h : ex_r k 0 t w cs = true) : w = false ∧ cs.length = 1 := by
  cases w with
  | true => cases h
  | false =>
    have h2 : (true && (cs.length == 1)) = true := h
    rw [Bool.true_and] at h2
    exact ⟨rfl, eq_of_beq h2⟩
def ev_Xo (cm lf sm pr : Nat → Int32) (L : ev_L) (r : List ev_L) (o : Option Int32) : Prop :=
  cm r.length = ed_bI L.1.isSome ∧ (∀ x, L.1 = some x → lf r.length = x) ∧ sm r.length = L.2.1.getD 0 ∧ pr r.length = (match o with | none => L.2.2.getD 1 | some v => ev_p L v) ∧ ev_X cm lf sm pr r
def xv_o (o : Option Nat) (vl : Nat → Int32) : Int32 := match o with | none => 0 | some d => vl d
variable {f_size f_tokenCount f_itemCount f_blockCount f_openCount f_looseCount : Int32} {a_text a_characterToken a_tokenKind a_tokenStart a_tokenEnd a_tokenItem a_tokenMeaning a_itemFirst a_itemEnd a_itemSort a_itemDepth a_itemBlock a_itemUses a_itemKnown a_itemValue a_blockEnd a_openBlocks a_levelCompares a_levelLeft a_levelSum a_levelProduct : Nat → Int32}
theorem xv_num {post : Int32 → Prop} {c en : Nat → Nat} {T n t : Nat} (hn : n ≤ 80) (hT : T ≤ 80) (hE : ed_ag a_tokenEnd en T) (hX : ed_ag a_text c n) (ht : t < T) (hen : en t ≤ n) :
    ∀ d p v, p + d = en t → post (mn_nv c d p v) → ∀ f, d < f → (wX_numberValue_9 post (nI t) f_size f_tokenCount f_itemCount f_blockCount f_openCount f_looseCount a_text a_characterToken a_tokenKind a_tokenStart a_tokenEnd a_tokenItem a_tokenMeaning a_itemFirst a_itemEnd a_itemSort a_itemDepth a_itemBlock a_itemUses a_itemKnown a_itemValue a_blockEnd a_openBlocks a_levelCompares a_levelLeft a_levelSum a_levelProduct f v (nI p)) := by
  have ee : a_tokenEnd (nI t).toNatClampNeg = nI (en t) := ed_rt t (hE t ht)
  intro d
  induction d with
  | zero =>
    intro p v hp h f hf
    obtain ⟨f, rfl⟩ : ∃ g, f = g + 1 := ⟨f - 1, by omega⟩
    exact ⟨pk_in t 80 (by omega), pk_le (en t) p (fun _ => h) (fun z => by omega) ee⟩
  | succ d ih =>
    intro p v hp h f hf
    obtain ⟨f, rfl⟩ : ∃ g, f = g + 1 := ⟨f - 1, by omega⟩
    refine ⟨pk_in t 80 (by omega), pk_le (en t) p (fun z => by omega) (fun _ => ⟨pk_in p 80 (by omega), nm_r (e' := v * 10 + (nI (c p) - 5)) ?_ (nm_r (nI_1 p) (ih (p + 1) _ (by omega) h f (by omega)))⟩) ee⟩
    rw [ed_rt p (hX p (by omega))]
theorem xv_number {post : Int32 → Prop} {c st en : Nat → Nat} {T n t : Nat} (hn : n ≤ 80) (hT : T ≤ 80) (hS : ed_ag a_tokenStart st T) (hE : ed_ag a_tokenEnd en T) (hX : ed_ag a_text c n) (ht : t < T) (hse : st t < en t ∧ en t ≤ n)
    (h : post (mn_nv c (en t - st t) (st t) 0)) : wpX_numberValue post (f_size, f_tokenCount, f_itemCount, f_blockCount, f_openCount, f_looseCount, a_text, a_characterToken, a_tokenKind, a_tokenStart, a_tokenEnd, a_tokenItem, a_tokenMeaning, a_itemFirst, a_itemEnd, a_itemSort, a_itemDepth, a_itemBlock, a_itemUses, a_itemKnown, a_itemValue, a_blockEnd, a_openBlocks, a_levelCompares, a_levelLeft, a_levelSum, a_levelProduct) (nI t) :=
  ⟨pk_in t 80 (by omega), ed_rd t (hS t ht) ⟨en t - st t + 1, xv_num hn hT hE hX ht hse.2 (en t - st t) (st t) 0 (by omega) h _ (by omega)⟩⟩
theorem xv_isItem {post : Int32 → Prop} {N i : Nat} (hN : N ≤ 80) (hi : i < 1000) (h1 : i < N → post 1) (h0 : ¬ i < N → post 0) : wpX_isItem post (f_size, f_tokenCount, nI N, f_blockCount, f_openCount, f_looseCount, a_text, a_characterToken, a_tokenKind, a_tokenStart, a_tokenEnd, a_tokenItem, a_tokenMeaning, a_itemFirst, a_itemEnd, a_itemSort, a_itemDepth, a_itemBlock, a_itemUses, a_itemKnown, a_itemValue, a_blockEnd, a_openBlocks, a_levelCompares, a_levelLeft, a_levelSum, a_levelProduct) (nI i) :=
  br_f (nI_pos (by omega)) (pk_le N i (fun h => h0 (by omega)) (fun h => h1 h))
theorem xv_meant {post : Int32 → Prop} {N t : Nat} {o : Option Nat} {vl : Nat → Int32} (hN : N ≤ 80) (ht : t < 80) (hTM : a_tokenMeaning t = ed_oI o) (ho : ∀ d, o = some d → d < N) (hv : ∀ d, o = some d → a_itemValue d = vl d)
    (h : post (xv_o o vl)) : wpX_meantValue post (f_size, f_tokenCount, nI N, f_blockCount, f_openCount, f_looseCount, a_text, a_characterToken, a_tokenKind, a_tokenStart, a_tokenEnd, a_tokenItem, a_tokenMeaning, a_itemFirst, a_itemEnd, a_itemSort, a_itemDepth, a_itemBlock, a_itemUses, a_itemKnown, a_itemValue, a_blockEnd, a_openBlocks, a_levelCompares, a_levelLeft, a_levelSum, a_levelProduct) (nI t) := by
  refine ⟨pk_in t 80 ht, ed_rd t hTM ?_⟩
  cases o with
  | none => exact br_t (by decide) (br_t rfl h)
  | some d =>
    have hd := ho d rfl
    refine xv_isItem hN (by omega) (fun _ => br_f (by decide) ⟨pk_in d 80 (by omega), ?_⟩) (fun z => absurd hd z)
    rw [ed_rt (x := ed_oI (some d)) d (hv d rfl)]
    exact h
theorem xv_level {post : Int32 → Prop} {L : ev_L} {r : List ev_L} {v : Int32} (hr : r.length < 81) (hA : ev_Xo a_levelCompares a_levelLeft a_levelSum a_levelProduct L r (some v)) (h : post (ev_v L v)) : wpX_levelValue post (f_size, f_tokenCount, f_itemCount, f_blockCount, f_openCount, f_looseCount, a_text, a_characterToken, a_tokenKind, a_tokenStart, a_tokenEnd, a_tokenItem, a_tokenMeaning, a_itemFirst, a_itemEnd, a_itemSort, a_itemDepth, a_itemBlock, a_itemUses, a_itemKnown, a_itemValue, a_blockEnd, a_openBlocks, a_levelCompares, a_levelLeft, a_levelSum, a_levelProduct) (nI r.length) := by
  obtain ⟨a1, a2, a3, a4, a5⟩ := hA
  have e1 : a_levelSum (nI r.length).toNatClampNeg + a_levelProduct (nI r.length).toNatClampNeg = ev_s L v := by
    rw [ed_rt r.length a3, ed_rt r.length a4]; exact ev_s_x L v
  refine ⟨pk_in r.length 81 hr, pk_in r.length 81 hr, nm_r e1 ⟨pk_in r.length 81 hr, ?_⟩⟩
  have e2 : a_levelCompares (nI r.length).toNatClampNeg = ed_bI L.1.isSome := ed_rt r.length a1
  unfold ev_v at h
  cases hL : L.1 with
  | none =>
    rw [hL] at e2 h
    exact br_t e2 h
  | some x =>
    rw [hL] at e2 h
    dsimp only at h
    have e3 : a_levelLeft (nI r.length).toNatClampNeg = x := ed_rt r.length (a2 x hL)
    refine br_f (by rw [e2]; exact (by decide : ¬ (1 : Int32) = 0)) ⟨pk_in r.length 81 hr, ?_⟩
    rw [e3]
    by_cases z : x = ev_s L v
    · rw [if_pos z] at h; exact br_t z h
    · rw [if_neg z] at h; exact br_f z h
theorem xv_loop {post : Int32 → SX → Prop} {c st en k : Nat → Nat} {T n i : Nat} {f : Nat → Option Nat} {tb : Nat → Bool × Int32} (hp : xp_P c st en k T n a_text a_tokenKind a_tokenStart a_tokenEnd a_itemFirst a_itemEnd a_itemSort) (hi : i < it_cn k (T + 1))
    (hTM : ∀ t, mn_es k T i ≤ t → t < it_ie k (T + 1) i → k t = 0 → a_tokenMeaning t = ed_oI (f t)) (hf : ∀ t d, f t = some d → d < i) (hV : ∀ d, d < i → a_itemValue d = (tb d).2) :
    ∀ d t, t + d = it_ie k (T + 1) i → mn_es k T i ≤ t → ∀ fu, d < fu → ∀ (L : ev_L) (r : List ev_L) (o : Option Int32) (a_levelCompares a_levelLeft a_levelSum a_levelProduct : Nat → Int32), r.length ≤ t → ex_r k d t o.isNone (ev_cs (L :: r)) = true → ev_Xo a_levelCompares a_levelLeft a_levelSum a_levelProduct L r o →
      (∀ a_levelCompares a_levelLeft a_levelSum a_levelProduct : Nat → Int32, post (ev_r k (mn_tv k (fun t => mn_nv c (en t - st t) (st t) 0) f tb) d t (L :: r) o) (f_size, f_tokenCount, nI (it_cn k (T + 1)), f_blockCount, f_openCount, f_looseCount, a_text, a_characterToken, a_tokenKind, a_tokenStart, a_tokenEnd, a_tokenItem, a_tokenMeaning, a_itemFirst, a_itemEnd, a_itemSort, a_itemDepth, a_itemBlock, a_itemUses, a_itemKnown, a_itemValue, a_blockEnd, a_openBlocks, a_levelCompares, a_levelLeft, a_levelSum, a_levelProduct)) →
      (wX_expressionValue_13 post (nI i) fu (nI r.length) (nI t) f_size f_tokenCount (nI (it_cn k (T + 1))) f_blockCount f_openCount f_looseCount a_text a_characterToken a_tokenKind a_tokenStart a_tokenEnd a_tokenItem a_tokenMeaning a_itemFirst a_itemEnd a_itemSort a_itemDepth a_itemBlock a_itemUses a_itemKnown a_itemValue a_blockEnd a_openBlocks a_levelCompares a_levelLeft a_levelSum a_levelProduct) := by
  obtain ⟨h1, h2, h3, h4, h5, h6, h7, h8, h9, h10, h11, h12, h13⟩ := hp
  have hN := it_N h6
  have hE := it_E hi
  have eie : a_itemEnd (nI i).toNatClampNeg = nI (it_ie k (T + 1) i) := ed_rt i (h12 i hi)
  intro d
  induction d with
  | zero =>
    intro t ht hge fu hfu L r o CM LF SM PR hr hex hA hP
    obtain ⟨fu, rfl⟩ : ∃ g, fu = g + 1 := ⟨fu - 1, by omega⟩
    obtain ⟨q1, q2⟩ := ex_i0 hex
    cases o with
    | none => cases q1
    | some v =>
      cases r with
      | cons M r => unfold ev_cs at q2; rw [List.length_map] at q2; cases q2
      | nil =>
        refine ⟨pk_in i 80 (by omega), pk_le (it_ie k (T + 1) i) t (fun _ => ?_) (fun z => by omega) eie⟩
        exact xv_level (r := []) (by decide) hA (hP CM LF SM PR)
  | succ d ih =>
    intro t ht hge fu hfu L r o CM LF SM PR hr hex hA hP
    obtain ⟨fu, rfl⟩ : ∃ g, fu = g + 1 := ⟨fu - 1, by omega⟩
    have ih := ih (t + 1) (by omega) (by omega) fu (by omega)
    have hkt := h5 t (by omega)
    have hr81 : r.length < 81 := by omega
    obtain ⟨a1, a2, a3, a4, a5⟩ := hA
    refine ⟨pk_in i 80 (by omega), pk_le (it_ie k (T + 1) i) t (fun z => by omega) (fun _ => ⟨pk_in t 80 (by omega), ed_rd t (h8 t (by omega)) ?_⟩) eie⟩
    refine br_f (nI_pos (by omega)) ?_
    cases o with
    | none =>
      have hw : ex_r k (d + 1) t true (ev_cs (L :: r)) = true := hex
      have hk := ex_iw hw
      refine pk_lt 7 (k t) (fun z => by omega) (fun _ => ?_)
      have hfac : ∀ x : Int32, k t ≤ 1 → x = mn_tv k (fun t => mn_nv c (en t - st t) (st t) 0) f tb t → (wX_expressionValue_13 post (nI i) fu (nI r.length) (nI (t + 1)) f_size f_tokenCount (nI (it_cn k (T + 1))) f_blockCount f_openCount f_looseCount a_text a_characterToken a_tokenKind a_tokenStart a_tokenEnd a_tokenItem a_tokenMeaning a_itemFirst a_itemEnd a_itemSort a_itemDepth a_itemBlock a_itemUses a_itemKnown a_itemValue a_blockEnd a_openBlocks CM LF SM (upd PR r.length (PR (nI r.length).toNatClampNeg * x))) := by
        intro x hk1 hx
        rw [ex_w1 hk1] at hw
        refine ih L r (some x) CM LF SM _ (by omega) hw ⟨a1, a2, a3, ?_, ?_⟩ ?_
        · rw [pk_us, ed_rt r.length a4]; exact ev_p_x L _
        · exact ev_X_u (Nat.le_refl _) (fun q hq => ⟨rfl, rfl, rfl, pk_un (by omega)⟩) a5
        · intro CM LF SM PR
          have := hP CM LF SM PR
          unfold ev_r at this
          rw [if_neg (by omega), ← hx] at this
          exact this
      refine pk_eq (k t) 0 (fun h0 => ⟨pk_in r.length 81 hr81, ?_⟩) (fun h0 => pk_eq (k t) 1 (fun h1' => ⟨pk_in r.length 81 hr81, ?_⟩) (fun h1' => ?_))
      · refine xv_meant (o := f t) (vl := fun d => (tb d).2) (by omega) (by omega) (hTM t hge (by omega) h0) (fun x hx => by have := hf t x hx; omega) (fun x hx => hV x (hf t x hx)) ?_
        refine ⟨pk_in r.length 81 hr81, ed_nu r.length (nm_r (nI_1 t) (hfac _ (by omega) ?_))⟩
        unfold mn_tv; rw [if_neg (by omega)]; rfl
      · refine xv_number h1 h2 h9 h10 h7 (by omega) (h3 t (by omega)) ?_
        refine ⟨pk_in r.length 81 hr81, ed_nu r.length (nm_r (nI_1 t) (hfac _ (by omega) ?_))⟩
        unfold mn_tv; rw [if_pos h1']
      · have h6' : k t = 6 := by omega
        rw [ex_w6 h6'] at hw
        refine pk_eq (k t) 2 (fun z => by omega) (fun _ => pk_eq (k t) 3 (fun z => by omega) (fun _ => pk_eq (k t) 4 (fun z => by omega) (fun _ => pk_eq (k t) 5 (fun z => by omega) (fun _ => pk_eq (k t) 6 (fun _ => ?_) (fun z => absurd h6' z)))))
        refine nm_r (nI_1 _) ⟨pk_in (r.length + 1) 81 (by omega), ed_nuv (r.length + 1) 0 ed_nb0 ⟨pk_in (r.length + 1) 81 (by omega), ed_nu (r.length + 1) ⟨pk_in (r.length + 1) 81 (by omega), ed_nu (r.length + 1) (nm_r (nI_1 t) ?_)⟩⟩⟩
        refine ih (none, none, none) (L :: r) none _ _ _ _ (by rw [List.length_cons]; omega) hw ⟨pk_us, (fun x hx => by cases hx), pk_us, pk_us, ?_⟩ ?_
        · exact ev_X_u (l := L :: r) (j := r.length + 1) (Nat.le_refl _) (fun q hq => ⟨pk_un (by omega), rfl, pk_un (by omega), pk_un (by omega)⟩) ⟨a1, a2, a3, a4, a5⟩
        · intro CM LF SM PR
          have := hP CM LF SM PR
          unfold ev_r at this
          rw [if_pos h6'] at this
          exact this
    | some v =>
      have hw : ex_r k (d + 1) t false (L.1.isSome :: ev_cs r) = true := hex
      have hk := ex_if hw
      refine pk_lt 7 (k t) (fun z => by omega) (fun _ => pk_eq (k t) 0 (fun z => by omega) (fun _ => pk_eq (k t) 1 (fun z => by omega) (fun _ => pk_eq (k t) 2 (fun z => by omega) (fun _ => ?_))))
      have es : SM (nI r.length).toNatClampNeg + PR (nI r.length).toNatClampNeg = ev_s L v := by
        rw [ed_rt r.length a3, ed_rt r.length a4]; exact ev_s_x L v
      refine pk_eq (k t) 3 (fun h3' => ?_) (fun h3' => pk_eq (k t) 4 (fun h4' => ?_) (fun h4' => pk_eq (k t) 5 (fun h5' => ?_) (fun h5' => pk_eq (k t) 6 (fun z => by omega) (fun _ => pk_eq (k t) 7 (fun h7' => ?_) (fun z => by omega)))))
      · have hLn : L.1.isSome = false := by
          rcases hk with z | z | z | z
          · omega
          · omega
          · omega
          · exact z.2
        rw [hLn, ex_f3 h3'] at hw
        refine ⟨pk_in r.length 81 hr81, pk_in r.length 81 hr81, pk_in r.length 81 hr81, ed_nuv r.length (ev_s L v) es ⟨pk_in r.length 81 hr81, ed_nuv r.length 1 ed_nb1 ⟨pk_in r.length 81 hr81, ed_nu r.length ⟨pk_in r.length 81 hr81, ed_nu r.length (nm_r (nI_1 t) ?_)⟩⟩⟩⟩
        refine ih (some (ev_s L v), none, none) r none _ _ _ _ (by omega) hw ⟨pk_us, (fun x hx => by cases hx; exact pk_us), pk_us, pk_us, ?_⟩ ?_
        · exact ev_X_u (Nat.le_refl _) (fun q hq => ⟨pk_un (by omega), pk_un (by omega), pk_un (by omega), pk_un (by omega)⟩) a5
        · intro CM LF SM PR
          have := hP CM LF SM PR
          unfold ev_r at this
          rw [if_neg (by omega), if_neg (by omega), if_neg (by omega)] at this
          exact this
      · rw [ex_f4 (by omega)] at hw
        refine ⟨pk_in r.length 81 hr81, pk_in r.length 81 hr81, pk_in r.length 81 hr81, ed_nuv r.length (ev_s L v) es ⟨pk_in r.length 81 hr81, ed_nu r.length (nm_r (nI_1 t) ?_)⟩⟩
        refine ih (L.1, some (ev_s L v), none) r none _ _ _ _ (by omega) hw ⟨a1, a2, pk_us, pk_us, ?_⟩ ?_
        · exact ev_X_u (Nat.le_refl _) (fun q hq => ⟨rfl, rfl, pk_un (by omega), pk_un (by omega)⟩) a5
        · intro CM LF SM PR
          have := hP CM LF SM PR
          unfold ev_r at this
          rw [if_neg (by omega), if_neg (by omega), if_pos h4'] at this
          exact this
      · rw [ex_f4 (by omega)] at hw
        refine nm_r (nI_1 t) (ih (L.1, L.2.1, some (ev_p L v)) r none CM LF SM PR (by omega) hw ⟨a1, a2, a3, a4, a5⟩ ?_)
        intro CM LF SM PR
        have := hP CM LF SM PR
        unfold ev_r at this
        rw [if_neg (by omega), if_pos h5'] at this
        exact this
      · cases r with
        | nil =>
          rcases hk with z | z | z | z
          · exact absurd rfl z.2
          · omega
          · omega
          · omega
        | cons M r =>
          have hw2 : ex_r k (d + 1) t false (L.1.isSome :: M.1.isSome :: ev_cs r) = true := hw
          rw [ex_f7 h7'] at hw2
          have hrl : r.length + 1 ≤ t := hr
          refine br_f (nI_nle (Nat.succ_pos _) (by omega)) (nm_r (pk_m1 r.length) ⟨pk_in r.length 81 (by omega), ?_⟩)
          rw [nI_1 r.length]
          refine xv_level (L := L) (r := M :: r) (v := v) (by rw [List.length_cons]; omega) ⟨a1, a2, a3, a4, a5⟩ ?_
          obtain ⟨m1, m2, m3, m4, m5⟩ := a5
          refine ⟨pk_in r.length 81 (by omega), ed_nu r.length (nm_r (nI_1 t) ?_)⟩
          refine ih M r (some (ev_v L v)) CM LF SM _ (by omega) hw2 ⟨m1, m2, m3, ?_, ?_⟩ ?_
          · rw [pk_us, ed_rt r.length m4]; exact ev_p_x M _
          · exact ev_X_u (Nat.le_refl _) (fun q hq => ⟨rfl, rfl, rfl, pk_un (by omega)⟩) m5
          · intro CM LF SM PR
            have := hP CM LF SM PR
            unfold ev_r at this
            rw [if_pos h7'] at this
            exact this
end
