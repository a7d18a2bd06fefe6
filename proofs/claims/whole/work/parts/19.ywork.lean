section
/-! Y works on an item -/
theorem ed_nbb (b : Bool) : vp_nar .boolean (ed_bI b) = ed_bI b := by
  cases b with
  | true => exact ed_nb1
  | false => exact ed_nb0
def yw_b (o : Option Nat) (g : Nat → Bool) : Bool := match o with | none => false | some d => g d
theorem yl_R0 {r : List ev_L} : ∀ o l, ev_R r = o :: l → ∃ q, o = nI q ∧ q < 3 := by
  intro o l h
  cases r with
  | nil => cases h
  | cons M r =>
    have h2 : (0 : Int32) :: ev_O (M :: r) = o :: l := h
    cases h2
    exact ⟨0, rfl, by omega⟩
theorem yl_R3 {r : List ev_L} {c : Option Int32} : ∀ o l, ev_op (c, none, none) ++ ev_R r = o :: l → ∃ q, o = nI q ∧ q < 4 := by
  intro o l h
  cases c with
  | none =>
    obtain ⟨q, h1, h2⟩ := yl_R0 (r := r) o l h
    exact ⟨q, h1, by omega⟩
  | some x =>
    have h2 : (3 : Int32) :: ev_R r = o :: l := h
    cases h2
    exact ⟨3, rfl, by omega⟩
theorem yl_R4 {r : List ev_L} {c s : Option Int32} : ∀ o l, ev_op (c, s, none) ++ ev_R r = o :: l → ∃ q, o = nI q ∧ q < 5 := by
  intro o l h
  cases s with
  | none =>
    obtain ⟨q, h1, h2⟩ := yl_R3 (r := r) o l h
    exact ⟨q, h1, by omega⟩
  | some x =>
    have h2 : (4 : Int32) :: (ev_op (c, none, none) ++ ev_R r) = o :: l := h
    cases h2
    exact ⟨4, rfl, by omega⟩
theorem ed_sk_t {a : Nat → Int32} : ∀ {l m : List Int32}, ed_sk a (l ++ m) → ed_sk a m := by
  intro l
  induction l with
  | nil => intro m h; exact h
  | cons x l ih => intro m h; exact ih h.2
theorem ev_opl {c s p : Option Int32} {R : List Int32} : (ev_op (c, s, p) ++ R).length = ev_b c + ev_b s + ev_b p + R.length := by
  rw [List.length_append, ev_op_l]; rfl
theorem ev_nul {c s p : Option Int32} {R : List Int32} : (ev_nu (c, s, p) ++ R).length = ev_b c + ev_b s + ev_b p + R.length := by
  rw [List.length_append, ev_nu_l]; rfl
variable {f_length f_tokenCount f_itemCount f_blockCount f_looseCount f_numberCount f_operatorCount : Int32} {a_text a_kinds a_starts a_ends a_owners a_meant a_firsts a_lasts a_sorts a_blocks a_knowns a_values a_around a_depths a_compared a_numbers a_operators : Nat → Int32}
theorem yl_A5 {post : SY → Prop} {e k : Nat} {c s p : Option Int32} {v : Int32} {R N : List Int32} (he : e ≤ 5) (hO : (ev_op (c, s, p) ++ R).length ≤ 81) (hN : (ev_nu (c, s, p) ++ N).length ≤ 80) (hsk : ed_sk a_operators (ev_op (c, s, p) ++ R))
    (h : yl_W post (nI e) f_length f_tokenCount f_itemCount f_blockCount f_looseCount f_numberCount f_operatorCount a_text a_kinds a_starts a_ends a_owners a_meant a_firsts a_lasts a_sorts a_blocks a_knowns a_values a_around a_depths a_compared a_numbers a_operators k (ev_op (c, s, none) ++ R) (ev_p (c, s, p) v :: (ev_nu (c, s, none) ++ N))) : yl_W post (nI e) f_length f_tokenCount f_itemCount f_blockCount f_looseCount f_numberCount f_operatorCount a_text a_kinds a_starts a_ends a_owners a_meant a_firsts a_lasts a_sorts a_blocks a_knowns a_values a_around a_depths a_compared a_numbers a_operators (k + 1) (ev_op (c, s, p) ++ R) (v :: (ev_nu (c, s, p) ++ N)) := by
  cases p with
  | none => exact yl_up h
  | some p =>
    have e1 : ev_rd 5 p v = ev_p (c, s, some p) v := by unfold ev_rd; rw [if_neg (by omega), if_pos rfl]; rfl
    rw [← e1] at h
    rw [ev_opl] at hO
    rw [ev_nul] at hN
    have w1 : ev_b (some p) = 1 := rfl
    refine yl_A (q := 5) (O := ev_op (c, s, none) ++ R) (N := ev_nu (c, s, none) ++ N) ?_ ?_ he (by omega) (by omega) hsk h
    · rw [ev_opl]; have : ev_b none = 0 := rfl; omega
    · rw [ev_nul]; have : ev_b none = 0 := rfl; omega
theorem yl_A4 {post : SY → Prop} {e k : Nat} {c s : Option Int32} {v : Int32} {R N : List Int32} (he : e ≤ 4) (hO : (ev_op (c, s, none) ++ R).length ≤ 81) (hN : (ev_nu (c, s, none) ++ N).length ≤ 80) (hsk : ed_sk a_operators (ev_op (c, s, none) ++ R))
    (h : yl_W post (nI e) f_length f_tokenCount f_itemCount f_blockCount f_looseCount f_numberCount f_operatorCount a_text a_kinds a_starts a_ends a_owners a_meant a_firsts a_lasts a_sorts a_blocks a_knowns a_values a_around a_depths a_compared a_numbers a_operators k (ev_op (c, none, none) ++ R) (ev_s (c, s, none) v :: (ev_nu (c, none, none) ++ N))) : yl_W post (nI e) f_length f_tokenCount f_itemCount f_blockCount f_looseCount f_numberCount f_operatorCount a_text a_kinds a_starts a_ends a_owners a_meant a_firsts a_lasts a_sorts a_blocks a_knowns a_values a_around a_depths a_compared a_numbers a_operators (k + 1) (ev_op (c, s, none) ++ R) (v :: (ev_nu (c, s, none) ++ N)) := by
  cases s with
  | none => exact yl_up h
  | some s =>
    have e1 : ev_rd 4 s v = ev_s (c, some s, none) v := by unfold ev_rd; rw [if_pos rfl]; rfl
    rw [← e1] at h
    rw [ev_opl] at hO
    rw [ev_nul] at hN
    have w1 : ev_b (some s) = 1 := rfl
    refine yl_A (q := 4) (O := ev_op (c, none, none) ++ R) (N := ev_nu (c, none, none) ++ N) ?_ ?_ he (by omega) (by omega) hsk h
    · rw [ev_opl]; have : ev_b none = 0 := rfl; omega
    · rw [ev_nul]; have : ev_b none = 0 := rfl; omega
theorem yl_A3 {post : SY → Prop} {e k : Nat} {c : Option Int32} {v : Int32} {R N : List Int32} (he : e ≤ 3) (hO : (ev_op (c, none, none) ++ R).length ≤ 81) (hN : (ev_nu (c, none, none) ++ N).length ≤ 80) (hsk : ed_sk a_operators (ev_op (c, none, none) ++ R))
    (h : yl_W post (nI e) f_length f_tokenCount f_itemCount f_blockCount f_looseCount f_numberCount f_operatorCount a_text a_kinds a_starts a_ends a_owners a_meant a_firsts a_lasts a_sorts a_blocks a_knowns a_values a_around a_depths a_compared a_numbers a_operators k R (ev_v (c, none, none) v :: N)) : yl_W post (nI e) f_length f_tokenCount f_itemCount f_blockCount f_looseCount f_numberCount f_operatorCount a_text a_kinds a_starts a_ends a_owners a_meant a_firsts a_lasts a_sorts a_blocks a_knowns a_values a_around a_depths a_compared a_numbers a_operators (k + 1) (ev_op (c, none, none) ++ R) (v :: (ev_nu (c, none, none) ++ N)) := by
  cases c with
  | none => exact yl_up h
  | some c =>
    have e1 : ev_rd 3 c v = ev_v (some c, none, none) v := by unfold ev_rd; rw [if_neg (by omega), if_neg (by omega)]; rfl
    rw [← e1] at h
    rw [ev_opl] at hO
    rw [ev_nul] at hN
    have w1 : ev_b (some c) = 1 := rfl
    exact yl_A (q := 3) (O := R) (N := N) (by omega) (by omega) he (by omega) (by omega) hsk h
theorem yl_c5 {post : SY → Prop} {L : ev_L} {r : List ev_L} {v : Int32} {N : List Int32} (hO : (ev_op L ++ ev_R r).length ≤ 81) (hN : (ev_nu L ++ N).length ≤ 80) (hsk : ed_sk a_operators (ev_op L ++ ev_R r)) (hnu : ed_sk a_numbers (v :: (ev_nu L ++ N)))
    (h : ∀ a_numbers : Nat → Int32, ed_sk a_numbers (ev_p L v :: (ev_nu (L.1, L.2.1, none) ++ N)) → post (f_length, f_tokenCount, f_itemCount, f_blockCount, f_looseCount, nI (ev_p L v :: (ev_nu (L.1, L.2.1, none) ++ N)).length, nI (ev_op (L.1, L.2.1, none) ++ ev_R r).length, a_text, a_kinds, a_starts, a_ends, a_owners, a_meant, a_firsts, a_lasts, a_sorts, a_blocks, a_knowns, a_values, a_around, a_depths, a_compared, a_numbers, a_operators)) :
    wpY_close post (f_length, f_tokenCount, f_itemCount, f_blockCount, f_looseCount, nI (v :: (ev_nu L ++ N)).length, nI (ev_op L ++ ev_R r).length, a_text, a_kinds, a_starts, a_ends, a_owners, a_meant, a_firsts, a_lasts, a_sorts, a_blocks, a_knowns, a_values, a_around, a_depths, a_compared, a_numbers, a_operators) (nI 5) := by
  obtain ⟨c, s, p⟩ := L
  have hO2 := hO
  rw [ev_opl] at hO2
  have hs2 : ed_sk a_operators (ev_op (c, s, none) ++ ev_R r) := by
    cases p with
    | none => exact hsk
    | some p => exact hsk.2
  have W : yl_W post (nI 5) f_length f_tokenCount f_itemCount f_blockCount f_looseCount 0 0 a_text a_kinds a_starts a_ends a_owners a_meant a_firsts a_lasts a_sorts a_blocks a_knowns a_values a_around a_depths a_compared a_numbers a_operators 2 (ev_op (c, s, p) ++ ev_R r) (v :: (ev_nu (c, s, p) ++ N)) := yl_A5 (by omega) hO hN hsk (yl_stop (by rw [ev_opl]; have : ev_b none = 0 := rfl; omega) (by omega) hs2 yl_R4 h)
  exact ⟨2, W 2 (Nat.le_refl _) a_numbers hnu⟩
theorem yl_c4 {post : SY → Prop} {L : ev_L} {r : List ev_L} {v : Int32} {N : List Int32} (hO : (ev_op L ++ ev_R r).length ≤ 81) (hN : (ev_nu L ++ N).length ≤ 80) (hsk : ed_sk a_operators (ev_op L ++ ev_R r)) (hnu : ed_sk a_numbers (v :: (ev_nu L ++ N)))
    (h : ∀ a_numbers : Nat → Int32, ed_sk a_numbers (ev_s L v :: (ev_nu (L.1, none, none) ++ N)) → post (f_length, f_tokenCount, f_itemCount, f_blockCount, f_looseCount, nI (ev_s L v :: (ev_nu (L.1, none, none) ++ N)).length, nI (ev_op (L.1, none, none) ++ ev_R r).length, a_text, a_kinds, a_starts, a_ends, a_owners, a_meant, a_firsts, a_lasts, a_sorts, a_blocks, a_knowns, a_values, a_around, a_depths, a_compared, a_numbers, a_operators)) :
    wpY_close post (f_length, f_tokenCount, f_itemCount, f_blockCount, f_looseCount, nI (v :: (ev_nu L ++ N)).length, nI (ev_op L ++ ev_R r).length, a_text, a_kinds, a_starts, a_ends, a_owners, a_meant, a_firsts, a_lasts, a_sorts, a_blocks, a_knowns, a_values, a_around, a_depths, a_compared, a_numbers, a_operators) (nI 4) := by
  obtain ⟨c, s, p⟩ := L
  have hO2 := hO
  have hN2 := hN
  rw [ev_opl] at hO2
  rw [ev_nul] at hN2
  have b0 : ev_b none = 0 := rfl
  have hs2 : ed_sk a_operators (ev_op (c, s, none) ++ ev_R r) := by
    cases p with
    | none => exact hsk
    | some p => exact hsk.2
  have hs3 : ed_sk a_operators (ev_op (c, none, none) ++ ev_R r) := by
    cases s with
    | none => exact hs2
    | some s => exact hs2.2
  have W : yl_W post (nI 4) f_length f_tokenCount f_itemCount f_blockCount f_looseCount 0 0 a_text a_kinds a_starts a_ends a_owners a_meant a_firsts a_lasts a_sorts a_blocks a_knowns a_values a_around a_depths a_compared a_numbers a_operators 3 (ev_op (c, s, p) ++ ev_R r) (v :: (ev_nu (c, s, p) ++ N)) := yl_A5 (by omega) hO hN hsk (yl_A4 (by omega) (by rw [ev_opl]; omega) (by rw [ev_nul]; omega) hs2 (yl_stop (by rw [ev_opl]; omega) (by omega) hs3 yl_R3 h))
  exact ⟨3, W 3 (Nat.le_refl _) a_numbers hnu⟩
theorem yl_c3 {post : SY → Prop} {L : ev_L} {r : List ev_L} {v : Int32} {N : List Int32} (hO : (ev_op L ++ ev_R r).length ≤ 81) (hN : (ev_nu L ++ N).length ≤ 80) (hsk : ed_sk a_operators (ev_op L ++ ev_R r)) (hnu : ed_sk a_numbers (v :: (ev_nu L ++ N)))
    (h : ∀ a_numbers : Nat → Int32, ed_sk a_numbers (ev_v L v :: N) → post (f_length, f_tokenCount, f_itemCount, f_blockCount, f_looseCount, nI (ev_v L v :: N).length, nI (ev_R r).length, a_text, a_kinds, a_starts, a_ends, a_owners, a_meant, a_firsts, a_lasts, a_sorts, a_blocks, a_knowns, a_values, a_around, a_depths, a_compared, a_numbers, a_operators)) :
    wpY_close post (f_length, f_tokenCount, f_itemCount, f_blockCount, f_looseCount, nI (v :: (ev_nu L ++ N)).length, nI (ev_op L ++ ev_R r).length, a_text, a_kinds, a_starts, a_ends, a_owners, a_meant, a_firsts, a_lasts, a_sorts, a_blocks, a_knowns, a_values, a_around, a_depths, a_compared, a_numbers, a_operators) (nI 3) := by
  obtain ⟨c, s, p⟩ := L
  have hO2 := hO
  have hN2 := hN
  rw [ev_opl] at hO2
  rw [ev_nul] at hN2
  have b0 : ev_b none = 0 := rfl
  have hs2 : ed_sk a_operators (ev_op (c, s, none) ++ ev_R r) := by
    cases p with
    | none => exact hsk
    | some p => exact hsk.2
  have hs3 : ed_sk a_operators (ev_op (c, none, none) ++ ev_R r) := by
    cases s with
    | none => exact hs2
    | some s => exact hs2.2
  have hs4 : ed_sk a_operators (ev_R r) := ed_sk_t hsk
  have W : yl_W post (nI 3) f_length f_tokenCount f_itemCount f_blockCount f_looseCount 0 0 a_text a_kinds a_starts a_ends a_owners a_meant a_firsts a_lasts a_sorts a_blocks a_knowns a_values a_around a_depths a_compared a_numbers a_operators 4 (ev_op (c, s, p) ++ ev_R r) (v :: (ev_nu (c, s, p) ++ N)) := yl_A5 (by omega) hO hN hsk (yl_A4 (by omega) (by rw [ev_opl]; omega) (by rw [ev_nul]; omega) hs2 (yl_A3 (by omega) (by rw [ev_opl]; omega) (by rw [ev_nul]; omega) hs3 (yl_stop (by omega) (by omega) hs4 yl_R0 h)))
  exact ⟨4, W 4 (Nat.le_refl _) a_numbers hnu⟩
theorem yw_factor {post : SY → Prop} {J60 : Int32 → Int32 → Int32 → Int32 → Int32 → Int32 → Int32 → Int32 → (Nat → Int32) → (Nat → Int32) → (Nat → Int32) → (Nat → Int32) → (Nat → Int32) → (Nat → Int32) → (Nat → Int32) → (Nat → Int32) → (Nat → Int32) → (Nat → Int32) → (Nat → Int32) → (Nat → Int32) → (Nat → Int32) → (Nat → Int32) → (Nat → Int32) → (Nat → Int32) → (Nat → Int32) → Prop}
    {c st en k : Nat → Nat} {T n t i m : Nat} {f : Nat → Option Nat} {tb : Nat → Bool × Int32} {o : Option Nat} {acc : Bool} (hn : n ≤ 80) (hT : T ≤ 80) (hS : ed_ag a_starts st T) (hE : ed_ag a_ends en T) (hX : ed_ag a_text c n) (ht : t < T) (hse : st t < en t ∧ en t ≤ n) (hi : i < 80) (hm : m < 81)
    (hk : k t ≤ 1) (ho0 : k t = 0 → o = f t) (ho1 : k t = 1 → o = none) (hod : ∀ d, f t = some d → d < i) (hKi : a_knowns i = ed_bI acc) (hK : ∀ d, d < i → a_knowns d = ed_bI (tb d).1) (hV : ∀ d, d < i → a_values d = (tb d).2)
    (h : J60 (nI (t + 1)) f_length f_tokenCount f_itemCount f_blockCount f_looseCount (nI (m + 1)) f_operatorCount a_text a_kinds a_starts a_ends a_owners (upd a_meant t (ed_oI o)) a_firsts a_lasts a_sorts a_blocks (upd a_knowns i (ed_bI (acc && mn_k1 k f tb t))) a_values a_around a_depths a_compared (upd a_numbers m (mn_tv k (fun t => mn_nv c (en t - st t) (st t) 0) f tb t)) a_operators) :
    (wY_work_114 post J60 (nI i) (nI t) (nI (k t)) (ed_oI o) (nI t) f_length f_tokenCount f_itemCount f_blockCount f_looseCount (nI m) f_operatorCount a_text a_kinds a_starts a_ends a_owners a_meant a_firsts a_lasts a_sorts a_blocks a_knowns a_values a_around a_depths a_compared a_numbers a_operators) := by
  refine ⟨pk_in t 80 (by omega), ed_nu t ⟨pk_in t 80 (by omega), ed_rd t pk_us ⟨pk_in i 80 hi, ?_⟩⟩⟩
  have h202 : ∀ x : Int32, x = mn_tv k (fun t => mn_nv c (en t - st t) (st t) 0) f tb t → (wY_work_202 post J60 (nI i) (nI t) x (nI m) f_length f_tokenCount f_itemCount f_blockCount f_looseCount (nI m) f_operatorCount a_text a_kinds a_starts a_ends a_owners (upd a_meant t (ed_oI o)) a_firsts a_lasts a_sorts a_blocks (upd a_knowns i (ed_bI (acc && mn_k1 k f tb t))) a_values a_around a_depths a_compared a_numbers a_operators) := by
    intro x hx
    subst hx
    exact ⟨pk_in m 81 hm, ed_nu m (nm_r (nI_1 m) (nm_r (nI_1 t) h))⟩
  have h163 : ∀ b : Bool, b = (acc && mn_k1 k f tb t) → (wY_work_163 post J60 (nI i) (nI t) (nI (k t)) (ed_oI o) (ed_bI b) (nI i) f_length f_tokenCount f_itemCount f_blockCount f_looseCount (nI m) f_operatorCount a_text a_kinds a_starts a_ends a_owners (upd a_meant t (ed_oI o)) a_firsts a_lasts a_sorts a_blocks a_knowns a_values a_around a_depths a_compared a_numbers a_operators) := by
    intro b hb
    subst hb
    refine ⟨pk_in i 80 hi, ed_nuv i _ (ed_nbb _) (pk_eq (k t) 1 (fun h1 => ?_) (fun h1 => ?_))⟩
    · refine ym_number hn hT hS hE hX ht hse (h202 _ ?_)
      unfold mn_tv; rw [if_pos h1]
    · have h0 := ho0 (by omega)
      have htv : mn_tv k (fun t => mn_nv c (en t - st t) (st t) 0) f tb t = xv_o o (fun d => (tb d).2) := by
        unfold mn_tv; rw [if_neg h1, ← h0]; rfl
      cases o with
      | none => exact br_t (by decide) (h202 0 (by rw [htv]; rfl))
      | some d =>
        have hd := hod d h0.symm
        refine br_f (show ¬ nI d < 0 from nI_pos (by omega)) ⟨pk_in d 80 (by omega), h202 _ ?_⟩
        rw [htv]; exact ed_rt (x := ed_oI (some d)) d (hV d hd)
  have eKi : a_knowns (nI i).toNatClampNeg = ed_bI acc := ed_rt i hKi
  cases acc with
  | false => exact br_t eKi (h163 false rfl)
  | true =>
    refine br_f (by show ¬ a_knowns (nI i).toNatClampNeg = 0; rw [eKi]; decide) (pk_eq (k t) 1 (fun h1 => h163 true ?_) (fun h1 => ?_))
    · have : mn_k1 k f tb t = true := by unfold mn_k1; rw [if_neg (by omega)]
      rw [this]; rfl
    · have h0 := ho0 (by omega)
      have hk1 : mn_k1 k f tb t = yw_b o (fun d => (tb d).1) := by unfold mn_k1; rw [if_pos (by omega), ← h0]; rfl
      cases o with
      | none => exact br_t (by decide) (h163 false (by rw [hk1]; rfl))
      | some d =>
        have hd := hod d h0.symm
        have eKd : a_knowns (nI d).toNatClampNeg = ed_bI (tb d).1 := ed_rt d (hK d hd)
        refine br_f (show ¬ nI d < 0 from nI_pos (by omega)) ⟨pk_in d 80 (by omega), ?_⟩
        cases hb : (tb d).1 with
        | false => exact br_t (by show a_knowns (nI d).toNatClampNeg = 0; rw [eKd, hb]; rfl) (h163 false (by rw [hk1]; show false = (true && (tb d).1); rw [hb]; rfl))
        | true => exact br_f (by show ¬ a_knowns (nI d).toNatClampNeg = 0; rw [eKd, hb]; decide) (h163 true (by rw [hk1]; show true = (true && (tb d).1); rw [hb]; rfl))
end
