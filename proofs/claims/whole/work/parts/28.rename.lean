section
/-! rename -/
def rx_p (A : Nat → Option Nat) (rt : Nat → Bool) (p : Nat) : Bool := match A p with | none => false | some t => rt t
def rx_s (A : Nat → Option Nat) (S : Nat → Nat) (p : Nat) : Bool := match A p with | none => false | some t => decide (S t = p)
def rx_t (fv i : Nat) (M : Nat → Option Nat) (t : Nat) : Bool := decide (t = fv ∨ M t = some i)
theorem rx_pn {A : Nat → Option Nat} {rt : Nat → Bool} {p : Nat} (h : A p = none) : rx_p A rt p = false := by unfold rx_p; rw [h]
theorem rx_ps {A : Nat → Option Nat} {rt : Nat → Bool} {p t : Nat} (h : A p = some t) : rx_p A rt p = rt t := by unfold rx_p; rw [h]
theorem rx_ss {A : Nat → Option Nat} {S : Nat → Nat} {p t : Nat} (h : A p = some t) : rx_s A S p = decide (S t = p) := by unfold rx_s; rw [h]
theorem rn_g0 {c : Nat → Nat} {rp sp : Nat → Bool} {ch p : Nat} (h : rp p = false) : rn_g c rp sp ch p = [c p] := by unfold rn_g; rw [if_neg (by rw [h]; decide)]
theorem rn_g1 {c : Nat → Nat} {rp sp : Nat → Bool} {ch p : Nat} (h : rp p = true) (h2 : sp p = true) : rn_g c rp sp ch p = [ch] := by unfold rn_g; rw [if_pos h, if_pos h2]
theorem rn_g2 {c : Nat → Nat} {rp sp : Nat → Bool} {ch p : Nat} (h : rp p = true) (h2 : sp p = false) : rn_g c rp sp ch p = [] := by unfold rn_g; rw [if_pos h, if_neg (by rw [h2]; decide)]
theorem rn_put {A : Nat → Int32} {l : List Nat} {x : Nat} (h : rn_l A 0 l) : rn_l (upd A l.length (nI x)) 0 (l ++ [x]) := by
  refine rn_l_ap.mpr ⟨rn_l_c (p := 0) (fun j hj => ?_) h, ?_, trivial⟩
  · rw [pk_un (by omega)]
  · rw [Nat.zero_add, pk_us]
theorem rn_st {c : Nat → Nat} {rp sp : Nat → Bool} {ch n a : Nat} (h : a < n) : rn_f c rp sp ch a (n - a) = rn_g c rp sp ch a ++ rn_f c rp sp ch (a + 1) (n - (a + 1)) := by
  have e : n - a = (n - (a + 1)) + 1 := by omega
  rw [e]; rfl
theorem rn_mv {c : Nat → Nat} {rp sp : Nat → Bool} {ch n : Nat} {Y : Nat → Int32} : ∀ e a b, a + e = b → b ≤ n → (∀ p, a ≤ p → p < b → rp p = false) → (∀ j, j < b → Y j = nI (c j)) → rn_l Y b (rn_f c rp sp ch b (n - b)) →
    rn_l Y a (rn_f c rp sp ch a (n - a)) ∧ a + (rn_f c rp sp ch a (n - a)).length = b + (rn_f c rp sp ch b (n - b)).length := by
  intro e
  induction e with
  | zero =>
    intro a b hab _ _ _ h
    have : a = b := by omega
    subst this
    exact ⟨h, rfl⟩
  | succ e ih =>
    intro a b hab hb hrp hY h
    obtain ⟨h1, h2⟩ := ih (a + 1) b (by omega) hb (fun p q1 q2 => hrp p (by omega) q2) hY h
    rw [rn_st (by omega), rn_g0 (hrp a (Nat.le_refl _) (by omega))]
    refine ⟨⟨hY a (by omega), h1⟩, ?_⟩
    rw [← h2, List.length_append, List.length_singleton]; omega
theorem rn_sk {c : Nat → Nat} {rp sp : Nat → Bool} {ch n : Nat} : ∀ e a b, a + e = b → b ≤ n → (∀ p, a ≤ p → p < b → rp p = true ∧ sp p = false) → rn_f c rp sp ch a (n - a) = rn_f c rp sp ch b (n - b) := by
  intro e
  induction e with
  | zero =>
    intro a b hab _ _
    have : a = b := by omega
    subst this; rfl
  | succ e ih =>
    intro a b hab hb hrp
    have h := hrp a (Nat.le_refl _) (by omega)
    rw [rn_st (by omega), rn_g2 h.1 h.2, List.nil_append]
    exact ih (a + 1) b (by omega) hb (fun p q1 q2 => hrp p (by omega) q2)
theorem rn_cm {rt : Nat → Bool} : ∀ {b a : Nat}, a ≤ b → rn_c rt a ≤ rn_c rt b := by
  intro b
  induction b with
  | zero => intro a h; have : a = 0 := by omega
            subst this; exact Nat.le_refl _
  | succ b ih =>
    intro a h
    by_cases z : a = b + 1
    · subst z; exact Nat.le_refl _
    · have := ih (show a ≤ b by omega)
      have e : rn_c rt (b + 1) = if rt b = true then rn_c rt b + 1 else rn_c rt b := rfl
      rw [e]; split <;> omega
theorem rx_ord {S E : Nat → Nat} {T n : Nat} (h4 : ∀ t, t < T → S t < E t ∧ E t ≤ n) (h7 : ∀ t, t + 1 < T → E t ≤ S (t + 1)) : ∀ t s, s < t → t < T → E s ≤ S t := by
  intro t
  induction t with
  | zero => intro s hs; omega
  | succ t ih =>
    intro s hs ht
    by_cases z : s = t
    · subst z; exact h7 s ht
    · have := ih s (by omega) (by omega)
      have := (h4 t (by omega)).1
      have := h7 t ht
      omega
end
section
variable {f_size f_tokenCount f_itemCount f_blockCount f_openCount f_looseCount : Int32} {a_text a_characterToken a_tokenKind a_tokenStart a_tokenEnd a_tokenItem a_tokenMeaning a_itemFirst a_itemEnd a_itemSort a_itemDepth a_itemBlock a_itemUses a_itemKnown a_itemValue a_blockEnd a_openBlocks a_levelCompares a_levelLeft a_levelSum a_levelProduct : Nat → Int32}
theorem rx_loop {post : SX → Prop} {c S : Nat → Nat} {A M : Nat → Option Nat} {n T i fv ch : Nat} (hn : n ≤ 80) (hT : T ≤ 80) (hi : i < 80) (hf : fv < 80) (hch : ch ≤ 18) (hCT : ed_ao a_characterToken A n) (hAT : ∀ p t, p < n → A p = some t → t < T) (hFI : a_itemFirst i = nI fv) (hM : ed_ao a_tokenMeaning M T) (hMl : ∀ t d, M t = some d → d < 80) (hS : ed_ag a_tokenStart S T) (hSn : ∀ t, t < T → S t < 1000)
    (hP : ∀ a_text : Nat → Int32, rn_l a_text 0 (rn_f c (rx_p A (rx_t fv i M)) (rx_s A S) ch 0 n) → post (nI (rn_f c (rx_p A (rx_t fv i M)) (rx_s A S) ch 0 n).length, f_tokenCount, f_itemCount, f_blockCount, f_openCount, f_looseCount, a_text, a_characterToken, a_tokenKind, a_tokenStart, a_tokenEnd, a_tokenItem, a_tokenMeaning, a_itemFirst, a_itemEnd, a_itemSort, a_itemDepth, a_itemBlock, a_itemUses, a_itemKnown, a_itemValue, a_blockEnd, a_openBlocks, a_levelCompares, a_levelLeft, a_levelSum, a_levelProduct)) :
    ∀ d p, p + d = n → ∀ f, d < f → ∀ a_text : Nat → Int32, rn_l a_text 0 (rn_f c (rx_p A (rx_t fv i M)) (rx_s A S) ch 0 p) → (∀ q, p ≤ q → q < n → a_text q = nI (c q)) →
      (wX_replaceNames_5 post (nI i) (nI ch) (nI n) f_tokenCount f_itemCount f_blockCount f_openCount f_looseCount f (nI (rn_f c (rx_p A (rx_t fv i M)) (rx_s A S) ch 0 p).length) (nI p) a_text a_characterToken a_tokenKind a_tokenStart a_tokenEnd a_tokenItem a_tokenMeaning a_itemFirst a_itemEnd a_itemSort a_itemDepth a_itemBlock a_itemUses a_itemKnown a_itemValue a_blockEnd a_openBlocks a_levelCompares a_levelLeft a_levelSum a_levelProduct) := by
  intro d
  induction d with
  | zero =>
    intro p hp f hf TX g1 g2
    obtain ⟨f, rfl⟩ : ∃ g, f = g + 1 := ⟨f - 1, by omega⟩
    have e : p = n := by omega
    subst e
    exact br_t (nI_le (Nat.le_refl _) (by omega)) (hP TX g1)
  | succ d ih =>
    intro p hp f hf2 TX g1 g2
    obtain ⟨f, rfl⟩ : ∃ g, f = g + 1 := ⟨f - 1, by omega⟩
    have ih := ih (p + 1) (by omega) f (by omega)
    have hlen := rn_f_len c (rx_p A (rx_t fv i M)) (rx_s A S) ch p 0
    have hsn := rn_f_s c (rx_p A (rx_t fv i M)) (rx_s A S) ch p 0
    rw [Nat.zero_add] at hsn
    rw [hsn] at ih
    have hkeep : rx_p A (rx_t fv i M) p = false → ∀ x5 : Int32, (wX_replaceNames_57 post (wX_replaceNames_5 post (nI i) (nI ch) (nI n) f_tokenCount f_itemCount f_blockCount f_openCount f_looseCount f) (nI i) (nI ch) (nI (rn_f c (rx_p A (rx_t fv i M)) (rx_s A S) ch 0 p).length) (nI p) x5 0 (nI n) f_tokenCount f_itemCount f_blockCount f_openCount f_looseCount TX a_characterToken a_tokenKind a_tokenStart a_tokenEnd a_tokenItem a_tokenMeaning a_itemFirst a_itemEnd a_itemSort a_itemDepth a_itemBlock a_itemUses a_itemKnown a_itemValue a_blockEnd a_openBlocks a_levelCompares a_levelLeft a_levelSum a_levelProduct) := by
      intro hr x5
      rw [rn_g0 hr, List.length_append, List.length_singleton] at ih
      refine br_t rfl ⟨pk_in p 80 (by omega), pk_in _ 80 (show (rn_f c (rx_p A (rx_t fv i M)) (rx_s A S) ch 0 p).length < 80 by omega), ed_nuv _ (nI (c p)) (ed_rt p (g2 p (Nat.le_refl _) (by omega))) (nm_r (nI_1 _) (nm_r (nI_1 p) (ih _ (rn_put g1) (fun q q1 q2 => ?_)))) rfl (by omega)⟩
      rw [pk_un (by omega)]; exact g2 q (by omega) q2
    have hrep : ∀ t, A p = some t → rx_p A (rx_t fv i M) p = true → (wX_replaceNames_57 post (wX_replaceNames_5 post (nI i) (nI ch) (nI n) f_tokenCount f_itemCount f_blockCount f_openCount f_looseCount f) (nI i) (nI ch) (nI (rn_f c (rx_p A (rx_t fv i M)) (rx_s A S) ch 0 p).length) (nI p) (nI t) 1 (nI n) f_tokenCount f_itemCount f_blockCount f_openCount f_looseCount TX a_characterToken a_tokenKind a_tokenStart a_tokenEnd a_tokenItem a_tokenMeaning a_itemFirst a_itemEnd a_itemSort a_itemDepth a_itemBlock a_itemUses a_itemKnown a_itemValue a_blockEnd a_openBlocks a_levelCompares a_levelLeft a_levelSum a_levelProduct) := by
      intro t hA hr
      have htT := hAT p t (by omega) hA
      have hS1 := hSn t htT
      have hss := rx_ss (S := S) hA
      refine br_f (by decide) ⟨pk_in t 80 (by omega), pk_eq p (S t) (fun e => ?_) (fun e => ?_) rfl (ed_rt t (hS t htT))⟩
      · rw [decide_eq_true e.symm] at hss
        rw [rn_g1 hr hss, List.length_append, List.length_singleton] at ih
        refine ⟨pk_in _ 80 (show (rn_f c (rx_p A (rx_t fv i M)) (rx_s A S) ch 0 p).length < 80 by omega), ed_nu (rn_f c (rx_p A (rx_t fv i M)) (rx_s A S) ch 0 p).length (nm_r (nI_1 _) (nm_r (nI_1 p) (ih _ (rn_put g1) (fun q q1 q2 => ?_)))) rfl (by omega)⟩
        rw [pk_un (by omega)]; exact g2 q (by omega) q2
      · rw [decide_eq_false (fun z => e z.symm)] at hss
        rw [rn_g2 hr hss, List.append_nil] at ih
        exact nm_r (nI_1 p) (ih TX g1 (fun q q1 q2 => g2 q (by omega) q2))
    refine br_f (nI_ge (by omega) (by omega)) ⟨pk_in p 80 (by omega), ed_rd p (hCT p (by omega)) ?_⟩
    cases hA : A p with
    | none => exact br_t rfl (hkeep (rx_pn hA) _)
    | some t =>
      have htT := hAT p t (by omega) hA
      have hps := rx_ps (rt := rx_t fv i M) hA
      have hiff := ed_oI_s (M t) (fun x hx => by have := hMl t x hx; omega) (u := i) (by omega)
      refine br_f (ed_m3 (show t < 2 ^ 31 by omega)) ⟨pk_in i 80 hi, pk_eq t fv (fun e => ?_) (fun e => ⟨pk_in t 80 (by omega), ?_⟩) rfl (ed_rt i hFI)⟩
      · exact hrep t hA (by rw [hps]; exact decide_eq_true (Or.inl e))
      · have em : a_tokenMeaning (nI t).toNatClampNeg = ed_oI (M t) := ed_rt t (hM t htT)
        show (a_tokenMeaning (nI t).toNatClampNeg = nI i → _) ∧ (¬ a_tokenMeaning (nI t).toNatClampNeg = nI i → _)
        rw [em]
        by_cases z : M t = some i
        · exact br_t (hiff.mpr z) (hrep t hA (by rw [hps]; exact decide_eq_true (Or.inr z)))
        · refine br_f (fun y => z (hiff.mp y)) (hkeep ?_ _)
          rw [hps]; exact decide_eq_false (fun y => by cases y with | inl y => exact e y | inr y => exact z y)
end
section
variable {f_length f_tokenCount f_itemCount f_blockCount f_looseCount f_numberCount f_operatorCount : Int32} {a_text a_kinds a_starts a_ends a_owners a_meant a_firsts a_lasts a_sorts a_blocks a_knowns a_values a_around a_depths a_compared a_numbers a_operators : Nat → Int32}
theorem ry_loop {post : Int32 → SY → Prop} {c S E : Nat → Nat} {A M : Nat → Option Nat} {n T i fv ch : Nat} (hn : n ≤ 80) (hT : T ≤ 80) (hi : i < 80) (hf : fv < 80) (hFI : a_firsts i = nI fv) (hM : ed_ao a_meant M T) (hMl : ∀ t d, M t = some d → d < 80) (hS : ed_ag a_starts S T) (hE : ed_ag a_ends E T)
    (h4 : ∀ t, t < T → S t < E t ∧ E t ≤ n) (h7 : ∀ t, t + 1 < T → E t ≤ S (t + 1)) (hAT : ∀ p t, p < n → A p = some t → t < T) (h5 : ∀ p t, p < n → t < T → (A p = some t ↔ (S t ≤ p ∧ p < E t)))
    (hP : ∀ a_text : Nat → Int32, rn_l a_text 0 (rn_f c (rx_p A (rx_t fv i M)) (rx_s A S) ch 0 n) → post (nI (rn_c (rx_t fv i M) T)) (nI (rn_f c (rx_p A (rx_t fv i M)) (rx_s A S) ch 0 n).length, f_tokenCount, f_itemCount, f_blockCount, f_looseCount, f_numberCount, f_operatorCount, a_text, a_kinds, a_starts, a_ends, a_owners, a_meant, a_firsts, a_lasts, a_sorts, a_blocks, a_knowns, a_values, a_around, a_depths, a_compared, a_numbers, a_operators)) :
    ∀ D, D ≤ T → ∀ x4 : Int32, x4 = nI D - 1 → ∀ f, D < f → ∀ (a_text : Nat → Int32) (b : Nat), b ≤ n → (D < T → b = S D) → (¬ D < T → b = n) → (∀ j, j < b → a_text j = nI (c j)) → rn_l a_text b (rn_f c (rx_p A (rx_t fv i M)) (rx_s A S) ch b (n - b)) →
      (wY_rename_50 post (nI i) (nI ch) f (nI (rn_c (rx_t fv i M) T - rn_c (rx_t fv i M) D)) x4 (nI (b + (rn_f c (rx_p A (rx_t fv i M)) (rx_s A S) ch b (n - b)).length)) f_tokenCount f_itemCount f_blockCount f_looseCount f_numberCount f_operatorCount a_text a_kinds a_starts a_ends a_owners a_meant a_firsts a_lasts a_sorts a_blocks a_knowns a_values a_around a_depths a_compared a_numbers a_operators) := by
  have hord := rx_ord h4 h7
  have hgap : ∀ D, D ≤ T → ∀ a b, b ≤ n → (D < T → b = S D) → (¬ D < T → b = n) → (∀ t, t < D → E t ≤ a) → ∀ p, a ≤ p → p < b → rx_p A (rx_t fv i M) p = false := by
    intro D hD a b hb hb1 hb2 ha p hp1 hp2
    cases hA : A p with
    | none => exact rx_pn hA
    | some t =>
      have htT := hAT p t (by omega) hA
      have hse := (h5 p t (by omega) htT).mp hA
      by_cases z : t < D
      · have := ha t z; omega
      · have hDT : D < T := by omega
        have e := hb1 hDT
        by_cases y : t = D
        · subst y; omega
        · have q := hord t D (by omega) htT
          have q2 := (h4 D hDT).1
          omega
  intro D
  induction D with
  | zero =>
    intro hD x4 hx f hf TX b hb hb1 hb2 g1 g2
    obtain ⟨f, rfl⟩ : ∃ g, f = g + 1 := ⟨f - 1, by omega⟩
    subst hx
    obtain ⟨m1, m2⟩ := rn_mv b 0 b (by omega) hb (hgap 0 (by omega) 0 b hb hb1 hb2 (fun t ht => by omega)) g1 g2
    rw [Nat.zero_add, Nat.sub_zero] at m2
    rw [Nat.sub_zero] at m1
    have hP := hP TX m1
    rw [m2] at hP
    refine br_t (by decide) ?_
    exact hP
  | succ t ih =>
    intro hD x4 hx f hf2 TX b hb hb1 hb2 g1 g2
    obtain ⟨f, rfl⟩ : ∃ g, f = g + 1 := ⟨f - 1, by omega⟩
    rw [nI_pred] at hx
    subst hx
    have hse := h4 t (by omega)
    have heb : E t ≤ b := by
      by_cases z : t + 1 < T
      · rw [hb1 z]; exact h7 t z
      · rw [hb2 z]; exact hse.2
    obtain ⟨m1, m2⟩ := rn_mv (b - E t) (E t) b (by omega) hb (hgap (t + 1) hD (E t) b hb hb1 hb2 (fun s hs => by
      by_cases z : s = t
      · subst z; exact Nat.le_refl _
      · have := hord t s (by omega) (by omega); omega)) g1 g2
    have hlen := rn_f_len c (rx_p A (rx_t fv i M)) (rx_s A S) ch (n - E t) (E t)
    have hAp : ∀ p, S t ≤ p → p < E t → A p = some t := fun p q1 q2 => (h5 p t (by omega) (by omega)).mpr ⟨q1, q2⟩
    have hc1 : rn_c (rx_t fv i M) (t + 1) = if rx_t fv i M t = true then rn_c (rx_t fv i M) t + 1 else rn_c (rx_t fv i M) t := rfl
    have hcm := rn_cm (rt := rx_t fv i M) hD
    have em : a_meant (nI t).toNatClampNeg = ed_oI (M t) := ed_rt t (hM t (by omega))
    have es : a_starts (nI t).toNatClampNeg = nI (S t) := ed_rt t (hS t (by omega))
    have ee : a_ends (nI t).toNatClampNeg = nI (E t) := ed_rt t (hE t (by omega))
    have hiff := ed_oI_s (M t) (fun x hx => by have := hMl t x hx; omega) (u := i) (by omega)
    have ih := ih (by omega) _ (Int32.sub_eq_add_neg _ _).symm f (by omega)
    rw [← m2]
    have hkeep : rx_t fv i M t = false → (wY_rename_50 post (nI i) (nI ch) f (nI (rn_c (rx_t fv i M) T - rn_c (rx_t fv i M) (t + 1))) (nI t + (-1)) (nI (E t + (rn_f c (rx_p A (rx_t fv i M)) (rx_s A S) ch (E t) (n - E t)).length)) f_tokenCount f_itemCount f_blockCount f_looseCount f_numberCount f_operatorCount TX a_kinds a_starts a_ends a_owners a_meant a_firsts a_lasts a_sorts a_blocks a_knowns a_values a_around a_depths a_compared a_numbers a_operators) := by
      intro hr
      obtain ⟨w1, w2⟩ := rn_mv (E t - S t) (S t) (E t) (by omega) (by omega) (fun p q1 q2 => by rw [rx_ps (hAp p q1 q2)]; exact hr) (fun j hj => g1 j (by omega)) m1
      rw [hc1, if_neg (by rw [hr]; decide), ← w2]
      exact ih TX (S t) (by omega) (fun _ => rfl) (fun z => by omega) (fun j hj => g1 j (by omega)) w1
    have hrep : rx_t fv i M t = true → (wY_rename_77 post (wY_rename_50 post (nI i) (nI ch) f) (nI i) (nI ch) (nI (rn_c (rx_t fv i M) T - rn_c (rx_t fv i M) (t + 1))) (nI t) (nI (E t + (rn_f c (rx_p A (rx_t fv i M)) (rx_s A S) ch (E t) (n - E t)).length)) f_tokenCount f_itemCount f_blockCount f_looseCount f_numberCount f_operatorCount TX a_kinds a_starts a_ends a_owners a_meant a_firsts a_lasts a_sorts a_blocks a_knowns a_values a_around a_depths a_compared a_numbers a_operators) := by
      intro hr
      have hw : rn_f c (rx_p A (rx_t fv i M)) (rx_s A S) ch (S t) (n - S t) = ch :: rn_f c (rx_p A (rx_t fv i M)) (rx_s A S) ch (E t) (n - E t) := by
        have hA0 := hAp (S t) (Nat.le_refl _) hse.1
        rw [rn_st (by omega), rn_g1 (by rw [rx_ps hA0]; exact hr) (by rw [rx_ss hA0]; exact decide_eq_true rfl)]
        rw [rn_sk (E t - (S t + 1)) (S t + 1) (E t) (by omega) hse.2 (fun p q1 q2 => ?_)]
        · rfl
        · have hA1 := hAp p (by omega) q2
          exact ⟨by rw [rx_ps hA1]; exact hr, by rw [rx_ss hA1]; exact decide_eq_false (by omega)⟩
      refine ⟨pk_in t 80 (by omega), pk_in t 80 (by omega), pk_in t 80 (by omega), ?_⟩
      rw [es, ee, nI_1 (S t), pk_sub (show S t ≤ E t by omega), show nI (E t - S t) - 1 = nI (E t - S t - 1) from pk_sub (b := 1) (by omega)]
      refine ys_take (n := E t + (rn_f c (rx_p A (rx_t fv i M)) (rx_s A S) ch (E t) (n - E t)).length) (p := S t + 1) (m := E t - S t - 1) (by omega) (by omega) (fun B w1 w2 => ?_)
      refine ⟨pk_in t 80 (by omega), ?_⟩
      show vp_in (a_starts (nI t).toNatClampNeg) 81 ∧ ∀ a_text_66, a_text_66 = upd B (a_starts (nI t).toNatClampNeg).toNatClampNeg (nI ch) → _
      rw [es]
      refine ⟨pk_in (S t) 81 (by omega), ed_nu (S t) (nm_r (nI_1 _) (nm_e ?_))⟩
      have ih := ih (upd B (S t) (nI ch)) (S t) (by omega) (fun _ => rfl) (fun z => by omega) (fun j hj => by rw [pk_un (by omega), w1 j (by omega)]; exact g1 j (by omega)) (by
        rw [hw]
        refine ⟨pk_us, rn_l_c (p := E t) (fun j hj => ?_) m1⟩
        rw [pk_un (by omega), w2 (S t + 1 + j) (by omega) (by omega)]
        exact congrArg TX (by omega))
      have e1 : rn_c (rx_t fv i M) T - rn_c (rx_t fv i M) (t + 1) + 1 = rn_c (rx_t fv i M) T - rn_c (rx_t fv i M) t := by
        rw [hc1, if_pos hr]; rw [hc1, if_pos hr] at hcm; omega
      have e2 : E t + (rn_f c (rx_p A (rx_t fv i M)) (rx_s A S) ch (E t) (n - E t)).length - (E t - S t - 1) = S t + (rn_f c (rx_p A (rx_t fv i M)) (rx_s A S) ch (S t) (n - S t)).length := by
        rw [hw, List.length_cons]; omega
      rw [e1, e2]
      exact ih
    refine br_f (nI_pos (by omega)) ⟨pk_in i 80 hi, pk_eq t fv (fun e => ?_) (fun e => ⟨pk_in t 80 (by omega), ?_⟩) rfl (ed_rt i hFI)⟩
    · exact hrep (decide_eq_true (Or.inl e))
    · rw [em]
      by_cases z : M t = some i
      · exact br_t (hiff.mpr z) (hrep (decide_eq_true (Or.inr z)))
      · exact br_f (fun y => z (hiff.mp y)) (nm_e (hkeep (decide_eq_false (fun y => by cases y with | inl y => exact e y | inr y => exact z y))))
end
