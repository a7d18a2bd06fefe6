section
/-! a token as Y reads it, all at once, against the pure pass -/
theorem tk_run {c : Nat → Nat} {p q0 : Nat} (hq0 : q0 = p + 1) (h18 : ¬ c p = 18) (hco : tk_co c p (tk_r c p) = none) (hk : tk_kb (c p) ≤ 1) : ∀ e, (∀ j, q0 ≤ j → j < q0 + e → tk_ck (tk_kb (c p)) (c j) = true) →
    ∃ aa, tk_r c (q0 + e) = ((tk_r c p).1 + 1, ed_fu (tk_r c p).2.1 (tk_r c p).1 (tk_kb (c p)), ed_fu (tk_r c p).2.2.1 (tk_r c p).1 p, ed_fu (tk_r c p).2.2.2.1 (tk_r c p).1 (q0 + e), aa) ∧ tk_pv aa (q0 + e) = some (tk_r c p).1 := by
  subst hq0
  intro e
  induction e with
  | zero =>
    intro _
    refine ⟨ed_fu (tk_r c p).2.2.2.2 p (some (tk_r c p).1), ?_, ?_⟩
    · show tk_step c p (tk_r c p) = _
      rw [tk_bg h18 hco]
    · exact ed_fs
  | succ e ih =>
    intro hj
    obtain ⟨aa, h1, h2⟩ := ih (fun j a b => hj j a (by omega))
    have hc := hj (p + 1 + e) (by omega) (by omega)
    have hcP := tk_ckP.mp hc
    have hr : tk_r c (p + 1 + (e + 1)) = tk_step c (p + 1 + e) (tk_r c (p + 1 + e)) := rfl
    have hco2 : tk_co c (p + 1 + e) (tk_r c (p + 1 + e)) = some (tk_r c p).1 := by
      refine tk_co_1 (by rw [h1]; exact h2) ?_
      rw [h1]
      dsimp only
      rw [ed_fs]; omega
    rw [hr, tk_cn (by omega) hco2, h1]
    dsimp only
    rw [if_neg (by rw [ed_fs]; omega), ed_ff]
    exact ⟨_, rfl, ed_fs⟩
theorem tk_af1 {c : Nat → Nat} {p q : Nat} (h18 : ¬ c p = 18) (hco : tk_co c p (tk_r c p) = none) (hk : tk_kb (c p) ≤ 1) (hq : p + 1 ≤ q) (hj : ∀ j, p + 1 ≤ j → j < q → tk_ck (tk_kb (c p)) (c j) = true) {n : Nat} (hn : q < n → ¬ tk_ck (tk_kb (c p)) (c q) = true) :
    (∃ aa, tk_r c q = ((tk_r c p).1 + 1, ed_fu (tk_r c p).2.1 (tk_r c p).1 (tk_kb (c p)), ed_fu (tk_r c p).2.2.1 (tk_r c p).1 p, ed_fu (tk_r c p).2.2.2.1 (tk_r c p).1 q, aa)) ∧ (q < n → tk_co c q (tk_r c q) = none) := by
  obtain ⟨aa, h1, h2⟩ := tk_run rfl h18 hco hk (q - (p + 1)) (fun j a b => hj j a (by omega))
  rw [show p + 1 + (q - (p + 1)) = q from by omega] at h1 h2
  refine ⟨⟨aa, h1⟩, fun hq => ?_⟩
  rw [tk_co_i (by rw [h1]; exact h2), if_neg]
  rw [h1]; dsimp only; rw [ed_fs]; exact hn hq
theorem tk_af2 {c : Nat → Nat} {p : Nat} (h18 : ¬ c p = 18) (hco : tk_co c p (tk_r c p) = none) (hk : 2 ≤ tk_kb (c p)) {n : Nat} (hd : tk_kb (c p) = 2 → p + 1 < n → ¬ c (p + 1) = 10) :
    (∃ aa, tk_r c (p + 1) = ((tk_r c p).1 + 1, ed_fu (tk_r c p).2.1 (tk_r c p).1 (tk_kb (c p)), ed_fu (tk_r c p).2.2.1 (tk_r c p).1 p, ed_fu (tk_r c p).2.2.2.1 (tk_r c p).1 (p + 1), aa)) ∧ (p + 1 < n → tk_co c (p + 1) (tk_r c (p + 1)) = none) := by
  have h1 : tk_r c (p + 1) = _ := tk_bg h18 hco
  refine ⟨⟨_, h1⟩, fun hq => ?_⟩
  have hv : tk_pv (tk_r c (p + 1)).2.2.2.2 (p + 1) = some (tk_r c p).1 := by rw [h1]; exact ed_fs
  refine tk_co_0 hv ?_
  rw [h1]; dsimp only; rw [ed_fs]
  by_cases e : tk_kb (c p) = 2
  · have := hd e hq; omega
  · omega
theorem tk_af3 {c : Nat → Nat} {p : Nat} (hp : c p = 10) (hp1 : c (p + 1) = 10) (hco : tk_co c p (tk_r c p) = none) :
    (∃ aa, tk_r c (p + 2) = ((tk_r c p).1 + 1, ed_fu (tk_r c p).2.1 (tk_r c p).1 3, ed_fu (tk_r c p).2.2.1 (tk_r c p).1 p, ed_fu (tk_r c p).2.2.2.1 (tk_r c p).1 (p + 2), aa)) ∧ tk_co c (p + 2) (tk_r c (p + 2)) = none := by
  have hb : tk_kb (c p) = 2 := by rw [hp]; rfl
  have h1 : tk_r c (p + 1) = _ := tk_bg (by omega) hco
  have hv : tk_pv (tk_r c (p + 1)).2.2.2.2 (p + 1) = some (tk_r c p).1 := by rw [h1]; exact ed_fs
  have hco2 : tk_co c (p + 1) (tk_r c (p + 1)) = some (tk_r c p).1 := by
    refine tk_co_1 hv ?_
    rw [h1]; dsimp only; rw [ed_fs]; omega
  have h2 : tk_r c (p + 2) = _ := tk_cn (c := c) (p := p + 1) (s := tk_r c (p + 1)) (by omega) hco2
  have hk : (tk_r c (p + 1)).2.1 (tk_r c p).1 = 2 := by rw [h1]; dsimp only; rw [ed_fs, hb]
  rw [if_pos hk, h1] at h2
  dsimp only at h2
  rw [ed_ff, ed_ff] at h2
  refine ⟨⟨_, h2⟩, ?_⟩
  have hv2 : tk_pv (tk_r c (p + 2)).2.2.2.2 (p + 2) = some (tk_r c p).1 := by rw [h2]; exact ed_fs
  refine tk_co_0 hv2 ?_
  rw [h2]; dsimp only; rw [ed_fs]; omega
def yt_k (c : Nat → Nat) (n p : Nat) : Nat := if c p = 10 ∧ p + 1 < n ∧ c (p + 1) = 10 then 3 else tk_kb (c p)
end
section
/-! Y reads the tokens -/
variable {f_length f_tokenCount f_itemCount f_blockCount f_looseCount f_numberCount f_operatorCount : Int32} {a_text a_kinds a_starts a_ends a_owners a_meant a_firsts a_lasts a_sorts a_blocks a_knowns a_values a_around a_depths a_compared a_numbers a_operators : Nat → Int32}
theorem yt_isAt {post : Int32 → Prop} {c : Nat → Nat} {n p lo hi : Nat} (hn : n ≤ 80) (hp : p ≤ 100) (hT : ed_ag a_text c n) (hc : ∀ j, j < n → c j ≤ 18) (hlo : lo < 100) (hhi : hi < 100) (h1 : p < n → lo ≤ c p → c p ≤ hi → post 1) (h0 : (p < n → lo ≤ c p → ¬ c p ≤ hi) → post 0) :
    wpY_isAt post (nI n, f_tokenCount, f_itemCount, f_blockCount, f_looseCount, f_numberCount, f_operatorCount, a_text, a_kinds, a_starts, a_ends, a_owners, a_meant, a_firsts, a_lasts, a_sorts, a_blocks, a_knowns, a_values, a_around, a_depths, a_compared, a_numbers, a_operators) (nI p) (nI lo) (nI hi) := by
  refine pk_le n p (fun h => h0 (by intro; omega)) (fun h => ?_)
  have := hc p h
  refine ⟨pk_in p 81 (by omega), pk_lt (c p) lo (fun h2 => h0 (by intros; omega)) (fun h2 => ⟨pk_in p 81 (by omega), pk_lt hi (c p) (fun h3 => h0 (by intros; omega)) (fun h3 => h1 h h2 h3) rfl (ed_rt p (hT p h))⟩) (ed_rt p (hT p h))⟩
theorem yt_kindAt {post : Int32 → Prop} {c : Nat → Nat} {n p : Nat} (hn : n ≤ 80) (hp : p < n) (hT : ed_ag a_text c n) (hc : ∀ j, j < n → c j ≤ 18) (h : post (nI (yt_k c n p))) :
    wpY_kindAt post (nI n, f_tokenCount, f_itemCount, f_blockCount, f_looseCount, f_numberCount, f_operatorCount, a_text, a_kinds, a_starts, a_ends, a_owners, a_meant, a_firsts, a_lasts, a_sorts, a_blocks, a_knowns, a_values, a_around, a_depths, a_compared, a_numbers, a_operators) (nI p) := by
  have hcp := hc p hp
  refine ⟨pk_in p 81 (by omega), ed_rd p (hT p hp) ?_⟩
  refine pk_le 10 (c p) (fun h10 => pk_eq (c p) 10 (fun e => ?_) (fun e => ?_)) (fun h10 => pk_le 5 (c p) (fun h5 => ?_) (fun h5 => ?_))
  · rw [nI_1 p]
    refine yt_isAt (lo := 10) (hi := 10) hn (by omega) hT hc (by omega) (by omega) (fun a b d => ?_) (fun a => ?_)
    · refine br_f (by decide) ?_
      have : yt_k c n p = 3 := by unfold yt_k; rw [if_pos ⟨e, a, by omega⟩]
      rw [this] at h; exact h
    · refine br_t rfl ?_
      have : yt_k c n p = 2 := by
        unfold yt_k; rw [if_neg (by rintro ⟨x, y, z⟩; have := a y (by omega); omega)]
        unfold tk_kb; rw [if_neg (by omega), if_neg (by omega), if_pos e]
      rw [this] at h; exact h
  · have e2 : yt_k c n p = c p - 7 := by
      unfold yt_k; rw [if_neg (by omega)]
      unfold tk_kb; rw [if_neg (by omega), if_neg (by omega), if_neg e]
    have e3 : nI (c p) - 7 = nI (c p - 7) := by rw [show (7 : Int32) = nI 7 from rfl, pk_sub (by omega)]
    rw [e2] at h; rw [e3]; exact h
  · have e2 : yt_k c n p = 1 := by
      unfold yt_k; rw [if_neg (by omega)]
      unfold tk_kb; rw [if_neg (by omega), if_pos (by omega)]
    rw [e2] at h; exact h
  · have e2 : yt_k c n p = 0 := by
      unfold yt_k; rw [if_neg (by omega)]
      unfold tk_kb; rw [if_pos (by omega)]
    rw [e2] at h; exact h
theorem yt_end {post : SY → Prop} {J7 : Int32 → Int32 → (Nat → Int32) → (Nat → Int32) → (Nat → Int32) → (Nat → Int32) → (Nat → Int32) → (Nat → Int32) → (Nat → Int32) → (Nat → Int32) → (Nat → Int32) → (Nat → Int32) → (Nat → Int32) → (Nat → Int32) → (Nat → Int32) → (Nat → Int32) → (Nat → Int32) → (Nat → Int32) → (Nat → Int32) → Prop} {m q : Nat} (hm : m < 80)
    (h : J7 (nI q) (nI (m + 1)) a_text a_kinds a_starts (upd a_ends m (nI q)) (upd a_owners m (-3)) (upd a_meant m (-3)) a_firsts a_lasts a_sorts a_blocks a_knowns a_values a_around a_depths a_compared a_numbers a_operators) : (wY_readTokens_103 post J7 (nI q) f_length (nI m) f_itemCount f_blockCount f_looseCount f_numberCount f_operatorCount a_text a_kinds a_starts a_ends a_owners a_meant a_firsts a_lasts a_sorts a_blocks a_knowns a_values a_around a_depths a_compared a_numbers a_operators) :=
  ⟨pk_in m 80 hm, ed_nu m ⟨pk_in m 80 hm, ed_nu m ⟨pk_in m 80 hm, ed_nu m (nm_r (nI_1 m) h)⟩⟩⟩
theorem yt_in {post : SY → Prop} {J7 : Int32 → Int32 → (Nat → Int32) → (Nat → Int32) → (Nat → Int32) → (Nat → Int32) → (Nat → Int32) → (Nat → Int32) → (Nat → Int32) → (Nat → Int32) → (Nat → Int32) → (Nat → Int32) → (Nat → Int32) → (Nat → Int32) → (Nat → Int32) → (Nat → Int32) → (Nat → Int32) → (Nat → Int32) → (Nat → Int32) → Prop} {c : Nat → Nat} {n m κ : Nat} (hn : n ≤ 80) (hm : m < 80) (hT : ed_ag a_text c n) (hc : ∀ j, j < n → c j ≤ 18) (hκ : κ ≤ 1) :
    ∀ d q, q + d = n → ∀ f, d < f → (∀ q', q ≤ q' → q' ≤ n → (∀ j, q ≤ j → j < q' → tk_ck κ (c j) = true) → (q' < n → ¬ tk_ck κ (c q') = true) → J7 (nI q') (nI (m + 1)) a_text a_kinds a_starts (upd a_ends m (nI q')) (upd a_owners m (-3)) (upd a_meant m (-3)) a_firsts a_lasts a_sorts a_blocks a_knowns a_values a_around a_depths a_compared a_numbers a_operators) →
      (wY_readTokens_73 post J7 (nI κ) (nI n) (nI m) f_itemCount f_blockCount f_looseCount f_numberCount f_operatorCount a_text a_kinds a_starts a_ends a_owners a_meant a_firsts a_lasts a_sorts a_blocks a_knowns a_values a_around a_depths a_compared a_numbers a_operators f (nI q)) := by
  intro d
  induction d with
  | zero =>
    intro q hq f hf hJ
    obtain ⟨f, rfl⟩ : ∃ g, f = g + 1 := ⟨f - 1, by omega⟩
    have hE : (wY_readTokens_103 post J7 (nI q) (nI n) (nI m) f_itemCount f_blockCount f_looseCount f_numberCount f_operatorCount a_text a_kinds a_starts a_ends a_owners a_meant a_firsts a_lasts a_sorts a_blocks a_knowns a_values a_around a_depths a_compared a_numbers a_operators) := yt_end hm (hJ q (Nat.le_refl _) (by omega) (fun j a b => by omega) (fun a => by omega))
    refine br_f (nI_ge (b := 2) (by omega) (by decide)) (pk_eq κ 0 (fun e => ?_) (fun e => ?_))
    · exact yt_isAt (lo := 0) (hi := 9) hn (by omega) hT hc (by omega) (by omega) (fun a => by omega) (fun _ => br_t rfl hE)
    · exact yt_isAt (lo := 5) (hi := 9) hn (by omega) hT hc (by omega) (by omega) (fun a => by omega) (fun _ => br_t rfl hE)
  | succ d ih =>
    intro q hq f hf hJ
    obtain ⟨f, rfl⟩ : ∃ g, f = g + 1 := ⟨f - 1, by omega⟩
    have hstop : ¬ tk_ck κ (c q) = true → (wY_readTokens_103 post J7 (nI q) (nI n) (nI m) f_itemCount f_blockCount f_looseCount f_numberCount f_operatorCount a_text a_kinds a_starts a_ends a_owners a_meant a_firsts a_lasts a_sorts a_blocks a_knowns a_values a_around a_depths a_compared a_numbers a_operators) := fun z => yt_end hm (hJ q (Nat.le_refl _) (by omega) (fun j a b => by omega) (fun _ => z))
    have hgo : tk_ck κ (c q) = true → (wY_readTokens_73 post J7 (nI κ) (nI n) (nI m) f_itemCount f_blockCount f_looseCount f_numberCount f_operatorCount a_text a_kinds a_starts a_ends a_owners a_meant a_firsts a_lasts a_sorts a_blocks a_knowns a_values a_around a_depths a_compared a_numbers a_operators f (nI (q + 1))) := fun z => ih (q + 1) (by omega) f (by omega) (fun q' a b e1 e2 => hJ q' (by omega) b (fun j a1 b1 => by
      by_cases e : j = q
      · rw [e]; exact z
      · exact e1 j (by omega) b1) e2)
    refine br_f (nI_ge (b := 2) (by omega) (by decide)) (pk_eq κ 0 (fun e => ?_) (fun e => ?_))
    · refine yt_isAt (lo := 0) (hi := 9) hn (by omega) hT hc (by omega) (by omega) (fun _ a b => br_f (by decide) (nm_r (nI_1 q) (hgo (tk_ckP.mpr (by omega))))) (fun a => br_t rfl (hstop (fun z => ?_)))
      have := tk_ckP.mp z
      have := a (by omega) (by omega)
      omega
    · refine yt_isAt (lo := 5) (hi := 9) hn (by omega) hT hc (by omega) (by omega) (fun _ a b => br_f (by decide) (nm_r (nI_1 q) (hgo (tk_ckP.mpr (by omega))))) (fun a => br_t rfl (hstop (fun z => ?_)))
      have := tk_ckP.mp z
      have := a (by omega)
      omega
theorem yt_loop {post : SY → Prop} {c : Nat → Nat} {n : Nat} (hn : n ≤ 80) (hc : ∀ j, j < n → c j ≤ 18) (hT : ed_ag a_text c n)
    (hP : ∀ (a_kinds a_starts a_ends a_owners a_meant : Nat → Int32), ed_ag a_kinds (tk_r c n).2.1 (tk_r c n).1 → ed_ag a_starts (tk_r c n).2.2.1 (tk_r c n).1 → ed_ag a_ends (tk_r c n).2.2.2.1 (tk_r c n).1 → (∀ t, t < (tk_r c n).1 → a_owners t = -3) → (∀ t, t < (tk_r c n).1 → a_meant t = -3) → post (nI n, nI (tk_r c n).1, f_itemCount, f_blockCount, f_looseCount, f_numberCount, f_operatorCount, a_text, a_kinds, a_starts, a_ends, a_owners, a_meant, a_firsts, a_lasts, a_sorts, a_blocks, a_knowns, a_values, a_around, a_depths, a_compared, a_numbers, a_operators)) :
    ∀ d p, n - p ≤ d → p ≤ n → (p < n → tk_co c p (tk_r c p) = none) → ∀ f, d < f → ∀ (a_kinds a_starts a_ends a_owners a_meant : Nat → Int32), ed_ag a_kinds (tk_r c p).2.1 (tk_r c p).1 → ed_ag a_starts (tk_r c p).2.2.1 (tk_r c p).1 → ed_ag a_ends (tk_r c p).2.2.2.1 (tk_r c p).1 → (∀ t, t < (tk_r c p).1 → a_owners t = -3) → (∀ t, t < (tk_r c p).1 → a_meant t = -3) →
      (wY_readTokens_7 post (nI n) f_itemCount f_blockCount f_looseCount f_numberCount f_operatorCount f (nI p) (nI (tk_r c p).1) a_text a_kinds a_starts a_ends a_owners a_meant a_firsts a_lasts a_sorts a_blocks a_knowns a_values a_around a_depths a_compared a_numbers a_operators) := by
  intro d
  induction d with
  | zero =>
    intro p hd hp hco f hf K S E O M h1 h2 h3 h4 h5
    obtain ⟨f, rfl⟩ : ∃ g, f = g + 1 := ⟨f - 1, by omega⟩
    have e : p = n := by omega
    subst e
    exact br_t (nI_le (Nat.le_refl _) (by omega)) (hP K S E O M h1 h2 h3 h4 h5)
  | succ d ih =>
    intro p hd hp hco f hf K S E O M h1 h2 h3 h4 h5
    obtain ⟨f, rfl⟩ : ∃ g, f = g + 1 := ⟨f - 1, by omega⟩
    by_cases hpn : p = n
    · subst hpn
      exact br_t (nI_le (Nat.le_refl _) (by omega)) (hP K S E O M h1 h2 h3 h4 h5)
    · have hp2 : p < n := by omega
      have hco := hco hp2
      have hcp := hc p hp2
      have hI := tk_Ir hc p hp
      have hm : (tk_r c p).1 ≤ p := hI.1
      have hr : tk_r c (p + 1) = tk_step c p (tk_r c p) := rfl
      refine br_f (nI_ge (by omega) (by omega)) ⟨pk_in p 81 (by omega), pk_eq (c p) 18 (fun h18 => ?_) (fun h18 => ?_) (ed_rt p (hT p hp2))⟩
      · refine nm_r (nI_1 p) ?_
        have ih := ih (p + 1) (by omega) (by omega) (fun _ => tk_co_n (by rw [hr, tk_sp h18]; exact ed_fs)) f (by omega)
        rw [hr, tk_sp h18] at ih
        exact ih K S E O M h1 h2 h3 h4 h5
      · have hu3 : ∀ (a : Nat → Int32), (∀ t, t < (tk_r c p).1 → a t = -3) → ∀ t, t < (tk_r c p).1 + 1 → upd a (tk_r c p).1 (-3) t = -3 := by
          intro a ha t ht
          by_cases z : t = (tk_r c p).1
          · rw [z, pk_us]
          · rw [pk_un z]; exact ha t (by omega)
        have hnext : ∀ q κ, p < q → q ≤ n → (∃ aa, tk_r c q = ((tk_r c p).1 + 1, ed_fu (tk_r c p).2.1 (tk_r c p).1 κ, ed_fu (tk_r c p).2.2.1 (tk_r c p).1 p, ed_fu (tk_r c p).2.2.2.1 (tk_r c p).1 q, aa)) → (q < n → tk_co c q (tk_r c q) = none) →
            (wY_readTokens_7 post (nI n) f_itemCount f_blockCount f_looseCount f_numberCount f_operatorCount f (nI q) (nI ((tk_r c p).1 + 1)) a_text (upd K (tk_r c p).1 (nI κ)) (upd S (tk_r c p).1 (nI p)) (upd E (tk_r c p).1 (nI q)) (upd O (tk_r c p).1 (-3)) (upd M (tk_r c p).1 (-3)) a_firsts a_lasts a_sorts a_blocks a_knowns a_values a_around a_depths a_compared a_numbers a_operators) := by
          intro q κ hq hqn hx hco2
          obtain ⟨aa, hx⟩ := hx
          have ih := ih q (by omega) hqn hco2 f (by omega)
          rw [hx] at ih
          exact ih _ _ _ _ _ (ed_ag_s h1) (ed_ag_s h2) (ed_ag_s h3) (hu3 O h4) (hu3 M h5)
        refine yt_kindAt hn hp2 hT hc ?_
        refine ⟨pk_in (tk_r c p).1 80 (by omega), ed_nu (tk_r c p).1 ⟨pk_in (tk_r c p).1 80 (by omega), ed_nu (tk_r c p).1 ?_⟩⟩
        have hkb : tk_kb (c p) ≤ 10 := tk_kb_le hcp h18
        by_cases hdb : c p = 10 ∧ p + 1 < n ∧ c (p + 1) = 10
        · have e : yt_k c n p = 3 := by unfold yt_k; rw [if_pos hdb]
          rw [e]
          refine br_t rfl (nm_r (show nI p + 2 = nI (p + 2) from nI_add p 2) ⟨1, ?_⟩)
          refine br_t (by decide) ?_
          obtain ⟨a1, a2⟩ := tk_af3 hdb.1 hdb.2.2 hco
          exact yt_end (by omega) (hnext (p + 2) 3 (by omega) (by omega) a1 (fun _ => a2))
        · have e : yt_k c n p = tk_kb (c p) := by unfold yt_k; rw [if_neg hdb]
          have hn3 : tk_kb (c p) ≠ 3 := by
            unfold tk_kb
            split
            · omega
            · split
              · omega
              · split <;> omega
          rw [e]
          refine br_f (fun z => hn3 ((nI_eq (b := 3) (by omega) (by omega)).mp z)) (nm_r (nI_1 p) ⟨n + 2, ?_⟩)
          by_cases hk : tk_kb (c p) ≤ 1
          · refine yt_in hn (by omega) hT hc hk (n - (p + 1)) (p + 1) (by omega) (n + 2) (by omega) (fun q' g1 g2 g3 g4 => ?_)
            obtain ⟨a1, a2⟩ := tk_af1 h18 hco hk g1 g3 g4
            exact hnext q' _ (by omega) g2 a1 a2
          · refine br_t (nI_le (a := 2) (by omega) (by omega)) ?_
            obtain ⟨a1, a2⟩ := tk_af2 (n := n) h18 hco (by omega) (fun h2 h3 h4 => hdb ⟨by
              unfold tk_kb at h2
              split at h2
              · omega
              · split at h2
                · omega
                · split at h2 <;> omega, h3, h4⟩)
            exact yt_end (by omega) (hnext (p + 1) _ (by omega) (by omega) a1 a2)
theorem yt_read {post : SY → Prop} {c : Nat → Nat} {n : Nat} (hn : n ≤ 80) (hc : ∀ j, j < n → c j ≤ 18) (hT : ed_ag a_text c n)
    (hP : ∀ (a_kinds a_starts a_ends a_owners a_meant : Nat → Int32), ed_ag a_kinds (tk_r c n).2.1 (tk_r c n).1 → ed_ag a_starts (tk_r c n).2.2.1 (tk_r c n).1 → ed_ag a_ends (tk_r c n).2.2.2.1 (tk_r c n).1 → (∀ t, t < (tk_r c n).1 → a_owners t = -3) → (∀ t, t < (tk_r c n).1 → a_meant t = -3) → post (nI n, nI (tk_r c n).1, f_itemCount, f_blockCount, f_looseCount, f_numberCount, f_operatorCount, a_text, a_kinds, a_starts, a_ends, a_owners, a_meant, a_firsts, a_lasts, a_sorts, a_blocks, a_knowns, a_values, a_around, a_depths, a_compared, a_numbers, a_operators)) :
    wpY_readTokens post (nI n, f_tokenCount, f_itemCount, f_blockCount, f_looseCount, f_numberCount, f_operatorCount, a_text, a_kinds, a_starts, a_ends, a_owners, a_meant, a_firsts, a_lasts, a_sorts, a_blocks, a_knowns, a_values, a_around, a_depths, a_compared, a_numbers, a_operators) := by
  refine ⟨n + 1, ?_⟩
  exact yt_loop hn hc hT hP n 0 (by omega) (by omega) (fun _ => rfl) (n + 1) (by omega) _ _ _ _ _ (fun j hj => absurd hj (Nat.not_lt_zero _)) (fun j hj => absurd hj (Nat.not_lt_zero _)) (fun j hj => absurd hj (Nat.not_lt_zero _)) (fun j hj => absurd hj (Nat.not_lt_zero _)) (fun j hj => absurd hj (Nat.not_lt_zero _))
end
