section
/-! Y reads the items -/
def yi_G (k : Nat → Nat) (cn nb lo : Nat) (bs : List Nat) (fi ie : Nat → Nat) (ik : Nat → List Nat) (f_itemCount f_blockCount f_looseCount : Int32) (a_firsts a_lasts a_sorts a_blocks a_around a_depths : Nat → Int32) : Prop :=
  f_itemCount = nI cn ∧ f_blockCount = nI nb ∧ f_looseCount = nI lo
  ∧ ed_ag a_firsts fi cn ∧ ed_ag a_lasts ie cn ∧ ed_ag a_sorts (fun i => ex_so k (fi i) (ie i)) cn
  ∧ (∀ i, i < cn → a_blocks i = yc_h (ik i)) ∧ (∀ i, i < cn → yc_I a_around a_depths (ik i)) ∧ yc_I a_around a_depths bs
def yi_O (k : Nat → Nat) (T B : Nat) (a : Nat → Int32) : Prop := (∀ j, j < B → j < T → a j = ed_oI (it_ow k j)) ∧ (∀ j, B ≤ j → j < T → a j = -3)
variable {f_length f_tokenCount f_itemCount f_blockCount f_looseCount f_numberCount f_operatorCount : Int32} {a_text a_kinds a_starts a_ends a_owners a_meant a_firsts a_lasts a_sorts a_blocks a_knowns a_values a_around a_depths a_compared a_numbers a_operators : Nat → Int32}
theorem yi_addG {post : SY → Prop} {k : Nat → Nat} {T t lo : Nat} {o : Int32} (ht : t ≤ T) (hT : T ≤ 80) (hk : ed_ag a_kinds k T) (hkk : ∀ t, t < T + 1 → k t < 100) (h8 : ¬ k t < 8) (hlt : it_fr k t < t) (ho : o = yc_h (it_bs k t))
    (hG : yi_G k (it_cn k t) (it_nb k t) lo (it_bs k t) (it_fi k t) (it_ie k t) (it_ik k t) f_itemCount f_blockCount f_looseCount a_firsts a_lasts a_sorts a_blocks a_around a_depths) (hO : yi_O k T (it_fr k t) a_owners)
    (h : ∀ (f_itemCount : Int32) (a_owners a_firsts a_lasts a_sorts a_blocks a_compared : Nat → Int32), yi_G k (it_cn k (t + 1)) (it_nb k t) lo (it_bs k t) (it_fi k (t + 1)) (it_ie k (t + 1)) (it_ik k (t + 1)) f_itemCount f_blockCount f_looseCount a_firsts a_lasts a_sorts a_blocks a_around a_depths → yi_O k T (t + 1) a_owners → post (f_length, f_tokenCount, f_itemCount, f_blockCount, f_looseCount, f_numberCount, f_operatorCount, a_text, a_kinds, a_starts, a_ends, a_owners, a_meant, a_firsts, a_lasts, a_sorts, a_blocks, a_knowns, a_values, a_around, a_depths, a_compared, a_numbers, a_operators)) :
    wpY_addItem post (f_length, f_tokenCount, f_itemCount, f_blockCount, f_looseCount, f_numberCount, f_operatorCount, a_text, a_kinds, a_starts, a_ends, a_owners, a_meant, a_firsts, a_lasts, a_sorts, a_blocks, a_knowns, a_values, a_around, a_depths, a_compared, a_numbers, a_operators) (nI (it_fr k t)) (nI t) (nI (k t)) o := by
  obtain ⟨rfl, rfl, rfl, g4, g5, g6, g7, g8, g9⟩ := hG
  obtain ⟨i1, i2, i3, i4, i5, i6⟩ := it_Ip k t
  subst ho
  refine ye_add hT ht hlt (by omega) hk (fun t ht => hkk t (by omega)) (hkk t (by omega)) (fun LC OW w1 w2 w3 => h _ _ _ _ _ _ _ ?_ ?_)
  · unfold it_fi it_ie it_ik
    rw [it_cn_c h8 hlt, it_tb_c h8 hlt, it_tb_c h8 hlt, it_tb_c h8 hlt]
    refine ⟨rfl, rfl, rfl, ed_ag_s g4, ed_ag_s g5, ?_, ?_, ?_, g9⟩
    · intro j hj
      by_cases z : j = it_cn k t
      · subst z; rw [pk_us]; dsimp only; rw [ed_fs, ed_fs]
      · rw [pk_un z]; dsimp only; rw [ed_fn z, ed_fn z]; exact g6 j (by omega)
    · intro j hj
      by_cases z : j = it_cn k t
      · subst z; rw [pk_us, ed_fs]
      · rw [pk_un z, ed_fn z]; exact g7 j (by omega)
    · intro j hj
      by_cases z : j = it_cn k t
      · subst z; rw [ed_fs]; exact g9
      · rw [ed_fn z]; exact g8 j (by omega)
  · refine ⟨fun j hj hjT => ?_, fun j hj hjT => ?_⟩
    · by_cases z : j < it_fr k t
      · rw [w1 j z]; exact hO.1 j z hjT
      · by_cases z2 : j < t
        · obtain ⟨q1, q2⟩ := i3 j (by omega) z2
          rw [w2 j (by omega) z2]; unfold it_ow; rw [if_pos q1, q2]; rfl
        · have e : j = t := by omega
          subst e
          rw [w3 j (Nat.le_refl _), hO.2 j (by omega) hjT]; unfold it_ow; rw [if_neg h8]; rfl
    · rw [w3 j (by omega)]; exact hO.2 j (by omega) hjT
theorem yi_blk {post : SY → Prop} {J21 : Int32 → Int32 → Int32 → Int32 → Int32 → Int32 → Int32 → Int32 → Int32 → Int32 → (Nat → Int32) → (Nat → Int32) → (Nat → Int32) → (Nat → Int32) → (Nat → Int32) → (Nat → Int32) → (Nat → Int32) → (Nat → Int32) → (Nat → Int32) → (Nat → Int32) → (Nat → Int32) → (Nat → Int32) → (Nat → Int32) → (Nat → Int32) → (Nat → Int32) → (Nat → Int32) → (Nat → Int32) → Prop}
    {k : Nat → Nat} {T t : Nat} (ht : t ≤ T) (hT : T ≤ 80) (h11 : k T = 11) (hkt : k t < 100) (h8 : ¬ k t < 8)
    (hG : yi_G k (it_cn k (t + 1)) (it_nb k t) (it_lo k t) (it_bs k t) (it_fi k (t + 1)) (it_ie k (t + 1)) (it_ik k (t + 1)) f_itemCount f_blockCount f_looseCount a_firsts a_lasts a_sorts a_blocks a_around a_depths)
    (h : ∀ (f_blockCount f_looseCount : Int32) (a_around a_depths : Nat → Int32), yi_G k (it_cn k (t + 1)) (it_nb k (t + 1)) (it_lo k (t + 1)) (it_bs k (t + 1)) (it_fi k (t + 1)) (it_ie k (t + 1)) (it_ik k (t + 1)) f_itemCount f_blockCount f_looseCount a_firsts a_lasts a_sorts a_blocks a_around a_depths → J21 (yc_h (it_bs k (t + 1))) (nI (t + 1)) (nI (t + 1)) f_length f_tokenCount f_itemCount f_blockCount f_looseCount f_numberCount f_operatorCount a_text a_kinds a_starts a_ends a_owners a_meant a_firsts a_lasts a_sorts a_blocks a_knowns a_values a_around a_depths a_compared a_numbers a_operators) :
    (wY_readItems_71 post J21 (yc_h (it_bs k t)) (nI t) (nI (k t)) f_length f_tokenCount f_itemCount f_blockCount f_looseCount f_numberCount f_operatorCount a_text a_kinds a_starts a_ends a_owners a_meant a_firsts a_lasts a_sorts a_blocks a_knowns a_values a_around a_depths a_compared a_numbers a_operators) := by
  obtain ⟨rfl, rfl, rfl, g4, g5, g6, g7, g8, g9⟩ := hG
  obtain ⟨b1, b2, b3, b4⟩ := it_Bp k t
  obtain ⟨d1, d2⟩ := it_D k t
  have c2 := (it_Cp k (t + 1)).2.1
  refine nm_r (nI_1 t) (pk_eq (k t) 9 (fun h9 => ?_) (fun h9 => pk_eq (k t) 10 (fun h10 => ?_) (fun h10 => ?_)))
  · have htT : t ≠ T := fun z => by rw [z] at h9; omega
    have hfin : ∀ z0 : Int32, z0 = nI ((it_bs k t).length + 1) → (wY_readItems_116 post J21 (nI (t + 1)) (nI t) z0 (nI (it_nb k t)) f_length f_tokenCount (nI (it_cn k (t + 1))) (nI (it_nb k t)) (nI (it_lo k t)) f_numberCount f_operatorCount a_text a_kinds a_starts a_ends a_owners a_meant a_firsts a_lasts a_sorts a_blocks a_knowns a_values (upd a_around (it_nb k t) (yc_h (it_bs k t))) a_depths a_compared a_numbers a_operators) := by
      intro z0 hz
      subst hz
      refine ⟨pk_in (it_nb k t) 80 (by omega), ed_nu (it_nb k t) (nm_r (nI_1 _) (nm_r (nI_1 t) ?_))⟩
      have h := h (nI (it_nb k t + 1)) (nI (it_lo k t)) (upd a_around (it_nb k t) (yc_h (it_bs k t))) (upd a_depths (it_nb k t) (nI ((it_bs k t).length + 1)))
      rw [it_nb_9 h9, it_bs_9 h9, it_lo_n (by omega)] at h
      refine h ⟨rfl, rfl, rfl, g4, g5, g6, g7, ?_, ?_⟩
      · intro i hi
        refine yc_u (fun b hb => ?_) (g8 i hi)
        have := c2 i hi b hb
        have := d1 i hi
        omega
      · exact ⟨by omega, pk_us, pk_us, yc_u (fun b hb => (b3 b hb).2) g9⟩
    refine ⟨pk_in (it_nb k t) 80 (by omega), ed_nu (it_nb k t) ?_⟩
    cases hb : it_bs k t with
    | nil =>
      rw [hb] at hfin
      exact br_f (by rw [show yc_h [] = (-1 : Int32) from rfl]; decide) (hfin 1 rfl)
    | cons b r =>
      have hbm := b3 b (by rw [hb]; exact List.mem_cons_self)
      rw [hb] at hfin g9
      have e1 : a_depths (nI (b - 1)).toNatClampNeg = nI (r.length + 1) := ed_rt (b - 1) g9.2.2.1
      refine br_t (show (0 : Int32) ≤ nI (b - 1) from nI_pos' (by omega)) ⟨pk_in (b - 1) 80 (by omega), ?_⟩
      refine hfin _ ?_
      show a_depths (nI (b - 1)).toNatClampNeg + 1 = _
      rw [e1, nI_1]; rfl
  · cases hb : it_bs k t with
    | nil =>
      have hn : ¬ (0 : Int32) ≤ -1 := by decide
      refine br_f hn (br_f hn (nm_r (nI_1 t) ?_))
      have h := h (nI (it_nb k t)) (nI (it_lo k t + 1)) a_around a_depths
      rw [it_nb_n h9, it_bs_10 h10, it_lo_p h10 hb, hb] at h
      rw [nI_1]
      exact h ⟨rfl, rfl, rfl, g4, g5, g6, g7, g8, trivial⟩
    | cons b r =>
      have hbm := b3 b (by rw [hb]; exact List.mem_cons_self)
      have hp : (0 : Int32) ≤ nI (b - 1) := nI_pos' (by omega)
      rw [hb] at g9
      refine br_t hp (br_t hp ⟨pk_in (b - 1) 80 (by omega), ed_rd (b - 1) g9.2.1 (nm_r (nI_1 t) ?_)⟩)
      have h := h (nI (it_nb k t)) (nI (it_lo k t)) a_around a_depths
      rw [it_nb_n h9, it_bs_10 h10, it_lo_n (by rintro ⟨_, z⟩; rw [hb] at z; cases z), hb] at h
      exact h ⟨rfl, rfl, rfl, g4, g5, g6, g7, g8, g9.2.2.2⟩
  · have h := h (nI (it_nb k t)) (nI (it_lo k t)) a_around a_depths
    rw [it_nb_n h9, it_bs_n h9 h10, it_lo_n (by omega)] at h
    exact nm_r (nI_1 t) (h ⟨rfl, rfl, rfl, g4, g5, g6, g7, g8, g9⟩)
theorem yi_loop {post : SY → Prop} {k : Nat → Nat} {T : Nat} (hT : T ≤ 80) (hk : ed_ag a_kinds k T) (hkk : ∀ t, t < T + 1 → k t < 100) (h11 : k T = 11)
    (hP : ∀ (f_blockCount f_looseCount' : Int32) (a_owners a_firsts a_lasts a_sorts a_blocks a_around a_depths a_compared : Nat → Int32), ed_ao a_owners (it_ow k) T → yi_G k (it_cn k (T + 1)) (it_nb k (T + 1)) (it_lo k (T + 1)) (it_bs k (T + 1)) (it_fi k (T + 1)) (it_ie k (T + 1)) (it_ik k (T + 1)) (nI (it_cn k (T + 1))) f_blockCount f_looseCount' a_firsts a_lasts a_sorts a_blocks a_around a_depths →
      post (f_length, nI T, nI (it_cn k (T + 1)), f_blockCount, nI (it_lo k (T + 1) + (it_bs k (T + 1)).length), f_numberCount, f_operatorCount, a_text, a_kinds, a_starts, a_ends, a_owners, a_meant, a_firsts, a_lasts, a_sorts, a_blocks, a_knowns, a_values, a_around, a_depths, a_compared, a_numbers, a_operators)) :
    ∀ d t, t + d = T + 1 → ∀ f, d < f → ∀ (f_itemCount f_blockCount f_looseCount : Int32) (a_owners a_firsts a_lasts a_sorts a_blocks a_around a_depths a_compared : Nat → Int32),
      yi_G k (it_cn k t) (it_nb k t) (it_lo k t) (it_bs k t) (it_fi k t) (it_ie k t) (it_ik k t) f_itemCount f_blockCount f_looseCount a_firsts a_lasts a_sorts a_blocks a_around a_depths → yi_O k T (it_fr k t) a_owners →
      (wY_readItems_21 post f (yc_h (it_bs k t)) (nI (it_fr k t)) (nI t) f_length (nI T) f_itemCount f_blockCount f_looseCount f_numberCount f_operatorCount a_text a_kinds a_starts a_ends a_owners a_meant a_firsts a_lasts a_sorts a_blocks a_knowns a_values a_around a_depths a_compared a_numbers a_operators) := by
  intro d
  induction d with
  | zero =>
    intro t ht f hf IC BC LC OW FI LA SO BL AR DE CO hG hO
    obtain ⟨f, rfl⟩ : ∃ g, f = g + 1 := ⟨f - 1, by omega⟩
    have e : t = T + 1 := by omega
    subst e
    have hfr : it_fr k (T + 1) = T + 1 := it_fr_b (by omega)
    have hbp := it_Bp k (T + 1)
    have hO2 : ed_ao OW (it_ow k) T := fun j hj => hO.1 j (by omega) hj
    have hG2 := hG
    obtain ⟨rfl, rfl, rfl, g4, g5, g6, g7, g8, g9⟩ := hG
    refine br_t (nI_lt (by omega) (by omega)) ?_
    cases hb : it_bs k (T + 1) with
    | nil =>
      refine br_f (by rw [show yc_h [] = (-1 : Int32) from rfl]; decide) ?_
      have hP := hP _ _ OW FI LA SO BL AR DE CO hO2 hG2
      rw [hb] at hP; exact hP
    | cons b r =>
      have hbm := hbp.2.2.1 b (by rw [hb]; exact List.mem_cons_self)
      have hb1 := hbp.1
      have hnT : it_nb k (T + 1) = it_nb k T := it_nb_n (by omega)
      have hnT2 := (it_Bp k T).1
      have g9' := g9
      rw [hb] at g9'
      refine br_t (show (0 : Int32) ≤ nI (b - 1) from nI_pos' (by omega)) ⟨pk_in (b - 1) 80 (by omega), ?_⟩
      refine nm_r (e' := nI (it_lo k (T + 1) + (r.length + 1))) ?_ ?_
      · show nI (it_lo k (T + 1)) + DE (nI (b - 1)).toNatClampNeg = _
        rw [ed_rt (b - 1) g9'.2.2.1, nI_add]
      · have hP := hP _ _ OW FI LA SO BL AR DE CO hO2 hG2
        rw [hb] at hP; exact hP
  | succ d ih =>
    intro t ht f hf IC BC LC OW FI LA SO BL AR DE CO hG hO
    obtain ⟨f, rfl⟩ : ∃ g, f = g + 1 := ⟨f - 1, by omega⟩
    have ih := ih (t + 1) (by omega) f (by omega)
    have hkt := hkk t (by omega)
    obtain ⟨i1, i2, i3, i4, i5, i6⟩ := it_Ip k t
    have h48 : (wY_readItems_48 post (wY_readItems_21 post f) (yc_h (it_bs k t)) (nI (it_fr k t)) (nI t) (nI (k t)) f_length (nI T) IC BC LC f_numberCount f_operatorCount a_text a_kinds a_starts a_ends OW a_meant FI LA SO BL a_knowns a_values AR DE CO a_numbers a_operators) := by
      refine pk_le (k t) 7 (fun h7 => nm_r (nI_1 t) ?_) (fun h7 => ?_)
      · have h8' : k t < 8 := by omega
        unfold it_fi it_ie it_ik at ih
        rw [it_cn_a h8', it_nb_n (by omega), it_lo_n (by omega), it_fr_a h8', it_bs_n (by omega) (by omega), it_tb_a h8', it_tb_a h8', it_tb_a h8'] at ih
        exact ih IC BC LC OW FI LA SO BL AR DE CO hG hO
      · rw [it_fr_b (by omega)] at ih
        refine pk_le t (it_fr k t) (fun hle => ?_) (fun hlt => ?_)
        · refine yi_blk (by omega) hT h11 hkt (by omega) (?_ : yi_G k (it_cn k (t + 1)) (it_nb k t) (it_lo k t) (it_bs k t) (it_fi k (t + 1)) (it_ie k (t + 1)) (it_ik k (t + 1)) IC BC LC FI LA SO BL AR DE) (fun BC LC AR DE hG2 => ih IC BC LC OW FI LA SO BL AR DE CO hG2 ?_)
          · unfold it_fi it_ie it_ik
            rw [it_cn_b (by omega) (by omega), it_tb_b (by omega) (by omega), it_tb_b (by omega) (by omega), it_tb_b (by omega) (by omega)]
            exact hG
          · refine ⟨fun j hj hjT => ?_, fun j hj hjT => hO.2 j (by omega) hjT⟩
            by_cases z : j < it_fr k t
            · exact hO.1 j z hjT
            · have e : j = t := by omega
              subst e
              rw [hO.2 j (by omega) hjT]; unfold it_ow; rw [if_neg (by omega)]; rfl
        · refine yi_addG (by omega) hT hk hkk (by omega) hlt rfl hG hO (fun IC OW FI LA SO BL CO hG2 hO2 => ?_)
          exact yi_blk (by omega) hT h11 hkt (by omega) hG2 (fun BC LC AR DE hG3 => ih IC BC LC OW FI LA SO BL AR DE CO hG3 hO2)
    refine br_f (nI_nlt (by omega) (by omega)) (pk_le T t (fun hle => ?_) (fun hlt => ⟨pk_in t 80 (by omega), ?_⟩))
    · have e : t = T := by omega
      rw [e, h11] at h48
      rw [e]
      exact h48
    · rw [ed_rt t (hk t hlt)]
      exact h48
theorem yi_read {post : SY → Prop} {k : Nat → Nat} {T : Nat} (hT : T ≤ 80) (hk : ed_ag a_kinds k T) (hkk : ∀ t, t < T + 1 → k t < 100) (h11 : k T = 11) (hOW : ∀ t, t < T → a_owners t = -3)
    (hP : ∀ (f_blockCount f_looseCount' : Int32) (a_owners a_firsts a_lasts a_sorts a_blocks a_around a_depths a_compared : Nat → Int32), ed_ao a_owners (it_ow k) T → yi_G k (it_cn k (T + 1)) (it_nb k (T + 1)) (it_lo k (T + 1)) (it_bs k (T + 1)) (it_fi k (T + 1)) (it_ie k (T + 1)) (it_ik k (T + 1)) (nI (it_cn k (T + 1))) f_blockCount f_looseCount' a_firsts a_lasts a_sorts a_blocks a_around a_depths →
      post (f_length, nI T, nI (it_cn k (T + 1)), f_blockCount, nI (it_lo k (T + 1) + (it_bs k (T + 1)).length), f_numberCount, f_operatorCount, a_text, a_kinds, a_starts, a_ends, a_owners, a_meant, a_firsts, a_lasts, a_sorts, a_blocks, a_knowns, a_values, a_around, a_depths, a_compared, a_numbers, a_operators)) :
    wpY_readItems post (f_length, nI T, f_itemCount, f_blockCount, f_looseCount, f_numberCount, f_operatorCount, a_text, a_kinds, a_starts, a_ends, a_owners, a_meant, a_firsts, a_lasts, a_sorts, a_blocks, a_knowns, a_values, a_around, a_depths, a_compared, a_numbers, a_operators) := by
  refine ⟨T + 2, ?_⟩
  refine yi_loop hT hk hkk h11 hP (T + 1) 0 (by omega) (T + 2) (by omega) 0 0 0 _ _ _ _ _ _ _ _ ⟨rfl, rfl, rfl, ?_, ?_, ?_, ?_, ?_, trivial⟩ ⟨fun j hj => absurd hj (Nat.not_lt_zero _), fun j _ hj => hOW j hj⟩
  · exact fun j hj => absurd hj (Nat.not_lt_zero _)
  · exact fun j hj => absurd hj (Nat.not_lt_zero _)
  · exact fun j hj => absurd hj (Nat.not_lt_zero _)
  · exact fun j hj => absurd hj (Nat.not_lt_zero _)
  · exact fun j hj => absurd hj (Nat.not_lt_zero _)
end
