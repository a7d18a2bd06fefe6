section
/-! the pure pass over the tokens: k is the kind of each token, 11 at the end of the text -/
def it_fr (k : Nat → Nat) : Nat → Nat
  | 0 => 0
  | t + 1 => if k t < 8 then it_fr k t else t + 1
def it_cn (k : Nat → Nat) : Nat → Nat
  | 0 => 0
  | t + 1 => if k t < 8 then it_cn k t else if it_fr k t < t then it_cn k t + 1 else it_cn k t
def it_nb (k : Nat → Nat) : Nat → Nat
  | 0 => 0
  | t + 1 => if k t = 9 then it_nb k t + 1 else it_nb k t
def it_bs (k : Nat → Nat) : Nat → List Nat
  | 0 => []
  | t + 1 => if k t = 9 then (it_nb k t + 1) :: it_bs k t else if k t = 10 then (it_bs k t).tail else it_bs k t
def it_lo (k : Nat → Nat) : Nat → Nat
  | 0 => 0
  | t + 1 => if k t = 10 ∧ it_bs k t = [] then it_lo k t + 1 else it_lo k t
def it_tb {α : Type} (k : Nat → Nat) (z : α) (g : Nat → α) : Nat → Nat → α
  | 0 => fun _ => z
  | t + 1 => if k t < 8 then it_tb k z g t else if it_fr k t < t then ed_fu (it_tb k z g t) (it_cn k t) (g t) else it_tb k z g t
def it_fi (k : Nat → Nat) : Nat → Nat → Nat := it_tb k 0 (it_fr k)
def it_ie (k : Nat → Nat) : Nat → Nat → Nat := it_tb k 0 (fun t => t)
def it_ik (k : Nat → Nat) : Nat → Nat → List Nat := it_tb k [] (it_bs k)
def it_in (k : Nat → Nat) : Nat → Nat → Nat := it_tb k 0 (it_nb k)
def it_ow (k : Nat → Nat) (t : Nat) : Option Nat := if k t < 8 then some (it_cn k t) else none
theorem it_tb_a {α : Type} {k : Nat → Nat} {z : α} {g : Nat → α} {t : Nat} (h : k t < 8) : it_tb k z g (t + 1) = it_tb k z g t := by
  show (if k t < 8 then _ else _) = _
  rw [if_pos h]
theorem it_tb_b {α : Type} {k : Nat → Nat} {z : α} {g : Nat → α} {t : Nat} (h : ¬ k t < 8) (h2 : ¬ it_fr k t < t) : it_tb k z g (t + 1) = it_tb k z g t := by
  show (if k t < 8 then _ else if it_fr k t < t then _ else _) = _
  rw [if_neg h, if_neg h2]
theorem it_tb_c {α : Type} {k : Nat → Nat} {z : α} {g : Nat → α} {t : Nat} (h : ¬ k t < 8) (h2 : it_fr k t < t) : it_tb k z g (t + 1) = ed_fu (it_tb k z g t) (it_cn k t) (g t) := by
  show (if k t < 8 then _ else if it_fr k t < t then _ else _) = _
  rw [if_neg h, if_pos h2]
theorem it_fr_a {k : Nat → Nat} {t : Nat} (h : k t < 8) : it_fr k (t + 1) = it_fr k t := by
  show (if k t < 8 then _ else _) = _
  rw [if_pos h]
theorem it_fr_b {k : Nat → Nat} {t : Nat} (h : ¬ k t < 8) : it_fr k (t + 1) = t + 1 := by
  show (if k t < 8 then _ else _) = _
  rw [if_neg h]
theorem it_cn_a {k : Nat → Nat} {t : Nat} (h : k t < 8) : it_cn k (t + 1) = it_cn k t := by
  show (if k t < 8 then _ else _) = _
  rw [if_pos h]
theorem it_cn_b {k : Nat → Nat} {t : Nat} (h : ¬ k t < 8) (h2 : ¬ it_fr k t < t) : it_cn k (t + 1) = it_cn k t := by
  show (if k t < 8 then _ else if it_fr k t < t then _ else _) = _
  rw [if_neg h, if_neg h2]
theorem it_cn_c {k : Nat → Nat} {t : Nat} (h : ¬ k t < 8) (h2 : it_fr k t < t) : it_cn k (t + 1) = it_cn k t + 1 := by
  show (if k t < 8 then _ else if it_fr k t < t then _ else _) = _
  rw [if_neg h, if_pos h2]
theorem it_bs_9 {k : Nat → Nat} {t : Nat} (h : k t = 9) : it_bs k (t + 1) = (it_nb k t + 1) :: it_bs k t := by
  show (if k t = 9 then _ else _) = _
  rw [if_pos h]
theorem it_bs_10 {k : Nat → Nat} {t : Nat} (h : k t = 10) : it_bs k (t + 1) = (it_bs k t).tail := by
  show (if k t = 9 then _ else if k t = 10 then _ else _) = _
  rw [if_neg (by omega), if_pos h]
theorem it_bs_n {k : Nat → Nat} {t : Nat} (h : ¬ k t = 9) (h2 : ¬ k t = 10) : it_bs k (t + 1) = it_bs k t := by
  show (if k t = 9 then _ else if k t = 10 then _ else _) = _
  rw [if_neg h, if_neg h2]
theorem it_nb_9 {k : Nat → Nat} {t : Nat} (h : k t = 9) : it_nb k (t + 1) = it_nb k t + 1 := by
  show (if k t = 9 then _ else _) = _
  rw [if_pos h]
theorem it_nb_n {k : Nat → Nat} {t : Nat} (h : ¬ k t = 9) : it_nb k (t + 1) = it_nb k t := by
  show (if k t = 9 then _ else _) = _
  rw [if_neg h]
theorem it_lo_p {k : Nat → Nat} {t : Nat} (h : k t = 10) (h2 : it_bs k t = []) : it_lo k (t + 1) = it_lo k t + 1 := by
  show (if k t = 10 ∧ it_bs k t = [] then _ else _) = _
  rw [if_pos ⟨h, h2⟩]
theorem it_lo_n {k : Nat → Nat} {t : Nat} (h : ¬ (k t = 10 ∧ it_bs k t = [])) : it_lo k (t + 1) = it_lo k t := by
  show (if k t = 10 ∧ it_bs k t = [] then _ else _) = _
  rw [if_neg h]
/-- where the items stand -/
def it_I (k : Nat → Nat) (t : Nat) : Prop :=
  it_fr k t ≤ t ∧ it_cn k t ≤ it_fr k t ∧ (∀ q, it_fr k t ≤ q → q < t → k q < 8 ∧ it_cn k q = it_cn k t)
  ∧ (∀ i, i < it_cn k t → it_fi k t i < it_ie k t i ∧ it_ie k t i < it_fr k t ∧ 8 ≤ k (it_ie k t i))
  ∧ (∀ i, i < it_cn k t → ∀ q, it_fi k t i ≤ q → q < it_ie k t i → k q < 8)
  ∧ (∀ i j, i < j → j < it_cn k t → it_ie k t i < it_fi k t j)
theorem it_Ip (k : Nat → Nat) : ∀ t, it_I k t := by
  intro t
  induction t with
  | zero =>
    refine ⟨Nat.le_refl _, Nat.le_refl _, ?_, ?_, ?_, ?_⟩
    · intro q _ h; omega
    · intro i h; exact absurd h (Nat.not_lt_zero _)
    · intro i h; exact absurd h (Nat.not_lt_zero _)
    · intro i j _ h; exact absurd h (Nat.not_lt_zero _)
  | succ t ih =>
    obtain ⟨h1, h2, h3, h4, h5, h6⟩ := ih
    by_cases e : k t < 8
    · unfold it_I it_fi it_ie
      rw [it_fr_a e, it_cn_a e, it_tb_a e, it_tb_a e]
      refine ⟨by omega, h2, ?_, h4, h5, h6⟩
      intro q hq hl
      by_cases z : q = t
      · subst z; exact ⟨e, rfl⟩
      · exact h3 q hq (by omega)
    · by_cases e2 : it_fr k t < t
      · unfold it_I it_fi it_ie
        rw [it_fr_b e, it_cn_c e e2, it_tb_c e e2, it_tb_c e e2]
        refine ⟨Nat.le_refl _, by omega, ?_, ?_, ?_, ?_⟩
        · intro q hq hl; omega
        · intro i hi
          by_cases z : i = it_cn k t
          · subst z; rw [ed_fs, ed_fs]; exact ⟨e2, by omega, by omega⟩
          · rw [ed_fn z, ed_fn z]
            have := h4 i (by omega)
            unfold it_fi it_ie at this
            exact ⟨this.1, by omega, this.2.2⟩
        · intro i hi q
          by_cases z : i = it_cn k t
          · subst z; rw [ed_fs, ed_fs]; intro hq hl; exact (h3 q hq hl).1
          · rw [ed_fn z, ed_fn z]; exact h5 i (by omega) q
        · intro i j hij hj
          have z : i ≠ it_cn k t := by omega
          rw [ed_fn z]
          have := h4 i (by omega)
          unfold it_fi it_ie at this
          by_cases z2 : j = it_cn k t
          · subst z2; rw [ed_fs]; omega
          · rw [ed_fn z2]; exact h6 i j hij (by omega)
      · unfold it_I it_fi it_ie
        rw [it_fr_b e, it_cn_b e e2, it_tb_b e e2, it_tb_b e e2]
        refine ⟨Nat.le_refl _, by omega, ?_, ?_, h5, h6⟩
        · intro q hq hl; omega
        · intro i hi
          have := h4 i hi
          unfold it_fi it_ie at this
          exact ⟨this.1, by omega, this.2.2⟩
/-- the stack of the blocks that are not closed -/
def it_B (k : Nat → Nat) (t : Nat) : Prop :=
  it_nb k t ≤ t ∧ (it_bs k t).length ≤ it_nb k t ∧ (∀ b, b ∈ it_bs k t → 1 ≤ b ∧ b ≤ it_nb k t)
  ∧ List.Pairwise (fun a b => b < a) (it_bs k t)
theorem it_tail {α : Type} {l : List α} {b : α} (h : b ∈ l.tail) : b ∈ l := by
  cases l with
  | nil => exact h
  | cons a r => exact List.mem_cons_of_mem _ h
theorem it_Bp (k : Nat → Nat) : ∀ t, it_B k t := by
  intro t
  induction t with
  | zero => exact ⟨Nat.le_refl _, Nat.le_refl _, (fun b h => by cases h), List.Pairwise.nil⟩
  | succ t ih =>
    obtain ⟨h1, h2, h3, h4⟩ := ih
    unfold it_B
    by_cases e : k t = 9
    · rw [it_nb_9 e, it_bs_9 e]
      refine ⟨by omega, by rw [List.length_cons]; omega, ?_, ?_⟩
      · intro b hb
        cases List.mem_cons.mp hb with
        | inl h => omega
        | inr h => have := h3 b h; omega
      · refine List.Pairwise.cons ?_ h4
        intro b hb; have := h3 b hb; omega
    · by_cases e2 : k t = 10
      · rw [it_nb_n e, it_bs_10 e2]
        refine ⟨by omega, by rw [List.length_tail]; omega, fun b hb => h3 b (it_tail hb), ?_⟩
        cases h : it_bs k t with
        | nil => exact List.Pairwise.nil
        | cons a r => rw [h] at h4; cases h4 with | cons _ h5 => exact h5
      · rw [it_nb_n e, it_bs_n e e2]
        exact ⟨by omega, h2, h3, h4⟩
/-- the blocks of the items -/
def it_C (k : Nat → Nat) (t : Nat) : Prop :=
  (∀ i, i < it_cn k t → ∀ b, b ∈ it_bs k t → b ≤ it_in k t i → b ∈ it_ik k t i)
  ∧ (∀ i, i < it_cn k t → ∀ b, b ∈ it_ik k t i → 1 ≤ b ∧ b ≤ it_in k t i)
  ∧ (∀ i, i < it_cn k t → it_in k t i ≤ it_nb k t)
  ∧ (∀ i j, i ≤ j → j < it_cn k t → it_in k t i ≤ it_in k t j)
theorem it_nbs (k : Nat → Nat) (t : Nat) : it_nb k t ≤ it_nb k (t + 1) := by
  by_cases e : k t = 9
  · rw [it_nb_9 e]; omega
  · rw [it_nb_n e]; omega
theorem it_bsm (k : Nat → Nat) (t b : Nat) (h : b ∈ it_bs k (t + 1)) : b ∈ it_bs k t ∨ b = it_nb k t + 1 := by
  by_cases e : k t = 9
  · rw [it_bs_9 e] at h
    cases List.mem_cons.mp h with
    | inl h => exact Or.inr h
    | inr h => exact Or.inl h
  · by_cases e2 : k t = 10
    · rw [it_bs_10 e2] at h; exact Or.inl (it_tail h)
    · rw [it_bs_n e e2] at h; exact Or.inl h
theorem it_Cp (k : Nat → Nat) : ∀ t, it_C k t := by
  intro t
  induction t with
  | zero =>
    refine ⟨?_, ?_, ?_, ?_⟩
    · intro i h; exact absurd h (Nat.not_lt_zero _)
    · intro i h; exact absurd h (Nat.not_lt_zero _)
    · intro i h; exact absurd h (Nat.not_lt_zero _)
    · intro i j _ h; exact absurd h (Nat.not_lt_zero _)
  | succ t ih =>
    obtain ⟨h1, h2, h3, h4⟩ := ih
    have hn := it_nbs k t
    have hm := it_bsm k t
    obtain ⟨b1, b2, b3, b4⟩ := it_Bp k t
    by_cases e : k t < 8
    · unfold it_C it_ik it_in
      rw [it_cn_a e, it_tb_a e, it_tb_a e, it_bs_n (by omega) (by omega), it_nb_n (by omega)]
      exact ⟨h1, h2, h3, h4⟩
    · by_cases e2 : it_fr k t < t
      · unfold it_C it_ik it_in
        rw [it_cn_c e e2, it_tb_c e e2, it_tb_c e e2]
        refine ⟨?_, ?_, ?_, ?_⟩
        · intro i hi b hb
          by_cases z : i = it_cn k t
          · subst z; rw [ed_fs, ed_fs]
            intro hle
            cases hm b hb with
            | inl h => exact h
            | inr h => omega
          · rw [ed_fn z, ed_fn z]
            intro hle
            cases hm b hb with
            | inl h => exact h1 i (by omega) b h hle
            | inr h =>
              have := h3 i (by omega)
              unfold it_in at this
              omega
        · intro i hi b
          by_cases z : i = it_cn k t
          · subst z; rw [ed_fs, ed_fs]; exact b3 b
          · rw [ed_fn z, ed_fn z]; exact h2 i (by omega) b
        · intro i hi
          by_cases z : i = it_cn k t
          · subst z; rw [ed_fs]; exact hn
          · rw [ed_fn z]; exact Nat.le_trans (h3 i (by omega)) hn
        · intro i j hij hj
          by_cases z : j = it_cn k t
          · subst z; rw [ed_fs]
            by_cases z2 : i = it_cn k t
            · subst z2; rw [ed_fs]; omega
            · rw [ed_fn z2]; exact h3 i (by omega)
          · rw [ed_fn z, ed_fn (by omega)]; exact h4 i j hij (by omega)
      · unfold it_C it_ik it_in
        rw [it_cn_b e e2, it_tb_b e e2, it_tb_b e e2]
        refine ⟨?_, h2, fun i hi => Nat.le_trans (h3 i hi) hn, h4⟩
        intro i hi b hb hle
        cases hm b hb with
        | inl h => exact h1 i hi b h hle
        | inr h =>
          have := h3 i hi
          unfold it_in at this
          omega
end
