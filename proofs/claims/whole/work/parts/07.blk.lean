section
/-! blocks: X's ends of blocks, Y's chains -/
def xb_I (T : Nat) (e : Nat → Nat) (bs : List Nat) (nb fr cn : Nat) (fi ie iN : Nat → Nat) (ik : Nat → List Nat) : Prop :=
  e 0 = T ∧ (∀ b, b ∈ bs → e b = T) ∧ (∀ b, 1 ≤ b → b ≤ nb → ¬ b ∈ bs → e b < fr)
  ∧ (∀ i, i < cn → ∀ b, 1 ≤ b → b ≤ iN i → (b ∈ ik i → ie i ≤ e b) ∧ (¬ b ∈ ik i → e b ≤ fi i))
theorem xb_add {T : Nat} {e : Nat → Nat} {bs : List Nat} {nb fr cn t : Nat} {fi ie iN : Nat → Nat} {ik : Nat → List Nat} (h : xb_I T e bs nb fr cn fi ie iN ik) (ht : t ≤ T) : xb_I T e bs nb fr (cn + 1) (ed_fu fi cn fr) (ed_fu ie cn t) (ed_fu iN cn nb) (ed_fu ik cn bs) := by
  obtain ⟨h1, h2, h3, h4⟩ := h
  refine ⟨h1, h2, h3, ?_⟩
  intro i hi b hb
  by_cases z : i = cn
  · subst z; rw [ed_fs, ed_fs, ed_fs, ed_fs]
    intro hn
    exact ⟨fun m => by rw [h2 b m]; exact ht, fun m => Nat.le_of_lt (h3 b hb hn m)⟩
  · rw [ed_fn z, ed_fn z, ed_fn z, ed_fn z]; exact h4 i (by omega) b hb
theorem xb_fr {T : Nat} {e : Nat → Nat} {bs : List Nat} {nb fr fr' cn : Nat} {fi ie iN : Nat → Nat} {ik : Nat → List Nat} (h : xb_I T e bs nb fr cn fi ie iN ik) (hf : fr ≤ fr') : xb_I T e bs nb fr' cn fi ie iN ik := by
  obtain ⟨h1, h2, h3, h4⟩ := h
  exact ⟨h1, h2, fun b hb hn m => Nat.lt_of_lt_of_le (h3 b hb hn m) hf, h4⟩
theorem xb_open {T : Nat} {e : Nat → Nat} {bs : List Nat} {nb fr cn : Nat} {fi ie iN : Nat → Nat} {ik : Nat → List Nat} (h : xb_I T e bs nb fr cn fi ie iN ik) (hb : ∀ b, b ∈ bs → b ≤ nb) (hi : ∀ i, i < cn → iN i ≤ nb) : xb_I T (ed_fu e (nb + 1) T) ((nb + 1) :: bs) (nb + 1) fr cn fi ie iN ik := by
  obtain ⟨h1, h2, h3, h4⟩ := h
  refine ⟨?_, ?_, ?_, ?_⟩
  · rw [ed_fn (by omega)]; exact h1
  · intro b hm
    by_cases z : b = nb + 1
    · subst z; rw [ed_fs]
    · rw [ed_fn z]
      cases List.mem_cons.mp hm with
      | inl x => exact absurd x z
      | inr x => exact h2 b x
  · intro b hb1 hb2 hm
    have z : b ≠ nb + 1 := fun x => hm (by rw [x]; exact List.mem_cons_self)
    rw [ed_fn z]
    exact h3 b hb1 (by omega) (fun x => hm (List.mem_cons_of_mem _ x))
  · intro i hi2 b hb1 hb2
    have := hi i hi2
    rw [ed_fn (show b ≠ nb + 1 by omega)]
    exact h4 i hi2 b hb1 hb2
theorem xb_close {T : Nat} {e : Nat → Nat} {a t : Nat} {r : List Nat} {nb cn : Nat} {fi ie iN : Nat → Nat} {ik : Nat → List Nat} (h : xb_I T e (a :: r) nb (t + 1) cn fi ie iN ik) (ha : 1 ≤ a) (hr : ¬ a ∈ r) (hie : ∀ i, i < cn → ie i ≤ t) (hm : ∀ i, i < cn → a ≤ iN i → a ∈ ik i) : xb_I T (ed_fu e a t) r nb (t + 1) cn fi ie iN ik := by
  obtain ⟨h1, h2, h3, h4⟩ := h
  refine ⟨?_, ?_, ?_, ?_⟩
  · rw [ed_fn (by omega)]; exact h1
  · intro b hb
    have z : b ≠ a := fun x => hr (by rw [← x]; exact hb)
    rw [ed_fn z]; exact h2 b (List.mem_cons_of_mem _ hb)
  · intro b hb1 hb2 hb3
    by_cases z : b = a
    · subst z; rw [ed_fs]; omega
    · rw [ed_fn z]
      refine h3 b hb1 hb2 (fun x => ?_)
      cases List.mem_cons.mp x with
      | inl y => exact z y
      | inr y => exact hb3 y
  · intro i hi b hb1 hb2
    by_cases z : b = a
    · subst z; rw [ed_fs]
      exact ⟨fun _ => hie i hi, fun x => absurd (hm i hi hb2) x⟩
    · rw [ed_fn z]; exact h4 i hi b hb1 hb2
/-- the innermost block: X's number (0: none) and Y's (-1: none) -/
def xb_h (l : List Nat) : Nat := match l with | [] => 0 | b :: _ => b
def yc_h (l : List Nat) : Int32 := match l with | [] => -1 | b :: _ => nI (b - 1)
def yc_I (ar dp : Nat → Int32) : List Nat → Prop
  | [] => True
  | b :: r => 1 ≤ b ∧ ar (b - 1) = yc_h r ∧ dp (b - 1) = nI (r.length + 1) ∧ yc_I ar dp r
theorem yc_u {ar dp : Nat → Int32} {x y : Int32} {j : Nat} : ∀ {l : List Nat}, (∀ b, b ∈ l → b ≤ j) → yc_I ar dp l → yc_I (upd ar j x) (upd dp j y) l := by
  intro l
  induction l with
  | nil => intro _ _; trivial
  | cons b r ih =>
    intro hl h
    obtain ⟨h0, h1, h2, h3⟩ := h
    have hb := hl b List.mem_cons_self
    refine ⟨h0, ?_, ?_, ih (fun c hc => hl c (List.mem_cons_of_mem _ hc)) h3⟩
    · rw [pk_un (show b - 1 ≠ j by omega)]; exact h1
    · rw [pk_un (show b - 1 ≠ j by omega)]; exact h2
/-- what X reads of a block's end is what the stacks say -/
theorem xb_reach {T : Nat} {e : Nat → Nat} {k : Nat → Nat} {i d t : Nat} (h : xb_I T e (it_bs k (T + 1)) (it_nb k (T + 1)) (it_fr k (T + 1)) (it_cn k (T + 1)) (it_fi k (T + 1)) (it_ie k (T + 1)) (it_in k (T + 1)) (it_ik k (T + 1)))
    (hi : i < it_cn k (T + 1)) (hd : d ≤ i) (h1 : it_fi k (T + 1) i ≤ t) (h2 : t < it_ie k (T + 1) i) : t < e (xb_h (it_ik k (T + 1) d)) ↔ mn_rc k T i d = true := by
  obtain ⟨g1, g2, g3, g4⟩ := h
  obtain ⟨c1, c2, c3, c4⟩ := it_Cp k (T + 1)
  have hie := ((it_Ip k (T + 1)).2.2.2.1 i hi).2.1
  have hfr := (it_Ip k (T + 1)).1
  unfold mn_rc mn_rl
  cases el : it_ik k (T + 1) d with
  | nil =>
    show t < e 0 ↔ true = true
    rw [g1]
    constructor
    · intro _; rfl
    · intro _; omega
  | cons b r =>
    show t < e b ↔ decide (b ∈ it_ik k (T + 1) i) = true
    have hb := c2 d (by omega) b (by rw [el]; exact List.mem_cons_self)
    have hn := c4 d i hd hi
    have := g4 i hi b hb.1 (by omega)
    constructor
    · intro x
      apply decide_eq_true
      by_cases m : b ∈ it_ik k (T + 1) i
      · exact m
      · have := this.2 m; omega
    · intro x
      have := this.1 (of_decide_eq_true x)
      omega
end
