section
/-! rename: what stays of each position -/
def rn_g (c : Nat → Nat) (rp sp : Nat → Bool) (ch p : Nat) : List Nat := if rp p then (if sp p then [ch] else []) else [c p]
def rn_f (c : Nat → Nat) (rp sp : Nat → Bool) (ch : Nat) : Nat → Nat → List Nat
  | _, 0 => []
  | a, m + 1 => rn_g c rp sp ch a ++ rn_f c rp sp ch (a + 1) m
theorem rn_f_s (c : Nat → Nat) (rp sp : Nat → Bool) (ch : Nat) : ∀ m a, rn_f c rp sp ch a (m + 1) = rn_f c rp sp ch a m ++ rn_g c rp sp ch (a + m) := by
  intro m
  induction m with
  | zero => intro a; simp [rn_f]
  | succ m ih =>
    intro a
    have e : rn_f c rp sp ch a (m + 1 + 1) = rn_g c rp sp ch a ++ rn_f c rp sp ch (a + 1) (m + 1) := rfl
    have e2 : rn_f c rp sp ch a (m + 1) = rn_g c rp sp ch a ++ rn_f c rp sp ch (a + 1) m := rfl
    rw [e, ih (a + 1), e2, List.append_assoc, show a + 1 + m = a + (m + 1) from by omega]
theorem rn_g_len (c : Nat → Nat) (rp sp : Nat → Bool) (ch p : Nat) : (rn_g c rp sp ch p).length ≤ 1 := by
  unfold rn_g; split
  · split <;> simp
  · simp
theorem rn_f_len (c : Nat → Nat) (rp sp : Nat → Bool) (ch : Nat) : ∀ m a, (rn_f c rp sp ch a m).length ≤ m := by
  intro m
  induction m with
  | zero => intro a; exact Nat.le_refl _
  | succ m ih =>
    intro a
    show (rn_g c rp sp ch a ++ rn_f c rp sp ch (a + 1) m).length ≤ m + 1
    rw [List.length_append]
    have := ih (a + 1)
    have := rn_g_len c rp sp ch a
    omega
theorem rn_f_18 {c : Nat → Nat} {rp sp : Nat → Bool} {ch n : Nat} (hc : ∀ j, j < n → c j ≤ 18) (hch : ch ≤ 18) : ∀ m a, a + m ≤ n → ∀ x, x ∈ rn_f c rp sp ch a m → x ≤ 18 := by
  intro m
  induction m with
  | zero => intro a _ x hx; cases hx
  | succ m ih =>
    intro a ha x hx
    cases List.mem_append.mp (show x ∈ rn_g c rp sp ch a ++ rn_f c rp sp ch (a + 1) m from hx) with
    | inl h =>
      unfold rn_g at h
      split at h
      · split at h
        · have := List.mem_singleton.mp h; omega
        · cases h
      · have := List.mem_singleton.mp h
        have := hc a (by omega)
        omega
    | inr h => exact ih (a + 1) (by omega) x h
/-- a list in an array -/
def rn_l (a : Nat → Int32) : Nat → List Nat → Prop
  | _, [] => True
  | p, x :: r => a p = nI x ∧ rn_l a (p + 1) r
theorem rn_l_get {a : Nat → Int32} : ∀ {l : List Nat} {p j : Nat}, rn_l a p l → (h : j < l.length) → a (p + j) = nI l[j] := by
  intro l
  induction l with
  | nil => intro p j _ h; exact absurd h (Nat.not_lt_zero _)
  | cons x r ih =>
    intro p j h hj
    cases j with
    | zero => exact h.1
    | succ j =>
      have := ih h.2 (j := j) (by rw [List.length_cons] at hj; omega)
      rw [show p + (j + 1) = p + 1 + j from by omega]; exact this
theorem rn_l_of {a : Nat → Int32} : ∀ {l : List Nat} {p : Nat}, (∀ j, (h : j < l.length) → a (p + j) = nI l[j]) → rn_l a p l := by
  intro l
  induction l with
  | nil => intro p _; trivial
  | cons x r ih =>
    intro p h
    refine ⟨h 0 (by rw [List.length_cons]; omega), ih (fun j hj => ?_)⟩
    have := h (j + 1) (by rw [List.length_cons]; omega)
    rw [show p + 1 + j = p + (j + 1) from by omega]; exact this
theorem rn_l_c {a b : Nat → Int32} : ∀ {l : List Nat} {p q : Nat}, (∀ j, j < l.length → b (q + j) = a (p + j)) → rn_l a p l → rn_l b q l := by
  intro l
  induction l with
  | nil => intro p q _ _; trivial
  | cons x r ih =>
    intro p q h hl
    refine ⟨?_, ih (p := p + 1) (fun j hj => ?_) hl.2⟩
    · have := h 0 (by rw [List.length_cons]; omega)
      rw [Nat.add_zero, Nat.add_zero] at this
      rw [this]; exact hl.1
    · have := h (j + 1) (by rw [List.length_cons]; omega)
      rw [show q + 1 + j = q + (j + 1) from by omega, show p + 1 + j = p + (j + 1) from by omega]; exact this
theorem rn_l_ap {a : Nat → Int32} : ∀ {l m : List Nat} {p : Nat}, rn_l a p (l ++ m) ↔ rn_l a p l ∧ rn_l a (p + l.length) m := by
  intro l
  induction l with
  | nil => intro m p; simp [rn_l]
  | cons x r ih =>
    intro m p
    show (a p = nI x ∧ rn_l a (p + 1) (r ++ m)) ↔ (a p = nI x ∧ rn_l a (p + 1) r) ∧ _
    rw [ih, List.length_cons, show p + 1 + r.length = p + (r.length + 1) from by omega, and_assoc]
/-- the count of what is replaced -/
def rn_c (rt : Nat → Bool) : Nat → Nat
  | 0 => 0
  | t + 1 => if rt t then rn_c rt t + 1 else rn_c rt t
theorem rn_c_le {rt : Nat → Bool} : ∀ {T : Nat}, rn_c rt T ≤ T := by
  intro T
  induction T with
  | zero => exact Nat.le_refl _
  | succ T ih => unfold rn_c; split <;> omega
theorem rn_c_m {f : Nat → Option Nat} {i v : Nat} (hv : f v = none) : ∀ {T : Nat}, rn_c (fun t => decide (t = v ∨ f t = some i)) T = mn_ct f i T + (if v < T then 1 else 0) := by
  intro T
  induction T with
  | zero => rfl
  | succ T ih =>
    unfold rn_c mn_ct
    rw [ih]
    by_cases e : T = v
    · subst e
      rw [if_pos (by simp), hv, if_neg (show ¬ (none : Option Nat) = some i by simp), if_neg (Nat.lt_irrefl T), if_pos (Nat.lt_succ_self T)]
    · by_cases e2 : f T = some i
      · rw [if_pos (by simp [e2]), if_pos e2]
        by_cases e3 : v < T
        · rw [if_pos e3, if_pos (by omega)]
        · rw [if_neg e3, if_neg (by omega)]
      · rw [if_neg (by simp [e, e2]), if_neg e2]
        by_cases e3 : v < T
        · rw [if_pos e3, if_pos (by omega)]
        · rw [if_neg e3, if_neg (by omega)]
end
