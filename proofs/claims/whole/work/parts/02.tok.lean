section
/-! arrays against pure functions, and the pure pass over the characters -/
def ed_fu {α : Type} (f : Nat → α) (k : Nat) (x : α) : Nat → α := fun j => if j = k then x else f j
theorem ed_fs {α : Type} {f : Nat → α} {k : Nat} {x : α} : ed_fu f k x k = x := if_pos rfl
theorem ed_fn {α : Type} {f : Nat → α} {k j : Nat} {x : α} (h : j ≠ k) : ed_fu f k x j = f j := if_neg h
theorem ed_ff {α : Type} {f : Nat → α} {k : Nat} {x y : α} : ed_fu (ed_fu f k x) k y = ed_fu f k y := by
  funext j; unfold ed_fu; by_cases h : j = k <;> simp [h]
def ed_oI (o : Option Nat) : Int32 := match o with | none => -3 | some t => nI t
def ed_bI (b : Bool) : Int32 := if b then 1 else 0
def ed_ag (a : Nat → Int32) (f : Nat → Nat) (n : Nat) : Prop := ∀ j, j < n → a j = nI (f j)
def ed_ao (a : Nat → Int32) (f : Nat → Option Nat) (n : Nat) : Prop := ∀ j, j < n → a j = ed_oI (f j)
def ed_ab (a : Nat → Int32) (f : Nat → Bool) (n : Nat) : Prop := ∀ j, j < n → a j = ed_bI (f j)
def ed_av (a : Nat → Int32) (f : Nat → Int32) (n : Nat) : Prop := ∀ j, j < n → a j = f j
theorem ed_ag_s {a : Nat → Int32} {f : Nat → Nat} {n : Nat} {x : Nat} (h : ed_ag a f n) : ed_ag (upd a n (nI x)) (ed_fu f n x) (n + 1) := by
  intro j hj
  by_cases e : j = n
  · subst e; rw [pk_us, ed_fs]
  · rw [pk_un e, ed_fn e]; exact h j (by omega)
theorem ed_ag_p {a : Nat → Int32} {f : Nat → Nat} {n k : Nat} {x : Nat} (h : ed_ag a f n) : ed_ag (upd a k (nI x)) (ed_fu f k x) n := by
  intro j hj
  by_cases e : j = k
  · subst e; rw [pk_us, ed_fs]
  · rw [pk_un e, ed_fn e]; exact h j hj
theorem ed_ao_s {a : Nat → Int32} {f : Nat → Option Nat} {n : Nat} {x : Option Nat} (h : ed_ao a f n) : ed_ao (upd a n (ed_oI x)) (ed_fu f n x) (n + 1) := by
  intro j hj
  by_cases e : j = n
  · subst e; rw [pk_us, ed_fs]
  · rw [pk_un e, ed_fn e]; exact h j (by omega)
theorem ed_ag_le {a : Nat → Int32} {f : Nat → Nat} {n m : Nat} (h : ed_ag a f n) (hm : m ≤ n) : ed_ag a f m := fun j hj => h j (by omega)
theorem ed_ao_le {a : Nat → Int32} {f : Nat → Option Nat} {n m : Nat} (h : ed_ao a f n) (hm : m ≤ n) : ed_ao a f m := fun j hj => h j (by omega)
theorem ed_m3 {t : Nat} (h : t < 2 ^ 31) : nI t ≠ (-3 : Int32) := by
  intro e
  have h1 : (nI t).toInt = (-3 : Int32).toInt := by rw [e]
  rw [nI_toInt h, show (-3 : Int32).toInt = -3 from by decide] at h1
  omega
theorem ed_oI_n (o : Option Nat) (h : ∀ t, o = some t → t < 2 ^ 31) : ed_oI o = -3 ↔ o = none := by
  cases o with
  | none => simp [ed_oI]
  | some t => simp [ed_oI, ed_m3 (h t rfl)]
theorem ed_oI_s (o : Option Nat) (h : ∀ t, o = some t → t < 2 ^ 31) {u : Nat} (hu : u < 2 ^ 31) : ed_oI o = nI u ↔ o = some u := by
  cases o with
  | none => simp only [ed_oI, reduceCtorEq, iff_false]; exact fun e => ed_m3 hu e.symm
  | some t => simp only [ed_oI, Option.some.injEq]; exact nI_eq (h t rfl) hu

def tk_kb (c : Nat) : Nat := if c ≤ 4 then 0 else if c ≤ 9 then 1 else if c = 10 then 2 else c - 7
def tk_pv (aa : Nat → Option Nat) (p : Nat) : Option Nat := match p with | 0 => none | q + 1 => aa q
def tk_ck (k c : Nat) : Bool := if k = 0 then decide (c ≤ 9) else if k = 1 then decide (5 ≤ c ∧ c ≤ 9) else if k = 2 then decide (c = 10) else false
abbrev tk_S : Type := Nat × (Nat → Nat) × (Nat → Nat) × (Nat → Nat) × (Nat → Option Nat)
def tk_co (c : Nat → Nat) (p : Nat) (s : tk_S) : Option Nat :=
  match tk_pv s.2.2.2.2 p with
  | none => none
  | some t => if tk_ck (s.2.1 t) (c p) then some t else none
def tk_step (c : Nat → Nat) (p : Nat) (s : tk_S) : tk_S :=
  if c p = 18 then (s.1, s.2.1, s.2.2.1, s.2.2.2.1, ed_fu s.2.2.2.2 p none)
  else match tk_co c p s with
    | some t => (s.1, (if s.2.1 t = 2 then ed_fu s.2.1 t 3 else s.2.1), s.2.2.1, ed_fu s.2.2.2.1 t (p + 1), ed_fu s.2.2.2.2 p (some t))
    | none => (s.1 + 1, ed_fu s.2.1 s.1 (tk_kb (c p)), ed_fu s.2.2.1 s.1 p, ed_fu s.2.2.2.1 s.1 (p + 1), ed_fu s.2.2.2.2 p (some s.1))
def tk_r (c : Nat → Nat) : Nat → tk_S
  | 0 => (0, fun _ => 0, fun _ => 0, fun _ => 0, fun _ => none)
  | p + 1 => tk_step c p (tk_r c p)
theorem tk_sp {c : Nat → Nat} {p : Nat} {s : tk_S} (h : c p = 18) : tk_step c p s = (s.1, s.2.1, s.2.2.1, s.2.2.2.1, ed_fu s.2.2.2.2 p none) := by
  unfold tk_step; rw [if_pos h]
theorem tk_cn {c : Nat → Nat} {p : Nat} {s : tk_S} {t : Nat} (h : ¬ c p = 18) (h2 : tk_co c p s = some t) : tk_step c p s = (s.1, (if s.2.1 t = 2 then ed_fu s.2.1 t 3 else s.2.1), s.2.2.1, ed_fu s.2.2.2.1 t (p + 1), ed_fu s.2.2.2.2 p (some t)) := by
  unfold tk_step; rw [if_neg h, h2]
theorem tk_bg {c : Nat → Nat} {p : Nat} {s : tk_S} (h : ¬ c p = 18) (h2 : tk_co c p s = none) : tk_step c p s = (s.1 + 1, ed_fu s.2.1 s.1 (tk_kb (c p)), ed_fu s.2.2.1 s.1 p, ed_fu s.2.2.2.1 s.1 (p + 1), ed_fu s.2.2.2.2 p (some s.1)) := by
  unfold tk_step; rw [if_neg h, h2]
def tk_I (p : Nat) (s : tk_S) : Prop :=
  s.1 ≤ p ∧ (∀ q t, q < p → s.2.2.2.2 q = some t → t < s.1) ∧ (∀ t, tk_pv s.2.2.2.2 p = some t → t + 1 = s.1 ∧ s.2.2.2.1 t = p)
  ∧ (∀ t, t < s.1 → s.2.2.1 t < s.2.2.2.1 t ∧ s.2.2.2.1 t ≤ p)
  ∧ (∀ q t, q < p → t < s.1 → (s.2.2.2.2 q = some t ↔ (s.2.2.1 t ≤ q ∧ q < s.2.2.2.1 t)))
  ∧ (∀ t, t < s.1 → s.2.1 t ≤ 10) ∧ (∀ t, t + 1 < s.1 → s.2.2.2.1 t ≤ s.2.2.1 (t + 1))
theorem tk_co_s {c : Nat → Nat} {p : Nat} {s : tk_S} {t : Nat} (h : tk_co c p s = some t) : tk_pv s.2.2.2.2 p = some t ∧ tk_ck (s.2.1 t) (c p) = true := by
  unfold tk_co at h
  cases e : tk_pv s.2.2.2.2 p with
  | none => rw [e] at h; cases h
  | some u =>
    rw [e] at h
    dsimp only at h
    by_cases z : tk_ck (s.2.1 u) (c p) = true
    · rw [if_pos z] at h; cases h; exact ⟨rfl, z⟩
    · rw [if_neg z] at h; cases h
theorem tk_kb_le {c : Nat} (h : c ≤ 18) (h2 : ¬ c = 18) : tk_kb c ≤ 10 := by
  unfold tk_kb; split; omega; split; omega; split <;> omega
theorem tk_Is {c : Nat → Nat} {p : Nat} {s : tk_S} (hc : c p ≤ 18) (h : tk_I p s) : tk_I (p + 1) (tk_step c p s) := by
  obtain ⟨m, kd, st, en, aa⟩ := s
  obtain ⟨h1, h2, h3, h4, h5, h6, h7⟩ := h
  dsimp only at h1 h2 h3 h4 h5 h6 h7
  by_cases e : c p = 18
  · rw [tk_sp e]
    refine ⟨by dsimp only; omega, ?_, ?_, ?_, ?_, h6, h7⟩ <;> dsimp only
    · intro q t hq hs
      by_cases z : q = p
      · subst z; rw [ed_fs] at hs; cases hs
      · rw [ed_fn z] at hs; exact h2 q t (by omega) hs
    · intro t ht
      unfold tk_pv at ht
      dsimp only at ht
      rw [ed_fs] at ht; cases ht
    · intro t ht; have := h4 t ht; omega
    · intro q t hq ht
      by_cases z : q = p
      · subst z; rw [ed_fs]
        have := h4 t ht
        constructor
        · intro x; cases x
        · intro x; omega
      · rw [ed_fn z]; exact h5 q t (by omega) ht
  · cases e2 : tk_co c p (m, kd, st, en, aa) with
    | some u =>
      rw [tk_cn e e2]
      obtain ⟨g1, g2⟩ := tk_co_s e2
      dsimp only at g1 g2
      obtain ⟨g3, g4⟩ := h3 u g1
      refine ⟨by dsimp only; omega, ?_, ?_, ?_, ?_, ?_, ?_⟩ <;> dsimp only
      · intro q t hq hs
        by_cases z : q = p
        · subst z; rw [ed_fs] at hs; cases hs; omega
        · rw [ed_fn z] at hs; exact h2 q t (by omega) hs
      · intro t ht
        unfold tk_pv at ht
        dsimp only at ht
        rw [ed_fs] at ht; cases ht
        rw [ed_fs]; exact ⟨g3, rfl⟩
      · intro t ht
        by_cases z : t = u
        · subst z; rw [ed_fs]; have := h4 t ht; omega
        · rw [ed_fn z]; have := h4 t ht; omega
      · intro q t hq ht
        by_cases z : q = p
        · subst z; rw [ed_fs]
          by_cases z2 : t = u
          · subst z2; rw [ed_fs]; have := h4 t ht; constructor
            · intro _; omega
            · intro _; rfl
          · rw [ed_fn z2]; have := h4 t ht; constructor
            · intro x; cases x; exact absurd rfl z2
            · intro x; omega
        · rw [ed_fn z]
          by_cases z2 : t = u
          · subst z2; rw [ed_fs, h5 q t (by omega) ht, g4]; omega
          · rw [ed_fn z2]; exact h5 q t (by omega) ht
      · intro t ht
        by_cases z : kd u = 2
        · rw [if_pos z]
          by_cases z2 : t = u
          · subst z2; rw [ed_fs]; omega
          · rw [ed_fn z2]; exact h6 t ht
        · rw [if_neg z]; exact h6 t ht
      · intro t ht
        have z : t ≠ u := by omega
        rw [ed_fn z]; exact h7 t ht
    | none =>
      rw [tk_bg e e2]
      refine ⟨by dsimp only; omega, ?_, ?_, ?_, ?_, ?_, ?_⟩ <;> dsimp only
      · intro q t hq hs
        by_cases z : q = p
        · subst z; rw [ed_fs] at hs; cases hs; omega
        · rw [ed_fn z] at hs; have := h2 q t (by omega) hs; omega
      · intro t ht
        unfold tk_pv at ht
        dsimp only at ht
        rw [ed_fs] at ht; cases ht
        rw [ed_fs]; exact ⟨rfl, rfl⟩
      · intro t ht
        by_cases z : t = m
        · subst z; rw [ed_fs, ed_fs]; omega
        · rw [ed_fn z, ed_fn z]; have := h4 t (by omega); omega
      · intro q t hq ht
        by_cases z : q = p
        · subst z; rw [ed_fs]
          by_cases z2 : t = m
          · subst z2; rw [ed_fs, ed_fs]; constructor
            · intro _; omega
            · intro _; rfl
          · rw [ed_fn z2, ed_fn z2]; have := h4 t (by omega); constructor
            · intro x; cases x; exact absurd rfl z2
            · intro x; omega
        · rw [ed_fn z]
          by_cases z2 : t = m
          · subst z2; rw [ed_fs, ed_fs]; constructor
            · intro x; have := h2 q t (by omega) x; omega
            · intro x; omega
          · rw [ed_fn z2, ed_fn z2]; exact h5 q t (by omega) (by omega)
      · intro t ht
        by_cases z : t = m
        · subst z; rw [ed_fs]; exact tk_kb_le hc e
        · rw [ed_fn z]; exact h6 t (by omega)
      · intro t ht
        have z : t ≠ m := by omega
        rw [ed_fn z]
        by_cases z2 : t + 1 = m
        · subst z2; rw [ed_fs]; exact (h4 t (by omega)).2
        · rw [ed_fn z2]; exact h7 t (by omega)
theorem tk_Ir {c : Nat → Nat} {n : Nat} (hc : ∀ j, j < n → c j ≤ 18) : ∀ p, p ≤ n → tk_I p (tk_r c p) := by
  intro p
  induction p with
  | zero =>
    intro _
    refine ⟨Nat.le_refl _, ?_, ?_, ?_, ?_, ?_, ?_⟩
    · intro q t hq; omega
    · intro t ht; cases ht
    · intro t ht; exact absurd ht (Nat.not_lt_zero _)
    · intro q t hq; omega
    · intro t ht; exact absurd ht (Nat.not_lt_zero _)
    · intro t ht; exact absurd ht (Nat.not_lt_zero _)
  | succ p ih =>
    intro hp
    exact tk_Is (hc p (by omega)) (ih (by omega))
end
