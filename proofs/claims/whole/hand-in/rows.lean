section
section
theorem pk_us {f : Nat → Int32} {k : Nat} {x : Int32} : upd f k x k = x := if_pos rfl
theorem pk_un {f : Nat → Int32} {k j : Nat} {x : Int32} (h : j ≠ k) : upd f k x j = f j := if_neg h
theorem pk_sub {a b : Nat} (h : b ≤ a) : nI a - nI b = nI (a - b) := by
  obtain ⟨c, rfl⟩ : ∃ c, a = c + b := ⟨a - b, by omega⟩
  rw [← nI_add, Int32.add_sub_cancel, Nat.add_sub_cancel]
theorem pk_m1 (n : Nat) : nI (n + 1) + (-1) = nI n := by
  rw [← nI_1, Int32.add_assoc, show (1 : Int32) + (-1) = 0 from rfl, Int32.add_zero]
theorem pk_mul (a b : Nat) : nI a * nI b = nI (a * b) := (Int32.ofNat_mul a b).symm
theorem pk_sub_toInt {a b : Nat} (ha : a < 2 ^ 30) (hb : b < 2 ^ 30) : (nI a - nI b).toInt = (a : Int) - b := by
  rw [Int32.toInt_sub, nI_toInt (by omega), nI_toInt (by omega)]
  exact Int.bmod_eq_of_le (by omega) (by omega)
theorem pk_sneg {a b : Nat} (hb : b < 2 ^ 30) (h : a < b) : nI a - nI b < 0 := by
  rw [Int32.lt_iff_toInt_lt, pk_sub_toInt (by omega) hb, show (0 : Int32).toInt = 0 from by decide]
  omega
theorem pk_ix (x : Int32) {n : Nat} (hn : n < 2 ^ 31) : x < 0 ∨ nI n ≤ x ∨ ∃ j : Nat, j < n ∧ x = nI j := by
  by_cases h : x < 0
  · exact Or.inl h
  · obtain ⟨j, hj, rfl⟩ := nI_of h
    by_cases h2 : j < n
    · exact Or.inr (Or.inr ⟨j, h2, rfl⟩)
    · exact Or.inr (Or.inl (nI_le (by omega) hj))
theorem pk_le {x y : Int32} {A B : Prop} (a b : Nat) (f : a ≤ b → A) (g : b < a → B) (hx : x = nI a := by rfl) (hy : y = nI b := by rfl) (ha : a < 2 ^ 31 := by omega) (hb : b < 2 ^ 31 := by omega) : (x ≤ y → A) ∧ (¬ x ≤ y → B) := by
  subst hx hy
  rw [nI_leI ha hb]
  exact ⟨f, fun z => g (by omega)⟩
theorem pk_lt {x y : Int32} {A B : Prop} (a b : Nat) (f : a < b → A) (g : b ≤ a → B) (hx : x = nI a := by rfl) (hy : y = nI b := by rfl) (ha : a < 2 ^ 31 := by omega) (hb : b < 2 ^ 31 := by omega) : (x < y → A) ∧ (¬ x < y → B) := by
  subst hx hy
  rw [nI_ltI ha hb]
  exact ⟨f, fun z => g (by omega)⟩
theorem pk_eq {x y : Int32} {A B : Prop} (a b : Nat) (f : a = b → A) (g : a ≠ b → B) (hx : x = nI a := by rfl) (hy : y = nI b := by rfl) (ha : a < 2 ^ 31 := by omega) (hb : b < 2 ^ 31 := by omega) : (x = y → A) ∧ (¬ x = y → B) := by
  subst hx hy
  rw [nI_eq ha hb]
  exact ⟨f, g⟩
theorem pk_in {x : Int32} (n N : Nat) (h : n < N) (hx : x = nI n := by rfl) (hN : N < 2 ^ 31 := by omega) : vp_in x N := by
  subst hx
  exact vp_in_nI h hN
theorem pk_cl {x : Int32} (n : Nat) (hx : x = nI n := by rfl) (h : n < 2 ^ 31 := by omega) : x.toNatClampNeg = n := by
  subst hx
  exact nI_clamp h
theorem pk_loop {σ : Type} (W : Nat → Nat → σ → Prop) (I : Nat → σ → Prop) (e i0 : Nat) (s : σ) (hi : i0 ≤ e) (h0 : I i0 s) (hx : ∀ n s, I e s → W (n + 1) e s)
    (hs : ∀ n i s, i < e → I i s → (∀ s', I (i + 1) s' → W n (i + 1) s') → W (n + 1) i s) : ∃ n, W n i0 s :=
  ⟨e + 1, loop_i W I e hx hs (e + 1) i0 s hi (by omega) h0⟩
end
end
section
section
/-! arrays against pure functions, and the pure pass over the characters -/
def ed_fu {α : Type} (f : Nat → α) (k : Nat) (x : α) : Nat → α := fun j => if j = k then x else f j
theorem ed_fs {α : Type} {f : Nat → α} {k : Nat} {x : α} : ed_fu f k x k = x := if_pos rfl
theorem ed_fn {α : Type} {f : Nat → α} {k j : Nat} {x : α} (h : j ≠ k) : ed_fu f k x j = f j := if_neg h
theorem ed_ff {α : Type} {f : Nat → α} {k : Nat} {x y : α} : ed_fu (ed_fu f k x) k y = ed_fu f k y := by
  funext j; unfold ed_fu; by_cases h : j = k <;> simp [h]
def ed_oI (o : Option Nat) : Int32 := match o with | none => -3 | some t => nI t
def ed_bI (b : Bool) : Int32 := if b then 1 else 0
def ed_ag (a : Nat → Int32) (f : Nat → Nat) (n : Nat) : Prop := ∀ j, j < n → a j = nI (f j)
def ed_ao (a : Nat → Int32) (f : Nat → Option Nat) (n : Nat) : Prop := ∀ j, j < n → a j = ed_oI (f j)
def ed_ab (a : Nat → Int32) (f : Nat → Bool) (n : Nat) : Prop := ∀ j, j < n → a j = ed_bI (f j)
def ed_av (a : Nat → Int32) (f : Nat → Int32) (n : Nat) : Prop := ∀ j, j < n → a j = f j
theorem ed_ag_s {a : Nat → Int32} {f : Nat → Nat} {n : Nat} {x : Nat} (h : ed_ag a f n) : ed_ag (upd a n (nI x)) (ed_fu f n x) (n + 1) := by
  intro j hj
  by_cases e : j = n
  · subst e; rw [pk_us, ed_fs]
  · rw [pk_un e, ed_fn e]; exact h j (by omega)
theorem ed_ag_p {a : Nat → Int32} {f : Nat → Nat} {n k : Nat} {x : Nat} (h : ed_ag a f n) : ed_ag (upd a k (nI x)) (ed_fu f k x) n := by
  intro j hj
  by_cases e : j = k
  · subst e; rw [pk_us, ed_fs]
  · rw [pk_un e, ed_fn e]; exact h j hj
theorem ed_ao_s {a : Nat → Int32} {f : Nat → Option Nat} {n : Nat} {x : Option Nat} (h : ed_ao a f n) : ed_ao (upd a n (ed_oI x)) (ed_fu f n x) (n + 1) := by
  intro j hj
  by_cases e : j = n
  · subst e; rw [pk_us, ed_fs]
  · rw [pk_un e, ed_fn e]; exact h j (by omega)
theorem ed_ag_le {a : Nat → Int32} {f : Nat → Nat} {n m : Nat} (h : ed_ag a f n) (hm : m ≤ n) : ed_ag a f m := fun j hj => h j (by omega)
theorem ed_ao_le {a : Nat → Int32} {f : Nat → Option Nat} {n m : Nat} (h : ed_ao a f n) (hm : m ≤ n) : ed_ao a f m := fun j hj => h j (by omega)
theorem ed_m3 {t : Nat} (h : t < 2 ^ 31) : nI t ≠ (-3 : Int32) := by
  intro e
  have h1 : (nI t).toInt = (-3 : Int32).toInt := by rw [e]
  rw [nI_toInt h, show (-3 : Int32).toInt = -3 from by decide] at h1
  omega
theorem ed_oI_n (o : Option Nat) (h : ∀ t, o = some t → t < 2 ^ 31) : ed_oI o = -3 ↔ o = none := by
  cases o with
  | none => simp [ed_oI]
  | some t => simp [ed_oI, ed_m3 (h t rfl)]
theorem ed_oI_s (o : Option Nat) (h : ∀ t, o = some t → t < 2 ^ 31) {u : Nat} (hu : u < 2 ^ 31) : ed_oI o = nI u ↔ o = some u := by
  cases o with
  | none => simp only [ed_oI, reduceCtorEq, iff_false]; exact fun e => ed_m3 hu e.symm
  | some t => simp only [ed_oI, Option.some.injEq]; exact nI_eq (h t rfl) hu

def tk_kb (c : Nat) : Nat := if c ≤ 4 then 0 else if c ≤ 9 then 1 else if c = 10 then 2 else c - 7
def tk_pv (aa : Nat → Option Nat) (p : Nat) : Option Nat := match p with | 0 => none | q + 1 => aa q
def tk_ck (k c : Nat) : Bool := if k = 0 then decide (c ≤ 9) else if k = 1 then decide (5 ≤ c ∧ c ≤ 9) else if k = 2 then decide (c = 10) else false
abbrev tk_S : Type := Nat × (Nat → Nat) × (Nat → Nat) × (Nat → Nat) × (Nat → Option Nat)
def tk_co (c : Nat → Nat) (p : Nat) (s : tk_S) : Option Nat :=
  match tk_pv s.2.2.2.2 p with
  | none => none
  | some t => if tk_ck (s.2.1 t) (c p) then some t else none
def tk_step (c : Nat → Nat) (p : Nat) (s : tk_S) : tk_S :=
  if c p = 18 then (s.1, s.2.1, s.2.2.1, s.2.2.2.1, ed_fu s.2.2.2.2 p none)
  else match tk_co c p s with
    | some t => (s.1, (if s.2.1 t = 2 then ed_fu s.2.1 t 3 else s.2.1), s.2.2.1, ed_fu s.2.2.2.1 t (p + 1), ed_fu s.2.2.2.2 p (some t))
    | none => (s.1 + 1, ed_fu s.2.1 s.1 (tk_kb (c p)), ed_fu s.2.2.1 s.1 p, ed_fu s.2.2.2.1 s.1 (p + 1), ed_fu s.2.2.2.2 p (some s.1))
def tk_r (c : Nat → Nat) : Nat → tk_S
  | 0 => (0, fun _ => 0, fun _ => 0, fun _ => 0, fun _ => none)
  | p + 1 => tk_step c p (tk_r c p)
theorem tk_sp {c : Nat → Nat} {p : Nat} {s : tk_S} (h : c p = 18) : tk_step c p s = (s.1, s.2.1, s.2.2.1, s.2.2.2.1, ed_fu s.2.2.2.2 p none) := by
  unfold tk_step; rw [if_pos h]
theorem tk_cn {c : Nat → Nat} {p : Nat} {s : tk_S} {t : Nat} (h : ¬ c p = 18) (h2 : tk_co c p s = some t) : tk_step c p s = (s.1, (if s.2.1 t = 2 then ed_fu s.2.1 t 3 else s.2.1), s.2.2.1, ed_fu s.2.2.2.1 t (p + 1), ed_fu s.2.2.2.2 p (some t)) := by
  unfold tk_step; rw [if_neg h, h2]
theorem tk_bg {c : Nat → Nat} {p : Nat} {s : tk_S} (h : ¬ c p = 18) (h2 : tk_co c p s = none) : tk_step c p s = (s.1 + 1, ed_fu s.2.1 s.1 (tk_kb (c p)), ed_fu s.2.2.1 s.1 p, ed_fu s.2.2.2.1 s.1 (p + 1), ed_fu s.2.2.2.2 p (some s.1)) := by
  unfold tk_step; rw [if_neg h, h2]
def tk_I (p : Nat) (s : tk_S) : Prop :=
  s.1 ≤ p ∧ (∀ q t, q < p → s.2.2.2.2 q = some t → t < s.1) ∧ (∀ t, tk_pv s.2.2.2.2 p = some t → t + 1 = s.1 ∧ s.2.2.2.1 t = p)
  ∧ (∀ t, t < s.1 → s.2.2.1 t < s.2.2.2.1 t ∧ s.2.2.2.1 t ≤ p)
  ∧ (∀ q t, q < p → t < s.1 → (s.2.2.2.2 q = some t ↔ (s.2.2.1 t ≤ q ∧ q < s.2.2.2.1 t)))
  ∧ (∀ t, t < s.1 → s.2.1 t ≤ 10) ∧ (∀ t, t + 1 < s.1 → s.2.2.2.1 t ≤ s.2.2.1 (t + 1))
theorem tk_co_s {c : Nat → Nat} {p : Nat} {s : tk_S} {t : Nat} (h : tk_co c p s = some t) : tk_pv s.2.2.2.2 p = some t ∧ tk_ck (s.2.1 t) (c p) = true := by
  unfold tk_co at h
  cases e : tk_pv s.2.2.2.2 p with
  | none => rw [e] at h; cases h
  | some u =>
    rw [e] at h
    dsimp only at h
    by_cases z : tk_ck (s.2.1 u) (c p) = true
    · rw [if_pos z] at h; cases h; exact ⟨rfl, z⟩
    · rw [if_neg z] at h; cases h
theorem tk_kb_le {c : Nat} (h : c ≤ 18) (h2 : ¬ c = 18) : tk_kb c ≤ 10 := by
  unfold tk_kb; split; omega; split; omega; split <;> omega
theorem tk_Is {c : Nat → Nat} {p : Nat} {s : tk_S} (hc : c p ≤ 18) (h : tk_I p s) : tk_I (p + 1) (tk_step c p s) := by
  obtain ⟨m, kd, st, en, aa⟩ := s
  obtain ⟨h1, h2, h3, h4, h5, h6, h7⟩ := h
  dsimp only at h1 h2 h3 h4 h5 h6 h7
  by_cases e : c p = 18
  · rw [tk_sp e]
    refine ⟨by dsimp only; omega, ?_, ?_, ?_, ?_, h6, h7⟩ <;> dsimp only
    · intro q t hq hs
      by_cases z : q = p
      · subst z; rw [ed_fs] at hs; cases hs
      · rw [ed_fn z] at hs; exact h2 q t (by omega) hs
    · intro t ht
      unfold tk_pv at ht
      dsimp only at ht
      rw [ed_fs] at ht; cases ht
    · intro t ht; have := h4 t ht; omega
    · intro q t hq ht
      by_cases z : q = p
      · subst z; rw [ed_fs]
        have := h4 t ht
        constructor
        · intro x; cases x
        · intro x; omega
      · rw [ed_fn z]; exact h5 q t (by omega) ht
  · cases e2 : tk_co c p (m, kd, st, en, aa) with
    | some u =>
      rw [tk_cn e e2]
      obtain ⟨g1, g2⟩ := tk_co_s e2
      dsimp only at g1 g2
      obtain ⟨g3, g4⟩ := h3 u g1
      refine ⟨by dsimp only; omega, ?_, ?_, ?_, ?_, ?_, ?_⟩ <;> dsimp only
      · intro q t hq hs
        by_cases z : q = p
        · subst z; rw [ed_fs] at hs; cases hs; omega
        · rw [ed_fn z] at hs; exact h2 q t (by omega) hs
      · intro t ht
        unfold tk_pv at ht
        dsimp only at ht
        rw [ed_fs] at ht; cases ht
        rw [ed_fs]; exact ⟨g3, rfl⟩
      · intro t ht
        by_cases z : t = u
        · subst z; rw [ed_fs]; have := h4 t ht; omega
        · rw [ed_fn z]; have := h4 t ht; omega
      · intro q t hq ht
        by_cases z : q = p
        · subst z; rw [ed_fs]
          by_cases z2 : t = u
          · subst z2; rw [ed_fs]; have := h4 t ht; constructor
            · intro _; omega
            · intro _; rfl
          · rw [ed_fn z2]; have := h4 t ht; constructor
            · intro x; cases x; exact absurd rfl z2
            · intro x; omega
        · rw [ed_fn z]
          by_cases z2 : t = u
          · subst z2; rw [ed_fs, h5 q t (by omega) ht, g4]; omega
          · rw [ed_fn z2]; exact h5 q t (by omega) ht
      · intro t ht
        by_cases z : kd u = 2
        · rw [if_pos z]
          by_cases z2 : t = u
          · subst z2; rw [ed_fs]; omega
          · rw [ed_fn z2]; exact h6 t ht
        · rw [if_neg z]; exact h6 t ht
      · intro t ht
        have z : t ≠ u := by omega
        rw [ed_fn z]; exact h7 t ht
    | none =>
      rw [tk_bg e e2]
      refine ⟨by dsimp only; omega, ?_, ?_, ?_, ?_, ?_, ?_⟩ <;> dsimp only
      · intro q t hq hs
        by_cases z : q = p
        · subst z; rw [ed_fs] at hs; cases hs; omega
        · rw [ed_fn z] at hs; have := h2 q t (by omega) hs; omega
      · intro t ht
        unfold tk_pv at ht
        dsimp only at ht
        rw [ed_fs] at ht; cases ht
        rw [ed_fs]; exact ⟨rfl, rfl⟩
      · intro t ht
        by_cases z : t = m
        · subst z; rw [ed_fs, ed_fs]; omega
        · rw [ed_fn z, ed_fn z]; have := h4 t (by omega); omega
      · intro q t hq ht
        by_cases z : q = p
        · subst z; rw [ed_fs]
          by_cases z2 : t = m
          · subst z2; rw [ed_fs, ed_fs]; constructor
            · intro _; omega
            · intro _; rfl
          · rw [ed_fn z2, ed_fn z2]; have := h4 t (by omega); constructor
            · intro x; cases x; exact absurd rfl z2
            · intro x; omega
        · rw [ed_fn z]
          by_cases z2 : t = m
          · subst z2; rw [ed_fs, ed_fs]; constructor
            · intro x; have := h2 q t (by omega) x; omega
            · intro x; omega
          · rw [ed_fn z2, ed_fn z2]; exact h5 q t (by omega) (by omega)
      · intro t ht
        by_cases z : t = m
        · subst z; rw [ed_fs]; exact tk_kb_le hc e
        · rw [ed_fn z]; exact h6 t (by omega)
      · intro t ht
        have z : t ≠ m := by omega
        rw [ed_fn z]
        by_cases z2 : t + 1 = m
        · subst z2; rw [ed_fs]; exact (h4 t (by omega)).2
        · rw [ed_fn z2]; exact h7 t (by omega)
theorem tk_Ir {c : Nat → Nat} {n : Nat} (hc : ∀ j, j < n → c j ≤ 18) : ∀ p, p ≤ n → tk_I p (tk_r c p) := by
  intro p
  induction p with
  | zero =>
    intro _
    refine ⟨Nat.le_refl _, ?_, ?_, ?_, ?_, ?_, ?_⟩
    · intro q t hq; omega
    · intro t ht; cases ht
    · intro t ht; exact absurd ht (Nat.not_lt_zero _)
    · intro q t hq; omega
    · intro t ht; exact absurd ht (Nat.not_lt_zero _)
    · intro t ht; exact absurd ht (Nat.not_lt_zero _)
  | succ p ih =>
    intro hp
    exact tk_Is (hc p (by omega)) (ih (by omega))
end
end
section
section
/-! the pure pass over the tokens: k is the kind of each token, 11 at the end of the text -/
def it_fr (k : Nat → Nat) : Nat → Nat
  | 0 => 0
  | t + 1 => if k t < 8 then it_fr k t else t + 1
def it_cn (k : Nat → Nat) : Nat → Nat
  | 0 => 0
  | t + 1 => if k t < 8 then it_cn k t else if it_fr k t < t then it_cn k t + 1 else it_cn k t
def it_nb (k : Nat → Nat) : Nat → Nat
  | 0 => 0
  | t + 1 => if k t = 9 then it_nb k t + 1 else it_nb k t
def it_bs (k : Nat → Nat) : Nat → List Nat
  | 0 => []
  | t + 1 => if k t = 9 then (it_nb k t + 1) :: it_bs k t else if k t = 10 then (it_bs k t).tail else it_bs k t
def it_lo (k : Nat → Nat) : Nat → Nat
  | 0 => 0
  | t + 1 => if k t = 10 ∧ it_bs k t = [] then it_lo k t + 1 else it_lo k t
def it_tb {α : Type} (k : Nat → Nat) (z : α) (g : Nat → α) : Nat → Nat → α
  | 0 => fun _ => z
  | t + 1 => if k t < 8 then it_tb k z g t else if it_fr k t < t then ed_fu (it_tb k z g t) (it_cn k t) (g t) else it_tb k z g t
def it_fi (k : Nat → Nat) : Nat → Nat → Nat := it_tb k 0 (it_fr k)
def it_ie (k : Nat → Nat) : Nat → Nat → Nat := it_tb k 0 (fun t => t)
def it_ik (k : Nat → Nat) : Nat → Nat → List Nat := it_tb k [] (it_bs k)
def it_in (k : Nat → Nat) : Nat → Nat → Nat := it_tb k 0 (it_nb k)
def it_ow (k : Nat → Nat) (t : Nat) : Option Nat := if k t < 8 then some (it_cn k t) else none
theorem it_tb_a {α : Type} {k : Nat → Nat} {z : α} {g : Nat → α} {t : Nat} (h : k t < 8) : it_tb k z g (t + 1) = it_tb k z g t := by
  show (if k t < 8 then _ else _) = _
  rw [if_pos h]
theorem it_tb_b {α : Type} {k : Nat → Nat} {z : α} {g : Nat → α} {t : Nat} (h : ¬ k t < 8) (h2 : ¬ it_fr k t < t) : it_tb k z g (t + 1) = it_tb k z g t := by
  show (if k t < 8 then _ else if it_fr k t < t then _ else _) = _
  rw [if_neg h, if_neg h2]
theorem it_tb_c {α : Type} {k : Nat → Nat} {z : α} {g : Nat → α} {t : Nat} (h : ¬ k t < 8) (h2 : it_fr k t < t) : it_tb k z g (t + 1) = ed_fu (it_tb k z g t) (it_cn k t) (g t) := by
  show (if k t < 8 then _ else if it_fr k t < t then _ else _) = _
  rw [if_neg h, if_pos h2]
theorem it_fr_a {k : Nat → Nat} {t : Nat} (h : k t < 8) : it_fr k (t + 1) = it_fr k t := by
  show (if k t < 8 then _ else _) = _
  rw [if_pos h]
theorem it_fr_b {k : Nat → Nat} {t : Nat} (h : ¬ k t < 8) : it_fr k (t + 1) = t + 1 := by
  show (if k t < 8 then _ else _) = _
  rw [if_neg h]
theorem it_cn_a {k : Nat → Nat} {t : Nat} (h : k t < 8) : it_cn k (t + 1) = it_cn k t := by
  show (if k t < 8 then _ else _) = _
  rw [if_pos h]
theorem it_cn_b {k : Nat → Nat} {t : Nat} (h : ¬ k t < 8) (h2 : ¬ it_fr k t < t) : it_cn k (t + 1) = it_cn k t := by
  show (if k t < 8 then _ else if it_fr k t < t then _ else _) = _
  rw [if_neg h, if_neg h2]
theorem it_cn_c {k : Nat → Nat} {t : Nat} (h : ¬ k t < 8) (h2 : it_fr k t < t) : it_cn k (t + 1) = it_cn k t + 1 := by
  show (if k t < 8 then _ else if it_fr k t < t then _ else _) = _
  rw [if_neg h, if_pos h2]
theorem it_bs_9 {k : Nat → Nat} {t : Nat} (h : k t = 9) : it_bs k (t + 1) = (it_nb k t + 1) :: it_bs k t := by
  show (if k t = 9 then _ else _) = _
  rw [if_pos h]
theorem it_bs_10 {k : Nat → Nat} {t : Nat} (h : k t = 10) : it_bs k (t + 1) = (it_bs k t).tail := by
  show (if k t = 9 then _ else if k t = 10 then _ else _) = _
  rw [if_neg (by omega), if_pos h]
theorem it_bs_n {k : Nat → Nat} {t : Nat} (h : ¬ k t = 9) (h2 : ¬ k t = 10) : it_bs k (t + 1) = it_bs k t := by
  show (if k t = 9 then _ else if k t = 10 then _ else _) = _
  rw [if_neg h, if_neg h2]
theorem it_nb_9 {k : Nat → Nat} {t : Nat} (h : k t = 9) : it_nb k (t + 1) = it_nb k t + 1 := by
  show (if k t = 9 then _ else _) = _
  rw [if_pos h]
theorem it_nb_n {k : Nat → Nat} {t : Nat} (h : ¬ k t = 9) : it_nb k (t + 1) = it_nb k t := by
  show (if k t = 9 then _ else _) = _
  rw [if_neg h]
theorem it_lo_p {k : Nat → Nat} {t : Nat} (h : k t = 10) (h2 : it_bs k t = []) : it_lo k (t + 1) = it_lo k t + 1 := by
  show (if k t = 10 ∧ it_bs k t = [] then _ else _) = _
  rw [if_pos ⟨h, h2⟩]
theorem it_lo_n {k : Nat → Nat} {t : Nat} (h : ¬ (k t = 10 ∧ it_bs k t = [])) : it_lo k (t + 1) = it_lo k t := by
  show (if k t = 10 ∧ it_bs k t = [] then _ else _) = _
  rw [if_neg h]
/-- where the items stand -/
def it_I (k : Nat → Nat) (t : Nat) : Prop :=
  it_fr k t ≤ t ∧ it_cn k t ≤ it_fr k t ∧ (∀ q, it_fr k t ≤ q → q < t → k q < 8 ∧ it_cn k q = it_cn k t)
  ∧ (∀ i, i < it_cn k t → it_fi k t i < it_ie k t i ∧ it_ie k t i < it_fr k t ∧ 8 ≤ k (it_ie k t i))
  ∧ (∀ i, i < it_cn k t → ∀ q, it_fi k t i ≤ q → q < it_ie k t i → k q < 8)
  ∧ (∀ i j, i < j → j < it_cn k t → it_ie k t i < it_fi k t j)
theorem it_Ip (k : Nat → Nat) : ∀ t, it_I k t := by
  intro t
  induction t with
  | zero =>
    refine ⟨Nat.le_refl _, Nat.le_refl _, ?_, ?_, ?_, ?_⟩
    · intro q _ h; omega
    · intro i h; exact absurd h (Nat.not_lt_zero _)
    · intro i h; exact absurd h (Nat.not_lt_zero _)
    · intro i j _ h; exact absurd h (Nat.not_lt_zero _)
  | succ t ih =>
    obtain ⟨h1, h2, h3, h4, h5, h6⟩ := ih
    by_cases e : k t < 8
    · unfold it_I it_fi it_ie
      rw [it_fr_a e, it_cn_a e, it_tb_a e, it_tb_a e]
      refine ⟨by omega, h2, ?_, h4, h5, h6⟩
      intro q hq hl
      by_cases z : q = t
      · subst z; exact ⟨e, rfl⟩
      · exact h3 q hq (by omega)
    · by_cases e2 : it_fr k t < t
      · unfold it_I it_fi it_ie
        rw [it_fr_b e, it_cn_c e e2, it_tb_c e e2, it_tb_c e e2]
        refine ⟨Nat.le_refl _, by omega, ?_, ?_, ?_, ?_⟩
        · intro q hq hl; omega
        · intro i hi
          by_cases z : i = it_cn k t
          · subst z; rw [ed_fs, ed_fs]; exact ⟨e2, by omega, by omega⟩
          · rw [ed_fn z, ed_fn z]
            have := h4 i (by omega)
            unfold it_fi it_ie at this
            exact ⟨this.1, by omega, this.2.2⟩
        · intro i hi q
          by_cases z : i = it_cn k t
          · subst z; rw [ed_fs, ed_fs]; intro hq hl; exact (h3 q hq hl).1
          · rw [ed_fn z, ed_fn z]; exact h5 i (by omega) q
        · intro i j hij hj
          have z : i ≠ it_cn k t := by omega
          rw [ed_fn z]
          have := h4 i (by omega)
          unfold it_fi it_ie at this
          by_cases z2 : j = it_cn k t
          · subst z2; rw [ed_fs]; omega
          · rw [ed_fn z2]; exact h6 i j hij (by omega)
      · unfold it_I it_fi it_ie
        rw [it_fr_b e, it_cn_b e e2, it_tb_b e e2, it_tb_b e e2]
        refine ⟨Nat.le_refl _, by omega, ?_, ?_, h5, h6⟩
        · intro q hq hl; omega
        · intro i hi
          have := h4 i hi
          unfold it_fi it_ie at this
          exact ⟨this.1, by omega, this.2.2⟩
/-- the stack of the blocks that are not closed -/
def it_B (k : Nat → Nat) (t : Nat) : Prop :=
  it_nb k t ≤ t ∧ (it_bs k t).length ≤ it_nb k t ∧ (∀ b, b ∈ it_bs k t → 1 ≤ b ∧ b ≤ it_nb k t)
  ∧ List.Pairwise (fun a b => b < a) (it_bs k t)
theorem it_tail {α : Type} {l : List α} {b : α} (h : b ∈ l.tail) : b ∈ l := by
  cases l with
  | nil => exact h
  | cons a r => exact List.mem_cons_of_mem _ h
theorem it_Bp (k : Nat → Nat) : ∀ t, it_B k t := by
  intro t
  induction t with
  | zero => exact ⟨Nat.le_refl _, Nat.le_refl _, (fun b h => by cases h), List.Pairwise.nil⟩
  | succ t ih =>
    obtain ⟨h1, h2, h3, h4⟩ := ih
    unfold it_B
    by_cases e : k t = 9
    · rw [it_nb_9 e, it_bs_9 e]
      refine ⟨by omega, by rw [List.length_cons]; omega, ?_, ?_⟩
      · intro b hb
        cases List.mem_cons.mp hb with
        | inl h => omega
        | inr h => have := h3 b h; omega
      · refine List.Pairwise.cons ?_ h4
        intro b hb; have := h3 b hb; omega
    · by_cases e2 : k t = 10
      · rw [it_nb_n e, it_bs_10 e2]
        refine ⟨by omega, by rw [List.length_tail]; omega, fun b hb => h3 b (it_tail hb), ?_⟩
        cases h : it_bs k t with
        | nil => exact List.Pairwise.nil
        | cons a r => rw [h] at h4; cases h4 with | cons _ h5 => exact h5
      · rw [it_nb_n e, it_bs_n e e2]
        exact ⟨by omega, h2, h3, h4⟩
/-- the blocks of the items -/
def it_C (k : Nat → Nat) (t : Nat) : Prop :=
  (∀ i, i < it_cn k t → ∀ b, b ∈ it_bs k t → b ≤ it_in k t i → b ∈ it_ik k t i)
  ∧ (∀ i, i < it_cn k t → ∀ b, b ∈ it_ik k t i → 1 ≤ b ∧ b ≤ it_in k t i)
  ∧ (∀ i, i < it_cn k t → it_in k t i ≤ it_nb k t)
  ∧ (∀ i j, i ≤ j → j < it_cn k t → it_in k t i ≤ it_in k t j)
theorem it_nbs (k : Nat → Nat) (t : Nat) : it_nb k t ≤ it_nb k (t + 1) := by
  by_cases e : k t = 9
  · rw [it_nb_9 e]; omega
  · rw [it_nb_n e]; omega
theorem it_bsm (k : Nat → Nat) (t b : Nat) (h : b ∈ it_bs k (t + 1)) : b ∈ it_bs k t ∨ b = it_nb k t + 1 := by
  by_cases e : k t = 9
  · rw [it_bs_9 e] at h
    cases List.mem_cons.mp h with
    | inl h => exact Or.inr h
    | inr h => exact Or.inl h
  · by_cases e2 : k t = 10
    · rw [it_bs_10 e2] at h; exact Or.inl (it_tail h)
    · rw [it_bs_n e e2] at h; exact Or.inl h
theorem it_Cp (k : Nat → Nat) : ∀ t, it_C k t := by
  intro t
  induction t with
  | zero =>
    refine ⟨?_, ?_, ?_, ?_⟩
    · intro i h; exact absurd h (Nat.not_lt_zero _)
    · intro i h; exact absurd h (Nat.not_lt_zero _)
    · intro i h; exact absurd h (Nat.not_lt_zero _)
    · intro i j _ h; exact absurd h (Nat.not_lt_zero _)
  | succ t ih =>
    obtain ⟨h1, h2, h3, h4⟩ := ih
    have hn := it_nbs k t
    have hm := it_bsm k t
    obtain ⟨b1, b2, b3, b4⟩ := it_Bp k t
    by_cases e : k t < 8
    · unfold it_C it_ik it_in
      rw [it_cn_a e, it_tb_a e, it_tb_a e, it_bs_n (by omega) (by omega), it_nb_n (by omega)]
      exact ⟨h1, h2, h3, h4⟩
    · by_cases e2 : it_fr k t < t
      · unfold it_C it_ik it_in
        rw [it_cn_c e e2, it_tb_c e e2, it_tb_c e e2]
        refine ⟨?_, ?_, ?_, ?_⟩
        · intro i hi b hb
          by_cases z : i = it_cn k t
          · subst z; rw [ed_fs, ed_fs]
            intro hle
            cases hm b hb with
            | inl h => exact h
            | inr h => omega
          · rw [ed_fn z, ed_fn z]
            intro hle
            cases hm b hb with
            | inl h => exact h1 i (by omega) b h hle
            | inr h =>
              have := h3 i (by omega)
              unfold it_in at this
              omega
        · intro i hi b
          by_cases z : i = it_cn k t
          · subst z; rw [ed_fs, ed_fs]; exact b3 b
          · rw [ed_fn z, ed_fn z]; exact h2 i (by omega) b
        · intro i hi
          by_cases z : i = it_cn k t
          · subst z; rw [ed_fs]; exact hn
          · rw [ed_fn z]; exact Nat.le_trans (h3 i (by omega)) hn
        · intro i j hij hj
          by_cases z : j = it_cn k t
          · subst z; rw [ed_fs]
            by_cases z2 : i = it_cn k t
            · subst z2; rw [ed_fs]; omega
            · rw [ed_fn z2]; exact h3 i (by omega)
          · rw [ed_fn z, ed_fn (by omega)]; exact h4 i j hij (by omega)
      · unfold it_C it_ik it_in
        rw [it_cn_b e e2, it_tb_b e e2, it_tb_b e e2]
        refine ⟨?_, h2, fun i hi => Nat.le_trans (h3 i hi) hn, h4⟩
        intro i hi b hb hle
        cases hm b hb with
        | inl h => exact h1 i hi b h hle
        | inr h =>
          have := h3 i hi
          unfold it_in at this
          omega
end
end
section
section
/-! what is an expression (m tokens from t on, a factor due or not, which levels of brackets have compared), and its value -/
def ex_r (k : Nat → Nat) : Nat → Nat → Bool → List Bool → Bool
  | 0, _, w, cs => !w && cs.length == 1
  | m + 1, t, w, cs =>
    if w then (if k t = 6 then ex_r k m (t + 1) true (false :: cs) else if k t ≤ 1 then ex_r k m (t + 1) false cs else false)
    else if k t = 7 then (match cs with | _ :: b :: r => ex_r k m (t + 1) false (b :: r) | _ => false)
    else if k t = 4 ∨ k t = 5 then ex_r k m (t + 1) true cs
    else if k t = 3 then (match cs with | false :: r => ex_r k m (t + 1) true (true :: r) | _ => false)
    else false
theorem ex_w6 {k : Nat → Nat} {m t : Nat} {cs : List Bool} (h : k t = 6) : ex_r k (m + 1) t true cs = ex_r k m (t + 1) true (false :: cs) := by
  simp [ex_r, h]
theorem ex_w1 {k : Nat → Nat} {m t : Nat} {cs : List Bool} (h : k t ≤ 1) : ex_r k (m + 1) t true cs = ex_r k m (t + 1) false cs := by
  have h2 : ¬ k t = 6 := by omega
  simp [ex_r, h, h2]
theorem ex_wn {k : Nat → Nat} {m t : Nat} {cs : List Bool} (h : ¬ k t ≤ 1) (h2 : ¬ k t = 6) : ex_r k (m + 1) t true cs = false := by
  simp only [ex_r, if_true, if_neg h2, if_neg h]
theorem ex_f7 {k : Nat → Nat} {m t : Nat} {a b : Bool} {r : List Bool} (h : k t = 7) : ex_r k (m + 1) t false (a :: b :: r) = ex_r k m (t + 1) false (b :: r) := by
  simp [ex_r, h]
theorem ex_f7n {k : Nat → Nat} {m t : Nat} {a : Bool} (h : k t = 7) : ex_r k (m + 1) t false [a] = false := by
  simp [ex_r, h]
theorem ex_f4 {k : Nat → Nat} {m t : Nat} {cs : List Bool} (h : k t = 4 ∨ k t = 5) : ex_r k (m + 1) t false cs = ex_r k m (t + 1) true cs := by
  have h2 : ¬ k t = 7 := by omega
  simp only [ex_r, Bool.false_eq_true, if_false, if_neg h2, if_pos h]
theorem ex_f3 {k : Nat → Nat} {m t : Nat} {r : List Bool} (h : k t = 3) : ex_r k (m + 1) t false (false :: r) = ex_r k m (t + 1) true (true :: r) := by
  simp [ex_r, h]
theorem ex_f3n {k : Nat → Nat} {m t : Nat} {r : List Bool} (h : k t = 3) : ex_r k (m + 1) t false (true :: r) = false := by
  simp [ex_r, h]
theorem ex_fn {k : Nat → Nat} {m t : Nat} {cs : List Bool} (h7 : ¬ k t = 7) (h4 : ¬ k t = 4) (h5 : ¬ k t = 5) (h3 : ¬ k t = 3) : ex_r k (m + 1) t false cs = false := by
  simp [ex_r, h7, h4, h5, h3]
/-- the sort of what stands from f up to e -/
def ex_so (k : Nat → Nat) (f e : Nat) : Nat :=
  if k e = 8 then
    if k f = 0 ∧ 1 < e - f ∧ k (f + 1) = 2 then (if ex_r k (e - (f + 2)) (f + 2) true [false] then 2 else 0)
    else if ex_r k (e - f) f true [false] then 1 else 0
  else 0
theorem ex_so_def {k : Nat → Nat} {f e : Nat} (h : k f = 0) (h2 : k (f + 1) = 2) (h3 : f + 1 < e) : ex_r k (e - f) f true [false] = false := by
  obtain ⟨m, hm⟩ : ∃ m, e - f = m + 1 + 1 := ⟨e - f - 2, by omega⟩
  rw [hm, ex_w1 (by omega), ex_fn (by omega) (by omega) (by omega) (by omega)]
theorem ex_so_le (k : Nat → Nat) (f e : Nat) : ex_so k f e ≤ 2 := by
  unfold ex_so
  split
  · split
    · split <;> omega
    · split <;> omega
  · omega
/-- where the expression begins -/
def ex_es (s f : Nat) : Nat := if s = 2 then f + 2 else f
/-- an item that is not wrong holds an expression -/
theorem ex_so_ex {k : Nat → Nat} {f e : Nat} (hfe : f < e) (h : ex_so k f e ≠ 0) : ex_r k (e - ex_es (ex_so k f e) f) (ex_es (ex_so k f e) f) true [false] = true ∧ ex_es (ex_so k f e) f ≤ e := by
  by_cases h8 : k e = 8
  · by_cases hd : k f = 0 ∧ 1 < e - f ∧ k (f + 1) = 2
    · by_cases hx : ex_r k (e - (f + 2)) (f + 2) true [false] = true
      · have e1 : ex_so k f e = 2 := by unfold ex_so; rw [if_pos h8, if_pos hd, if_pos hx]
        rw [e1]
        have e2 : ex_es 2 f = f + 2 := rfl
        rw [e2]; exact ⟨hx, by omega⟩
      · exact absurd (by unfold ex_so; rw [if_pos h8, if_pos hd, if_neg hx]) h
    · by_cases hx : ex_r k (e - f) f true [false] = true
      · have e1 : ex_so k f e = 1 := by unfold ex_so; rw [if_pos h8, if_neg hd, if_pos hx]
        rw [e1]
        have e2 : ex_es 1 f = f := rfl
        rw [e2]; exact ⟨hx, by omega⟩
      · exact absurd (by unfold ex_so; rw [if_pos h8, if_neg hd, if_neg hx]) h
  · exact absurd (by unfold ex_so; rw [if_neg h8]) h
/-- one level of brackets: what is compared, the sum so far, the product so far -/
abbrev ev_L : Type := Option Int32 × Option Int32 × Option Int32
def ev_p (L : ev_L) (v : Int32) : Int32 := match L.2.2 with | none => v | some p => p * v
def ev_s (L : ev_L) (v : Int32) : Int32 := match L.2.1 with | none => ev_p L v | some s => s + ev_p L v
def ev_v (L : ev_L) (v : Int32) : Int32 := match L.1 with | none => ev_s L v | some c => if c = ev_s L v then 1 else 0
/-- the value: o is the factor at hand, if none is due -/
def ev_r (k : Nat → Nat) (tv : Nat → Int32) : Nat → Nat → List ev_L → Option Int32 → Int32
  | 0, _, L :: _, some v => ev_v L v
  | m + 1, t, L :: r, none => if k t = 6 then ev_r k tv m (t + 1) ((none, none, none) :: L :: r) none else ev_r k tv m (t + 1) (L :: r) (some (tv t))
  | m + 1, t, L :: r, some v =>
    if k t = 7 then ev_r k tv m (t + 1) r (some (ev_v L v))
    else if k t = 5 then ev_r k tv m (t + 1) ((L.1, L.2.1, some (ev_p L v)) :: r) none
    else if k t = 4 then ev_r k tv m (t + 1) ((L.1, some (ev_s L v), none) :: r) none
    else ev_r k tv m (t + 1) ((some (ev_s L v), none, none) :: r) none
  | _, _, _, _ => 0
def ev_cs (l : List ev_L) : List Bool := l.map (fun L => L.1.isSome)
/-- stacks in arrays, the top at the end -/
def ed_sk (a : Nat → Int32) : List Int32 → Prop
  | [] => True
  | x :: r => a r.length = x ∧ ed_sk a r
def ed_bk (a : Nat → Int32) : List Bool → Prop
  | [] => True
  | b :: r => a r.length = ed_bI b ∧ ed_bk a r
theorem ed_sk_u {a : Nat → Int32} {x : Int32} : ∀ {l : List Int32} {j : Nat}, l.length ≤ j → ed_sk a l → ed_sk (upd a j x) l := by
  intro l
  induction l with
  | nil => intro j _ _; trivial
  | cons y r ih =>
    intro j hj h
    rw [List.length_cons] at hj
    exact ⟨by rw [pk_un (by omega)]; exact h.1, ih (by omega) h.2⟩
theorem ed_bk_u {a : Nat → Int32} {x : Int32} : ∀ {l : List Bool} {j : Nat}, l.length ≤ j → ed_bk a l → ed_bk (upd a j x) l := by
  intro l
  induction l with
  | nil => intro j _ _; trivial
  | cons y r ih =>
    intro j hj h
    rw [List.length_cons] at hj
    exact ⟨by rw [pk_un (by omega)]; exact h.1, ih (by omega) h.2⟩
theorem ed_sk_p {a : Nat → Int32} {x : Int32} {l : List Int32} (h : ed_sk a l) : ed_sk (upd a l.length x) (x :: l) := ⟨pk_us, ed_sk_u (Nat.le_refl _) h⟩
theorem ed_bk_p {a : Nat → Int32} {b : Bool} {l : List Bool} (h : ed_bk a l) : ed_bk (upd a l.length (ed_bI b)) (b :: l) := ⟨pk_us, ed_bk_u (Nat.le_refl _) h⟩
/-- X's four arrays of levels -/
def ev_X (cm lf sm pr : Nat → Int32) : List ev_L → Prop
  | [] => True
  | L :: r => cm r.length = ed_bI L.1.isSome ∧ (∀ x, L.1 = some x → lf r.length = x) ∧ sm r.length = L.2.1.getD 0 ∧ pr r.length = L.2.2.getD 1 ∧ ev_X cm lf sm pr r
theorem ev_X_u {cm lf sm pr cm' lf' sm' pr' : Nat → Int32} : ∀ {l : List ev_L} {j : Nat}, l.length ≤ j → (∀ q, q < j → cm' q = cm q ∧ lf' q = lf q ∧ sm' q = sm q ∧ pr' q = pr q) → ev_X cm lf sm pr l → ev_X cm' lf' sm' pr' l := by
  intro l
  induction l with
  | nil => intro j _ _ _; trivial
  | cons L r ih =>
    intro j hj hq h
    rw [List.length_cons] at hj
    obtain ⟨q1, q2, q3, q4⟩ := hq r.length (by omega)
    obtain ⟨h1, h2, h3, h4, h5⟩ := h
    exact ⟨by rw [q1]; exact h1, fun x hx => by rw [q2]; exact h2 x hx, by rw [q3]; exact h3, by rw [q4]; exact h4, ih (by omega) hq h5⟩
theorem ev_p_x (L : ev_L) (v : Int32) : L.2.2.getD 1 * v = ev_p L v := by
  unfold ev_p
  cases L.2.2 with
  | none => exact Int32.one_mul v
  | some p => rfl
theorem ev_s_x (L : ev_L) (v : Int32) : L.2.1.getD 0 + ev_p L v = ev_s L v := by
  unfold ev_s
  cases L.2.1 with
  | none => exact Int32.zero_add _
  | some p => rfl
/-- Y's two stacks, the top first -/
def ev_nu (L : ev_L) : List Int32 := L.2.2.toList ++ (L.2.1.toList ++ L.1.toList)
def ev_op (L : ev_L) : List Int32 := (if L.2.2.isSome then [5] else []) ++ ((if L.2.1.isSome then [4] else []) ++ (if L.1.isSome then [3] else []))
def ev_N : List ev_L → List Int32
  | [] => []
  | L :: r => ev_nu L ++ ev_N r
def ev_O : List ev_L → List Int32
  | [] => []
  | L :: r => ev_op L ++ (match r with | [] => [] | _ :: _ => 0 :: ev_O r)
theorem ev_O2 (L M : ev_L) (r : List ev_L) : ev_O (L :: M :: r) = ev_op L ++ (0 :: ev_O (M :: r)) := rfl
theorem ev_O1 (L : ev_L) : ev_O [L] = ev_op L ++ [] := rfl
def ev_b (o : Option Int32) : Nat := match o with | none => 0 | some _ => 1
def ev_w (L : ev_L) : Nat := ev_b L.1 + ev_b L.2.1 + ev_b L.2.2
def ev_t : List ev_L → Nat
  | [] => 0
  | L :: r => ev_w L + ev_t r
theorem ev_nu_l (L : ev_L) : (ev_nu L).length = ev_w L := by
  obtain ⟨c, s, p⟩ := L
  cases c <;> cases s <;> cases p <;> rfl
theorem ev_op_l (L : ev_L) : (ev_op L).length = ev_w L := by
  obtain ⟨c, s, p⟩ := L
  cases c <;> cases s <;> cases p <;> rfl
theorem ev_N_l : ∀ l : List ev_L, (ev_N l).length = ev_t l := by
  intro l
  induction l with
  | nil => rfl
  | cons L r ih =>
    show (ev_nu L ++ ev_N r).length = ev_w L + ev_t r
    rw [List.length_append, ev_nu_l, ih]
theorem ev_O_l : ∀ l : List ev_L, (ev_O l).length ≤ ev_t l + l.length := by
  intro l
  induction l with
  | nil => exact Nat.le_refl _
  | cons L r ih =>
    cases r with
    | nil => rw [ev_O1, List.append_nil, ev_op_l]; show ev_w L ≤ ev_w L + 0 + 1; omega
    | cons M r =>
      rw [ev_O2, List.length_append, ev_op_l, List.length_cons]
      show _ ≤ ev_w L + ev_t (M :: r) + (M :: r).length + 1
      omega
theorem ev_b_le (o : Option Int32) : ev_b o ≤ 1 := by
  cases o with
  | none => exact Nat.zero_le _
  | some x => exact Nat.le_refl _
end
end
section
section
/-! meanings and values: T tokens with kinds k (11 at T), nm: the same name, nu: the value of a number -/
def mn_so (k : Nat → Nat) (T i : Nat) : Nat := ex_so k (it_fi k (T + 1) i) (it_ie k (T + 1) i)
def mn_es (k : Nat → Nat) (T i : Nat) : Nat := ex_es (mn_so k T i) (it_fi k (T + 1) i)
def mn_rl (l m : List Nat) : Bool := match m with | [] => true | b :: _ => decide (b ∈ l)
def mn_rc (k : Nat → Nat) (T i d : Nat) : Bool := mn_rl (it_ik k (T + 1) i) (it_ik k (T + 1) d)
def mn_sr (k : Nat → Nat) (T : Nat) (nm : Nat → Nat → Bool) (i t : Nat) : Nat → Option Nat
  | 0 => none
  | d + 1 => if mn_so k T d = 2 ∧ mn_rc k T i d = true ∧ nm (it_fi k (T + 1) d) t = true then some d else mn_sr k T nm i t d
def mn_mt (k : Nat → Nat) (T : Nat) (nm : Nat → Nat → Bool) : Nat → Nat → Option Nat
  | 0 => fun _ => none
  | i + 1 => fun t => if mn_so k T i ≠ 0 ∧ mn_es k T i ≤ t ∧ t < it_ie k (T + 1) i ∧ k t = 0 then mn_sr k T nm i t i else mn_mt k T nm i t
def mn_ct (f : Nat → Option Nat) (d : Nat) : Nat → Nat
  | 0 => 0
  | t + 1 => if f t = some d then mn_ct f d t + 1 else mn_ct f d t
def mn_tv (k : Nat → Nat) (nu : Nat → Int32) (f : Nat → Option Nat) (tb : Nat → Bool × Int32) (t : Nat) : Int32 :=
  if k t = 1 then nu t else match f t with | none => 0 | some d => (tb d).2
def mn_k1 (k : Nat → Nat) (f : Nat → Option Nat) (tb : Nat → Bool × Int32) (t : Nat) : Bool :=
  if k t = 0 then (match f t with | none => false | some d => (tb d).1) else true
def mn_ak (k : Nat → Nat) (f : Nat → Option Nat) (tb : Nat → Bool × Int32) : Nat → Nat → Bool
  | 0, _ => true
  | m + 1, t => mn_k1 k f tb t && mn_ak k f tb m (t + 1)
def mn_iv (k : Nat → Nat) (T : Nat) (nm : Nat → Nat → Bool) (nu : Nat → Int32) (tb : Nat → Bool × Int32) (i : Nat) : Bool × Int32 :=
  if mn_so k T i ≠ 0 ∧ mn_ak k (fun t => mn_sr k T nm i t i) tb (it_ie k (T + 1) i - mn_es k T i) (mn_es k T i) = true
  then (true, ev_r k (mn_tv k nu (fun t => mn_sr k T nm i t i) tb) (it_ie k (T + 1) i - mn_es k T i) (mn_es k T i) [(none, none, none)] none)
  else (false, 0)
def mn_kv (k : Nat → Nat) (T : Nat) (nm : Nat → Nat → Bool) (nu : Nat → Int32) : Nat → Nat → Bool × Int32
  | 0 => fun _ => (false, 0)
  | i + 1 => ed_fu (mn_kv k T nm nu i) i (mn_iv k T nm nu (mn_kv k T nm nu i) i)
theorem mn_sr_lt {k : Nat → Nat} {T : Nat} {nm : Nat → Nat → Bool} {i t : Nat} : ∀ {D d : Nat}, mn_sr k T nm i t D = some d → d < D := by
  intro D
  induction D with
  | zero => intro d h; cases h
  | succ D ih =>
    intro d h
    unfold mn_sr at h
    split at h
    · cases h; omega
    · have := ih h; omega
theorem mn_mt_lt {k : Nat → Nat} {T : Nat} {nm : Nat → Nat → Bool} {t : Nat} : ∀ {i d : Nat}, mn_mt k T nm i t = some d → d < i := by
  intro i
  induction i with
  | zero => intro d h; cases h
  | succ i ih =>
    intro d h
    unfold mn_mt at h
    split at h
    · have := mn_sr_lt h; omega
    · have := ih h; omega
theorem mn_es_ge (k : Nat → Nat) (T i : Nat) : it_fi k (T + 1) i ≤ mn_es k T i := by
  unfold mn_es ex_es; split <;> omega
theorem mn_mt_0 {k : Nat → Nat} {T : Nat} {nm : Nat → Nat → Bool} {t : Nat} : ∀ {i : Nat}, i ≤ it_cn k (T + 1) → (∀ j, j < i → it_ie k (T + 1) j ≤ t ∨ t < mn_es k T j) → mn_mt k T nm i t = none := by
  intro i
  induction i with
  | zero => intro _ _; rfl
  | succ i ih =>
    intro hi h
    unfold mn_mt
    rw [if_neg, ih (by omega) (fun j hj => h j (by omega))]
    intro z
    have := h i (by omega)
    omega
theorem mn_mt_out {k : Nat → Nat} {T : Nat} {nm : Nat → Nat → Bool} {t i : Nat} (hi : i < it_cn k (T + 1)) (ht : it_fi k (T + 1) i ≤ t) : mn_mt k T nm i t = none := by
  refine mn_mt_0 (by omega) (fun j hj => Or.inl ?_)
  have := (it_Ip k (T + 1)).2.2.2.2.2 j i hj hi
  omega
theorem mn_mt_in {k : Nat → Nat} {T : Nat} {nm : Nat → Nat → Bool} {t i : Nat} (hs : mn_so k T i ≠ 0) (h1 : mn_es k T i ≤ t) (h2 : t < it_ie k (T + 1) i) (h3 : k t = 0) : ∀ {N : Nat}, i < N → N ≤ it_cn k (T + 1) → mn_mt k T nm N t = mn_sr k T nm i t i := by
  intro N
  induction N with
  | zero => intro h; omega
  | succ N ih =>
    intro h hN
    unfold mn_mt
    by_cases e : i = N
    · subst e; rw [if_pos ⟨hs, h1, h2, h3⟩]
    · rw [if_neg, ih (by omega) (by omega)]
      intro z
      have a := (it_Ip k (T + 1)).2.2.2.2.2 i N (by omega) (by omega)
      have b := mn_es_ge k T N
      omega
theorem mn_mt_fi {k : Nat → Nat} {T : Nat} {nm : Nat → Nat → Bool} {i : Nat} (hi : i < it_cn k (T + 1)) (hs : mn_so k T i = 2) : mn_mt k T nm (it_cn k (T + 1)) (it_fi k (T + 1) i) = none := by
  refine mn_mt_0 (Nat.le_refl _) (fun j hj => ?_)
  have hb := mn_es_ge k T j
  by_cases e : j = i
  · subst e
    have : mn_es k T j = it_fi k (T + 1) j + 2 := by unfold mn_es ex_es; rw [if_pos hs]
    omega
  · by_cases e2 : j < i
    · have := (it_Ip k (T + 1)).2.2.2.2.2 j i e2 hi
      omega
    · have := (it_Ip k (T + 1)).2.2.2.2.2 i j (by omega) hj
      have a := ((it_Ip k (T + 1)).2.2.2.1 i hi).1
      omega
theorem mn_kv_s {k : Nat → Nat} {T : Nat} {nm : Nat → Nat → Bool} {nu : Nat → Int32} {d : Nat} : ∀ {i j : Nat}, d < i → i ≤ j → mn_kv k T nm nu j d = mn_kv k T nm nu i d := by
  intro i j
  induction j with
  | zero => intro h1 h2; omega
  | succ j ih =>
    intro h1 h2
    by_cases e : i = j + 1
    · subst e; rfl
    · rw [← ih h1 (by omega)]
      exact ed_fn (by omega)
theorem mn_ct_u {f g : Nat → Option Nat} {d : Nat} : ∀ {T : Nat}, (∀ t, t < T → (f t = some d ↔ g t = some d)) → mn_ct f d T = mn_ct g d T := by
  intro T
  induction T with
  | zero => intro _; rfl
  | succ T ih =>
    intro h
    unfold mn_ct
    rw [ih (fun t ht => h t (by omega))]
    by_cases e : f T = some d
    · rw [if_pos e, if_pos ((h T (by omega)).mp e)]
    · rw [if_neg e, if_neg (fun z => e ((h T (by omega)).mpr z))]
theorem mn_ct_p {f : Nat → Option Nat} {d t : Nat} (hn : f t = none) : ∀ {T : Nat}, t < T → mn_ct (ed_fu f t (some d)) d T = mn_ct f d T + 1 := by
  intro T
  induction T with
  | zero => intro h; omega
  | succ T ih =>
    intro h
    unfold mn_ct
    by_cases e : t = T
    · subst e
      rw [ed_fs, if_pos rfl, hn, if_neg (by intro z; cases z)]
      rw [mn_ct_u (f := ed_fu f t (some d)) (g := f) (fun q hq => by rw [ed_fn (by omega)])]
    · rw [ed_fn (by omega), ih (by omega)]
      by_cases z : f T = some d
      · rw [if_pos z, if_pos z]
      · rw [if_neg z, if_neg z]
theorem mn_ct_le {f : Nat → Option Nat} {d : Nat} : ∀ {T : Nat}, mn_ct f d T ≤ T := by
  intro T
  induction T with
  | zero => exact Nat.le_refl _
  | succ T ih => unfold mn_ct; split <;> omega
theorem mn_ct_0 {f : Nat → Option Nat} {d : Nat} : ∀ {T : Nat}, (∀ t, t < T → f t ≠ some d) → mn_ct f d T = 0 := by
  intro T
  induction T with
  | zero => intro _; rfl
  | succ T ih =>
    intro h
    unfold mn_ct
    rw [if_neg (h T (by omega)), ih (fun t ht => h t (by omega))]
/-- the same name -/
def mn_nm (c st en : Nat → Nat) (t u : Nat) : Bool := decide (en t - st t = en u - st u ∧ ∀ j, j < en t - st t → c (st t + j) = c (st u + j))
theorem mn_nm_c (c st en : Nat → Nat) (t u : Nat) : mn_nm c st en t u = mn_nm c st en u t := by
  unfold mn_nm
  apply decide_eq_decide.mpr
  constructor
  · rintro ⟨h1, h2⟩; exact ⟨h1.symm, fun j hj => (h2 j (by omega)).symm⟩
  · rintro ⟨h1, h2⟩; exact ⟨h1.symm, fun j hj => (h2 j (by omega)).symm⟩
/-- the value of a number -/
def mn_nv (c : Nat → Nat) : Nat → Nat → Int32 → Int32
  | 0, _, v => v
  | m + 1, p, v => mn_nv c m (p + 1) (v * 10 + (nI (c p) - 5))
end
end
section
section
/-! rename: what stays of each position -/
def rn_g (c : Nat → Nat) (rp sp : Nat → Bool) (ch p : Nat) : List Nat := if rp p then (if sp p then [ch] else []) else [c p]
def rn_f (c : Nat → Nat) (rp sp : Nat → Bool) (ch : Nat) : Nat → Nat → List Nat
  | _, 0 => []
  | a, m + 1 => rn_g c rp sp ch a ++ rn_f c rp sp ch (a + 1) m
theorem rn_f_s (c : Nat → Nat) (rp sp : Nat → Bool) (ch : Nat) : ∀ m a, rn_f c rp sp ch a (m + 1) = rn_f c rp sp ch a m ++ rn_g c rp sp ch (a + m) := by
  intro m
  induction m with
  | zero => intro a; simp [rn_f]
  | succ m ih =>
    intro a
    have e : rn_f c rp sp ch a (m + 1 + 1) = rn_g c rp sp ch a ++ rn_f c rp sp ch (a + 1) (m + 1) := rfl
    have e2 : rn_f c rp sp ch a (m + 1) = rn_g c rp sp ch a ++ rn_f c rp sp ch (a + 1) m := rfl
    rw [e, ih (a + 1), e2, List.append_assoc, show a + 1 + m = a + (m + 1) from by omega]
theorem rn_g_len (c : Nat → Nat) (rp sp : Nat → Bool) (ch p : Nat) : (rn_g c rp sp ch p).length ≤ 1 := by
  unfold rn_g; split
  · split <;> simp
  · simp
theorem rn_f_len (c : Nat → Nat) (rp sp : Nat → Bool) (ch : Nat) : ∀ m a, (rn_f c rp sp ch a m).length ≤ m := by
  intro m
  induction m with
  | zero => intro a; exact Nat.le_refl _
  | succ m ih =>
    intro a
    show (rn_g c rp sp ch a ++ rn_f c rp sp ch (a + 1) m).length ≤ m + 1
    rw [List.length_append]
    have := ih (a + 1)
    have := rn_g_len c rp sp ch a
    omega
theorem rn_f_18 {c : Nat → Nat} {rp sp : Nat → Bool} {ch n : Nat} (hc : ∀ j, j < n → c j ≤ 18) (hch : ch ≤ 18) : ∀ m a, a + m ≤ n → ∀ x, x ∈ rn_f c rp sp ch a m → x ≤ 18 := by
  intro m
  induction m with
  | zero => intro a _ x hx; cases hx
  | succ m ih =>
    intro a ha x hx
    cases List.mem_append.mp (show x ∈ rn_g c rp sp ch a ++ rn_f c rp sp ch (a + 1) m from hx) with
    | inl h =>
      unfold rn_g at h
      split at h
      · split at h
        · have := List.mem_singleton.mp h; omega
        · cases h
      · have := List.mem_singleton.mp h
        have := hc a (by omega)
        omega
    | inr h => exact ih (a + 1) (by omega) x h
/-- a list in an array -/
def rn_l (a : Nat → Int32) : Nat → List Nat → Prop
  | _, [] => True
  | p, x :: r => a p = nI x ∧ rn_l a (p + 1) r
theorem rn_l_get {a : Nat → Int32} : ∀ {l : List Nat} {p j : Nat}, rn_l a p l → (h : j < l.length) → a (p + j) = nI l[j] := by
  intro l
  induction l with
  | nil => intro p j _ h; exact absurd h (Nat.not_lt_zero _)
  | cons x r ih =>
    intro p j h hj
    cases j with
    | zero => exact h.1
    | succ j =>
      have := ih h.2 (j := j) (by rw [List.length_cons] at hj; omega)
      rw [show p + (j + 1) = p + 1 + j from by omega]; exact this
theorem rn_l_of {a : Nat → Int32} : ∀ {l : List Nat} {p : Nat}, (∀ j, (h : j < l.length) → a (p + j) = nI l[j]) → rn_l a p l := by
  intro l
  induction l with
  | nil => intro p _; trivial
  | cons x r ih =>
    intro p h
    refine ⟨h 0 (by rw [List.length_cons]; omega), ih (fun j hj => ?_)⟩
    have := h (j + 1) (by rw [List.length_cons]; omega)
    rw [show p + 1 + j = p + (j + 1) from by omega]; exact this
theorem rn_l_c {a b : Nat → Int32} : ∀ {l : List Nat} {p q : Nat}, (∀ j, j < l.length → b (q + j) = a (p + j)) → rn_l a p l → rn_l b q l := by
  intro l
  induction l with
  | nil => intro p q _ _; trivial
  | cons x r ih =>
    intro p q h hl
    refine ⟨?_, ih (p := p + 1) (fun j hj => ?_) hl.2⟩
    · have := h 0 (by rw [List.length_cons]; omega)
      rw [Nat.add_zero, Nat.add_zero] at this
      rw [this]; exact hl.1
    · have := h (j + 1) (by rw [List.length_cons]; omega)
      rw [show q + 1 + j = q + (j + 1) from by omega, show p + 1 + j = p + (j + 1) from by omega]; exact this
theorem rn_l_ap {a : Nat → Int32} : ∀ {l m : List Nat} {p : Nat}, rn_l a p (l ++ m) ↔ rn_l a p l ∧ rn_l a (p + l.length) m := by
  intro l
  induction l with
  | nil => intro m p; simp [rn_l]
  | cons x r ih =>
    intro m p
    show (a p = nI x ∧ rn_l a (p + 1) (r ++ m)) ↔ (a p = nI x ∧ rn_l a (p + 1) r) ∧ _
    rw [ih, List.length_cons, show p + 1 + r.length = p + (r.length + 1) from by omega, and_assoc]
/-- the count of what is replaced -/
def rn_c (rt : Nat → Bool) : Nat → Nat
  | 0 => 0
  | t + 1 => if rt t then rn_c rt t + 1 else rn_c rt t
theorem rn_c_le {rt : Nat → Bool} : ∀ {T : Nat}, rn_c rt T ≤ T := by
  intro T
  induction T with
  | zero => exact Nat.le_refl _
  | succ T ih => unfold rn_c; split <;> omega
theorem rn_c_m {f : Nat → Option Nat} {i v : Nat} (hv : f v = none) : ∀ {T : Nat}, rn_c (fun t => decide (t = v ∨ f t = some i)) T = mn_ct f i T + (if v < T then 1 else 0) := by
  intro T
  induction T with
  | zero => rfl
  | succ T ih =>
    unfold rn_c mn_ct
    rw [ih]
    by_cases e : T = v
    · subst e
      rw [if_pos (by simp), hv, if_neg (show ¬ (none : Option Nat) = some i by simp), if_neg (Nat.lt_irrefl T), if_pos (Nat.lt_succ_self T)]
    · by_cases e2 : f T = some i
      · rw [if_pos (by simp [e2]), if_pos e2]
        by_cases e3 : v < T
        · rw [if_pos e3, if_pos (by omega)]
        · rw [if_neg e3, if_neg (by omega)]
      · rw [if_neg (by simp [e, e2]), if_neg e2]
        by_cases e3 : v < T
        · rw [if_pos e3, if_pos (by omega)]
        · rw [if_neg e3, if_neg (by omega)]
end
end
section
section
/-! blocks: X's ends of blocks, Y's chains -/
def xb_I (T : Nat) (e : Nat → Nat) (bs : List Nat) (nb fr cn : Nat) (fi ie iN : Nat → Nat) (ik : Nat → List Nat) : Prop :=
  e 0 = T ∧ (∀ b, b ∈ bs → e b = T) ∧ (∀ b, 1 ≤ b → b ≤ nb → ¬ b ∈ bs → e b < fr)
  ∧ (∀ i, i < cn → ∀ b, 1 ≤ b → b ≤ iN i → (b ∈ ik i → ie i ≤ e b) ∧ (¬ b ∈ ik i → e b ≤ fi i))
theorem xb_add {T : Nat} {e : Nat → Nat} {bs : List Nat} {nb fr cn t : Nat} {fi ie iN : Nat → Nat} {ik : Nat → List Nat} (h : xb_I T e bs nb fr cn fi ie iN ik) (ht : t ≤ T) : xb_I T e bs nb fr (cn + 1) (ed_fu fi cn fr) (ed_fu ie cn t) (ed_fu iN cn nb) (ed_fu ik cn bs) := by
  obtain ⟨h1, h2, h3, h4⟩ := h
  refine ⟨h1, h2, h3, ?_⟩
  intro i hi b hb
  by_cases z : i = cn
  · subst z; rw [ed_fs, ed_fs, ed_fs, ed_fs]
    intro hn
    exact ⟨fun m => by rw [h2 b m]; exact ht, fun m => Nat.le_of_lt (h3 b hb hn m)⟩
  · rw [ed_fn z, ed_fn z, ed_fn z, ed_fn z]; exact h4 i (by omega) b hb
theorem xb_fr {T : Nat} {e : Nat → Nat} {bs : List Nat} {nb fr fr' cn : Nat} {fi ie iN : Nat → Nat} {ik : Nat → List Nat} (h : xb_I T e bs nb fr cn fi ie iN ik) (hf : fr ≤ fr') : xb_I T e bs nb fr' cn fi ie iN ik := by
  obtain ⟨h1, h2, h3, h4⟩ := h
  exact ⟨h1, h2, fun b hb hn m => Nat.lt_of_lt_of_le (h3 b hb hn m) hf, h4⟩
theorem xb_open {T : Nat} {e : Nat → Nat} {bs : List Nat} {nb fr cn : Nat} {fi ie iN : Nat → Nat} {ik : Nat → List Nat} (h : xb_I T e bs nb fr cn fi ie iN ik) (hb : ∀ b, b ∈ bs → b ≤ nb) (hi : ∀ i, i < cn → iN i ≤ nb) : xb_I T (ed_fu e (nb + 1) T) ((nb + 1) :: bs) (nb + 1) fr cn fi ie iN ik := by
  obtain ⟨h1, h2, h3, h4⟩ := h
  refine ⟨?_, ?_, ?_, ?_⟩
  · rw [ed_fn (by omega)]; exact h1
  · intro b hm
    by_cases z : b = nb + 1
    · subst z; rw [ed_fs]
    · rw [ed_fn z]
      cases List.mem_cons.mp hm with
      | inl x => exact absurd x z
      | inr x => exact h2 b x
  · intro b hb1 hb2 hm
    have z : b ≠ nb + 1 := fun x => hm (by rw [x]; exact List.mem_cons_self)
    rw [ed_fn z]
    exact h3 b hb1 (by omega) (fun x => hm (List.mem_cons_of_mem _ x))
  · intro i hi2 b hb1 hb2
    have := hi i hi2
    rw [ed_fn (show b ≠ nb + 1 by omega)]
    exact h4 i hi2 b hb1 hb2
theorem xb_close {T : Nat} {e : Nat → Nat} {a t : Nat} {r : List Nat} {nb cn : Nat} {fi ie iN : Nat → Nat} {ik : Nat → List Nat} (h : xb_I T e (a :: r) nb (t + 1) cn fi ie iN ik) (ha : 1 ≤ a) (hr : ¬ a ∈ r) (hie : ∀ i, i < cn → ie i ≤ t) (hm : ∀ i, i < cn → a ≤ iN i → a ∈ ik i) : xb_I T (ed_fu e a t) r nb (t + 1) cn fi ie iN ik := by
  obtain ⟨h1, h2, h3, h4⟩ := h
  refine ⟨?_, ?_, ?_, ?_⟩
  · rw [ed_fn (by omega)]; exact h1
  · intro b hb
    have z : b ≠ a := fun x => hr (by rw [← x]; exact hb)
    rw [ed_fn z]; exact h2 b (List.mem_cons_of_mem _ hb)
  · intro b hb1 hb2 hb3
    by_cases z : b = a
    · subst z; rw [ed_fs]; omega
    · rw [ed_fn z]
      refine h3 b hb1 hb2 (fun x => ?_)
      cases List.mem_cons.mp x with
      | inl y => exact z y
      | inr y => exact hb3 y
  · intro i hi b hb1 hb2
    by_cases z : b = a
    · subst z; rw [ed_fs]
      exact ⟨fun _ => hie i hi, fun x => absurd (hm i hi hb2) x⟩
    · rw [ed_fn z]; exact h4 i hi b hb1 hb2
/-- the innermost block: X's number (0: none) and Y's (-1: none) -/
def xb_h (l : List Nat) : Nat := match l with | [] => 0 | b :: _ => b
def yc_h (l : List Nat) : Int32 := match l with | [] => -1 | b :: _ => nI (b - 1)
def yc_I (ar dp : Nat → Int32) : List Nat → Prop
  | [] => True
  | b :: r => 1 ≤ b ∧ ar (b - 1) = yc_h r ∧ dp (b - 1) = nI (r.length + 1) ∧ yc_I ar dp r
theorem yc_u {ar dp : Nat → Int32} {x y : Int32} {j : Nat} : ∀ {l : List Nat}, (∀ b, b ∈ l → b ≤ j) → yc_I ar dp l → yc_I (upd ar j x) (upd dp j y) l := by
  intro l
  induction l with
  | nil => intro _ _; trivial
  | cons b r ih =>
    intro hl h
    obtain ⟨h0, h1, h2, h3⟩ := h
    have hb := hl b List.mem_cons_self
    refine ⟨h0, ?_, ?_, ih (fun c hc => hl c (List.mem_cons_of_mem _ hc)) h3⟩
    · rw [pk_un (show b - 1 ≠ j by omega)]; exact h1
    · rw [pk_un (show b - 1 ≠ j by omega)]; exact h2
/-- what X reads of a block's end is what the stacks say -/
theorem xb_reach {T : Nat} {e : Nat → Nat} {k : Nat → Nat} {i d t : Nat} (h : xb_I T e (it_bs k (T + 1)) (it_nb k (T + 1)) (it_fr k (T + 1)) (it_cn k (T + 1)) (it_fi k (T + 1)) (it_ie k (T + 1)) (it_in k (T + 1)) (it_ik k (T + 1)))
    (hi : i < it_cn k (T + 1)) (hd : d ≤ i) (h1 : it_fi k (T + 1) i ≤ t) (h2 : t < it_ie k (T + 1) i) : t < e (xb_h (it_ik k (T + 1) d)) ↔ mn_rc k T i d = true := by
  obtain ⟨g1, g2, g3, g4⟩ := h
  obtain ⟨c1, c2, c3, c4⟩ := it_Cp k (T + 1)
  have hie := ((it_Ip k (T + 1)).2.2.2.1 i hi).2.1
  have hfr := (it_Ip k (T + 1)).1
  unfold mn_rc mn_rl
  cases el : it_ik k (T + 1) d with
  | nil =>
    show t < e 0 ↔ true = true
    rw [g1]
    constructor
    · intro _; rfl
    · intro _; omega
  | cons b r =>
    show t < e b ↔ decide (b ∈ it_ik k (T + 1) i) = true
    have hb := c2 d (by omega) b (by rw [el]; exact List.mem_cons_self)
    have hn := c4 d i hd hi
    have := g4 i hi b hb.1 (by omega)
    constructor
    · intro x
      apply decide_eq_true
      by_cases m : b ∈ it_ik k (T + 1) i
      · exact m
      · have := this.2 m; omega
    · intro x
      have := this.1 (of_decide_eq_true x)
      omega
end
end
section
section
/-! small terms for the walks -/
theorem ed_nu {a : Nat → Int32} {x v : Int32} {P : (Nat → Int32) → Prop} (p : Nat) (h : P (upd a p v)) (hx : x = nI p := by rfl) (hp : p < 2 ^ 31 := by omega) : ∀ y, y = upd a x.toNatClampNeg v → P y := by
  subst hx
  intro y hy
  rw [hy, nI_clamp hp]; exact h
theorem ed_nuv {a : Nat → Int32} {x v : Int32} {P : (Nat → Int32) → Prop} (p : Nat) (w : Int32) (hv : v = w) (h : P (upd a p w)) (hx : x = nI p := by rfl) (hp : p < 2 ^ 31 := by omega) : ∀ y, y = upd a x.toNatClampNeg v → P y := by
  subst hv; exact ed_nu p h hx hp
theorem ed_rd {a : Nat → Int32} {x w : Int32} {P : Int32 → Prop} (p : Nat) (e : a p = w) (h : P w) (hx : x = nI p := by rfl) (hp : p < 2 ^ 31 := by omega) : ∀ y, y = a x.toNatClampNeg → P y := by
  subst hx
  intro y hy
  rw [hy, nI_clamp hp, e]; exact h
theorem ed_rt {a : Nat → Int32} {x w : Int32} (p : Nat) (e : a p = w) (hx : x = nI p := by rfl) (hp : p < 2 ^ 31 := by omega) : a x.toNatClampNeg = w := by
  subst hx
  rw [nI_clamp hp, e]
theorem tk_co_n {c : Nat → Nat} {p : Nat} {s : tk_S} (h : tk_pv s.2.2.2.2 p = none) : tk_co c p s = none := by
  unfold tk_co; rw [h]
theorem tk_co_i {c : Nat → Nat} {p t : Nat} {s : tk_S} (h : tk_pv s.2.2.2.2 p = some t) : tk_co c p s = if tk_ck (s.2.1 t) (c p) then some t else none := by
  unfold tk_co; rw [h]
theorem tk_ckP {k c : Nat} : tk_ck k c = true ↔ ((k = 0 ∧ c ≤ 9) ∨ (k = 1 ∧ 5 ≤ c ∧ c ≤ 9) ∨ (k = 2 ∧ c = 10)) := by
  unfold tk_ck
  split
  · rw [decide_eq_true_iff]; omega
  · split
    · rw [decide_eq_true_iff]; omega
    · split
      · rw [decide_eq_true_iff]; omega
      · constructor
        · intro h; cases h
        · intro h; omega
theorem tk_co_1 {c : Nat → Nat} {p t : Nat} {s : tk_S} (h : tk_pv s.2.2.2.2 p = some t) (h2 : (s.2.1 t = 0 ∧ c p ≤ 9) ∨ (s.2.1 t = 1 ∧ 5 ≤ c p ∧ c p ≤ 9) ∨ (s.2.1 t = 2 ∧ c p = 10)) : tk_co c p s = some t := by
  rw [tk_co_i h, if_pos (tk_ckP.mpr h2)]
theorem tk_co_0 {c : Nat → Nat} {p t : Nat} {s : tk_S} (h : tk_pv s.2.2.2.2 p = some t) (h2 : ¬ ((s.2.1 t = 0 ∧ c p ≤ 9) ∨ (s.2.1 t = 1 ∧ 5 ≤ c p ∧ c p ≤ 9) ∨ (s.2.1 t = 2 ∧ c p = 10))) : tk_co c p s = none := by
  rw [tk_co_i h, if_neg (fun z => h2 (tk_ckP.mp z))]
end
section
/-! X reads the tokens -/
variable {f_size f_tokenCount f_itemCount f_blockCount f_openCount f_looseCount : Int32} {a_text a_characterToken a_tokenKind a_tokenStart a_tokenEnd a_tokenItem a_tokenMeaning a_itemFirst a_itemEnd a_itemSort a_itemDepth a_itemBlock a_itemUses a_itemKnown a_itemValue a_blockEnd a_openBlocks a_levelCompares a_levelLeft a_levelSum a_levelProduct : Nat → Int32}
theorem xt_continues {post : Int32 → Prop} {c : Nat → Nat} {n p : Nat} {s : tk_S} (hn : n ≤ 80) (hp : p < n) (hc : ∀ j, j < n → c j ≤ 18) (hT : ed_ag a_text c n) (hI : tk_I p s) (hA : ed_ao a_characterToken s.2.2.2.2 p) (hK : ed_ag a_tokenKind s.2.1 s.1)
    (h1 : ∀ t, tk_co c p s = some t → post 1) (h0 : tk_co c p s = none → post 0) : wpX_continuesToken post (f_size, f_tokenCount, f_itemCount, f_blockCount, f_openCount, f_looseCount, a_text, a_characterToken, a_tokenKind, a_tokenStart, a_tokenEnd, a_tokenItem, a_tokenMeaning, a_itemFirst, a_itemEnd, a_itemSort, a_itemDepth, a_itemBlock, a_itemUses, a_itemKnown, a_itemValue, a_blockEnd, a_openBlocks, a_levelCompares, a_levelLeft, a_levelSum, a_levelProduct) (nI p) := by
  cases p with
  | zero => exact br_t rfl (h0 rfl)
  | succ q =>
    refine br_f (nI_ne0 (by omega) (by omega)) ?_
    rw [nI_pred q, nI_clamp (show q < 2 ^ 31 by omega)]
    refine ⟨pk_in q 80 (by omega), ?_⟩
    cases hs : s.2.2.2.2 q with
    | none =>
      have e : a_characterToken q = -3 := by rw [hA q (by omega), hs]; rfl
      exact br_t e (h0 (tk_co_n hs))
    | some t =>
      have ht : t < s.1 := hI.2.1 q t (by omega) hs
      have hm : s.1 ≤ q + 1 := hI.1
      have hk : s.2.1 t ≤ 10 := hI.2.2.2.2.2.1 t ht
      have hcq := hc (q + 1) hp
      have e : a_characterToken q = nI t := by rw [hA q (by omega), hs]; rfl
      rw [e]
      refine br_f (ed_m3 (by omega)) ⟨pk_in (q + 1) 80 (by omega), ed_rd (q + 1) (hT (q + 1) hp) ⟨pk_in q 80 (by omega), pk_in t 80 (by omega), ed_rd t (hK t ht) ?_⟩⟩
      have G1 := fun z => h1 t (tk_co_1 (c := c) (p := q + 1) (s := s) hs z)
      have G0 := fun z => h0 (tk_co_0 (c := c) (p := q + 1) (s := s) hs z)
      refine br_f (nI_pos (by omega)) (pk_lt 2 (s.2.1 t) (fun h => G0 (by omega)) (fun h => ?_))
      refine pk_eq (s.2.1 t) 0 (fun h2 => pk_lt 9 (c (q + 1)) (fun h3 => G0 (by omega)) (fun h3 => G1 (by omega))) (fun h2 => ?_)
      refine pk_eq (s.2.1 t) 1 (fun h2 => pk_lt (c (q + 1)) 5 (fun h3 => G0 (by omega)) (fun h3 => pk_lt 9 (c (q + 1)) (fun h3 => G0 (by omega)) (fun h3 => G1 (by omega)))) (fun h2 => ?_)
      refine pk_eq (s.2.1 t) 2 (fun h2 => pk_eq (c (q + 1)) 10 (fun h3 => G1 (by omega)) (fun h3 => G0 (by omega))) (fun h2 => ?_)
      first | trivial | (exfalso; omega)
theorem xt_continue {post : SX → Prop} {c : Nat → Nat} {n p t : Nat} {s : tk_S} (hn : n ≤ 80) (hp : p < n) (hI : tk_I p s) (hA : ed_ao a_characterToken s.2.2.2.2 p) (hK : ed_ag a_tokenKind s.2.1 s.1) (hco : tk_co c p s = some t)
    (h : ∀ K : Nat → Int32, ed_ag K (if s.2.1 t = 2 then ed_fu s.2.1 t 3 else s.2.1) s.1 → post (f_size, f_tokenCount, f_itemCount, f_blockCount, f_openCount, f_looseCount, a_text, upd a_characterToken p (nI t), K, a_tokenStart, upd a_tokenEnd t (nI (p + 1)), a_tokenItem, a_tokenMeaning, a_itemFirst, a_itemEnd, a_itemSort, a_itemDepth, a_itemBlock, a_itemUses, a_itemKnown, a_itemValue, a_blockEnd, a_openBlocks, a_levelCompares, a_levelLeft, a_levelSum, a_levelProduct)) : wpX_continueToken post (f_size, f_tokenCount, f_itemCount, f_blockCount, f_openCount, f_looseCount, a_text, a_characterToken, a_tokenKind, a_tokenStart, a_tokenEnd, a_tokenItem, a_tokenMeaning, a_itemFirst, a_itemEnd, a_itemSort, a_itemDepth, a_itemBlock, a_itemUses, a_itemKnown, a_itemValue, a_blockEnd, a_openBlocks, a_levelCompares, a_levelLeft, a_levelSum, a_levelProduct) (nI p) := by
  obtain ⟨g1, g2⟩ := tk_co_s hco
  cases p with
  | zero => cases g1
  | succ q =>
    have hs : s.2.2.2.2 q = some t := g1
    have ht : t < s.1 := hI.2.1 q t (by omega) hs
    have hm : s.1 ≤ q + 1 := hI.1
    have hk : s.2.1 t ≤ 10 := hI.2.2.2.2.2.1 t ht
    have e : a_characterToken q = nI t := by rw [hA q (by omega), hs]; rfl
    refine ⟨pk_in q 80 (by omega) (nI_pred q), ed_rd q e ⟨pk_in t 80 (by omega), ?_⟩ (nI_pred q)⟩
    have e2 : a_tokenKind (nI t).toNatClampNeg = nI (s.2.1 t) := ed_rt t (hK t ht)
    refine pk_eq (s.2.1 t) 2 (fun h2 => ⟨pk_in t 80 (by omega), ed_nu t ?_⟩) (fun h2 => ?_) e2
    · refine ⟨pk_in t 80 (by omega), ed_nuv t (nI (q + 1 + 1)) (nI_1 (q + 1)) ⟨pk_in (q + 1) 80 (by omega), ed_nu (q + 1) ?_⟩⟩
      refine h _ ?_
      rw [if_pos h2]; exact ed_ag_p hK
    · refine ⟨pk_in t 80 (by omega), ed_nuv t (nI (q + 1 + 1)) (nI_1 (q + 1)) ⟨pk_in (q + 1) 80 (by omega), ed_nu (q + 1) ?_⟩⟩
      refine h _ ?_
      rw [if_neg h2]; exact hK
theorem xt_kind {post : Int32 → Prop} {c : Nat} (hc : c ≤ 18) (h : post (nI (tk_kb c))) : wpX_kindBegunBy post (f_size, f_tokenCount, f_itemCount, f_blockCount, f_openCount, f_looseCount, a_text, a_characterToken, a_tokenKind, a_tokenStart, a_tokenEnd, a_tokenItem, a_tokenMeaning, a_itemFirst, a_itemEnd, a_itemSort, a_itemDepth, a_itemBlock, a_itemUses, a_itemKnown, a_itemValue, a_blockEnd, a_openBlocks, a_levelCompares, a_levelLeft, a_levelSum, a_levelProduct) (nI c) := by
  refine pk_lt 4 c (fun h4 => pk_lt 9 c (fun h9 => pk_eq c 10 (fun h10 => ?_) (fun h10 => ?_)) (fun h9 => ?_)) (fun h4 => ?_)
  · have e : tk_kb c = 2 := by unfold tk_kb; rw [if_neg (by omega), if_neg (by omega), if_pos h10]
    rw [e] at h; exact h
  · have e : tk_kb c = c - 7 := by unfold tk_kb; rw [if_neg (by omega), if_neg (by omega), if_neg h10]
    have e2 : nI c - 11 + 4 = nI (c - 7) := by
      rw [show (11 : Int32) = nI 11 from rfl, pk_sub (by omega), show (4 : Int32) = nI 4 from rfl, nI_add]
      exact congrArg nI (by omega)
    rw [e] at h; rw [e2]; exact h
  · have e : tk_kb c = 1 := by unfold tk_kb; rw [if_neg (by omega), if_pos (by omega)]
    rw [e] at h; exact h
  · have e : tk_kb c = 0 := by unfold tk_kb; rw [if_pos (by omega)]
    rw [e] at h; exact h
theorem xt_begin {post : SX → Prop} {c : Nat → Nat} {n p m : Nat} (hn : n ≤ 80) (hp : p < n) (hc : c p ≤ 18) (hT : ed_ag a_text c n) (hm : m ≤ p)
    (h : post (f_size, nI (m + 1), f_itemCount, f_blockCount, f_openCount, f_looseCount, a_text, upd a_characterToken p (nI m), upd a_tokenKind m (nI (tk_kb (c p))), upd a_tokenStart m (nI p), upd a_tokenEnd m (nI (p + 1)), a_tokenItem, a_tokenMeaning, a_itemFirst, a_itemEnd, a_itemSort, a_itemDepth, a_itemBlock, a_itemUses, a_itemKnown, a_itemValue, a_blockEnd, a_openBlocks, a_levelCompares, a_levelLeft, a_levelSum, a_levelProduct)) : wpX_beginToken post (f_size, nI m, f_itemCount, f_blockCount, f_openCount, f_looseCount, a_text, a_characterToken, a_tokenKind, a_tokenStart, a_tokenEnd, a_tokenItem, a_tokenMeaning, a_itemFirst, a_itemEnd, a_itemSort, a_itemDepth, a_itemBlock, a_itemUses, a_itemKnown, a_itemValue, a_blockEnd, a_openBlocks, a_levelCompares, a_levelLeft, a_levelSum, a_levelProduct) (nI p) := by
  refine ⟨pk_in p 80 (by omega), ?_⟩
  rw [ed_rt p (hT p hp)]
  refine xt_kind hc ?_
  refine ⟨pk_in m 80 (by omega), ed_nu m ⟨pk_in m 80 (by omega), ed_nu m ⟨pk_in m 80 (by omega), ed_nuv m (nI (p + 1)) (nI_1 p) ⟨pk_in p 80 (by omega), ed_nu p (nm_r (nI_1 m) h)⟩⟩⟩⟩
theorem xt_loop {post : SX → Prop} {c : Nat → Nat} {n : Nat} (hn : n ≤ 80) (hc : ∀ j, j < n → c j ≤ 18) (hT : ed_ag a_text c n)
    (hP : ∀ (a_characterToken a_tokenKind a_tokenStart a_tokenEnd : Nat → Int32), ed_ao a_characterToken (tk_r c n).2.2.2.2 n → ed_ag a_tokenKind (tk_r c n).2.1 (tk_r c n).1 → ed_ag a_tokenStart (tk_r c n).2.2.1 (tk_r c n).1 → ed_ag a_tokenEnd (tk_r c n).2.2.2.1 (tk_r c n).1 → post (nI n, nI (tk_r c n).1, f_itemCount, f_blockCount, f_openCount, f_looseCount, a_text, a_characterToken, a_tokenKind, a_tokenStart, a_tokenEnd, a_tokenItem, a_tokenMeaning, a_itemFirst, a_itemEnd, a_itemSort, a_itemDepth, a_itemBlock, a_itemUses, a_itemKnown, a_itemValue, a_blockEnd, a_openBlocks, a_levelCompares, a_levelLeft, a_levelSum, a_levelProduct)) :
    ∀ d p, p + d = n → ∀ f, d < f → ∀ (a_characterToken a_tokenKind a_tokenStart a_tokenEnd : Nat → Int32), ed_ao a_characterToken (tk_r c p).2.2.2.2 p → ed_ag a_tokenKind (tk_r c p).2.1 (tk_r c p).1 → ed_ag a_tokenStart (tk_r c p).2.2.1 (tk_r c p).1 → ed_ag a_tokenEnd (tk_r c p).2.2.2.1 (tk_r c p).1 →
      (wX_readTokens_7 post f (nI p) (nI n) (nI (tk_r c p).1) f_itemCount f_blockCount f_openCount f_looseCount a_text a_characterToken a_tokenKind a_tokenStart a_tokenEnd a_tokenItem a_tokenMeaning a_itemFirst a_itemEnd a_itemSort a_itemDepth a_itemBlock a_itemUses a_itemKnown a_itemValue a_blockEnd a_openBlocks a_levelCompares a_levelLeft a_levelSum a_levelProduct) := by
  intro d
  induction d with
  | zero =>
    intro p hp f hf CT TK TS TE h1 h2 h3 h4
    obtain ⟨f, rfl⟩ : ∃ g, f = g + 1 := ⟨f - 1, by omega⟩
    have e : p = n := by omega
    subst e
    exact br_t (nI_le (Nat.le_refl _) (by omega)) (hP CT TK TS TE h1 h2 h3 h4)
  | succ d ih =>
    intro p hp f hf CT TK TS TE h1 h2 h3 h4
    obtain ⟨f, rfl⟩ : ∃ g, f = g + 1 := ⟨f - 1, by omega⟩
    have hI := tk_Ir hc p (by omega)
    have hm : (tk_r c p).1 ≤ p := hI.1
    have hcp := hc p (by omega)
    have hr : tk_r c (p + 1) = tk_step c p (tk_r c p) := rfl
    have ih := ih (p + 1) (by omega) f (by omega)
    refine br_f (nI_ge (by omega) (by omega)) ⟨pk_in p 80 (by omega), pk_eq (c p) 18 (fun h18 => ?_) (fun h18 => ?_) (ed_rt p (hT p (by omega)))⟩
    · refine ⟨pk_in p 80 (by omega), ed_nu p (nm_r (nI_1 p) ?_)⟩
      rw [hr, tk_sp h18] at ih
      exact ih _ _ _ _ (ed_ao_s (x := none) h1) h2 h3 h4
    · refine xt_continues hn (by omega) hc hT hI h1 h2 (fun t hco => ?_) (fun hco => ?_)
      · refine br_f (by decide) ?_
        refine xt_continue hn (by omega) hI h1 h2 hco (fun K hK => ?_)
        rw [hr, tk_cn h18 hco] at ih
        exact nm_r (nI_1 p) (ih _ _ _ _ (ed_ao_s (x := some t) h1) hK h3 (ed_ag_p h4))
      · refine br_t rfl ?_
        refine xt_begin hn (by omega) hcp hT hm ?_
        rw [hr, tk_bg h18 hco] at ih
        exact nm_r (nI_1 p) (ih _ _ _ _ (ed_ao_s (x := some (tk_r c p).1) h1) (ed_ag_s h2) (ed_ag_s h3) (ed_ag_s h4))
theorem xt_read {post : SX → Prop} {c : Nat → Nat} {n : Nat} (hn : n ≤ 80) (hc : ∀ j, j < n → c j ≤ 18) (hT : ed_ag a_text c n)
    (hP : ∀ (a_characterToken a_tokenKind a_tokenStart a_tokenEnd : Nat → Int32), ed_ao a_characterToken (tk_r c n).2.2.2.2 n → ed_ag a_tokenKind (tk_r c n).2.1 (tk_r c n).1 → ed_ag a_tokenStart (tk_r c n).2.2.1 (tk_r c n).1 → ed_ag a_tokenEnd (tk_r c n).2.2.2.1 (tk_r c n).1 → post (nI n, nI (tk_r c n).1, f_itemCount, f_blockCount, f_openCount, f_looseCount, a_text, a_characterToken, a_tokenKind, a_tokenStart, a_tokenEnd, a_tokenItem, a_tokenMeaning, a_itemFirst, a_itemEnd, a_itemSort, a_itemDepth, a_itemBlock, a_itemUses, a_itemKnown, a_itemValue, a_blockEnd, a_openBlocks, a_levelCompares, a_levelLeft, a_levelSum, a_levelProduct)) :
    wpX_readTokens post (nI n, f_tokenCount, f_itemCount, f_blockCount, f_openCount, f_looseCount, a_text, a_characterToken, a_tokenKind, a_tokenStart, a_tokenEnd, a_tokenItem, a_tokenMeaning, a_itemFirst, a_itemEnd, a_itemSort, a_itemDepth, a_itemBlock, a_itemUses, a_itemKnown, a_itemValue, a_blockEnd, a_openBlocks, a_levelCompares, a_levelLeft, a_levelSum, a_levelProduct) := by
  refine ⟨n + 1, ?_⟩
  exact xt_loop hn hc hT hP n 0 (by omega) (n + 1) (by omega) _ _ _ _ (fun j hj => absurd hj (Nat.not_lt_zero _)) (fun j hj => absurd hj (Nat.not_lt_zero _)) (fun j hj => absurd hj (Nat.not_lt_zero _)) (fun j hj => absurd hj (Nat.not_lt_zero _))
end
end
section
section
/-! a token as Y reads it, all at once, against the pure pass -/
theorem tk_run {c : Nat → Nat} {p q0 : Nat} (hq0 : q0 = p + 1) (h18 : ¬ c p = 18) (hco : tk_co c p (tk_r c p) = none) (hk : tk_kb (c p) ≤ 1) : ∀ e, (∀ j, q0 ≤ j → j < q0 + e → tk_ck (tk_kb (c p)) (c j) = true) →
    ∃ aa, tk_r c (q0 + e) = ((tk_r c p).1 + 1, ed_fu (tk_r c p).2.1 (tk_r c p).1 (tk_kb (c p)), ed_fu (tk_r c p).2.2.1 (tk_r c p).1 p, ed_fu (tk_r c p).2.2.2.1 (tk_r c p).1 (q0 + e), aa) ∧ tk_pv aa (q0 + e) = some (tk_r c p).1 := by
  subst hq0
  intro e
  induction e with
  | zero =>
    intro _
    refine ⟨ed_fu (tk_r c p).2.2.2.2 p (some (tk_r c p).1), ?_, ?_⟩
    · show tk_step c p (tk_r c p) = _
      rw [tk_bg h18 hco]
    · exact ed_fs
  | succ e ih =>
    intro hj
    obtain ⟨aa, h1, h2⟩ := ih (fun j a b => hj j a (by omega))
    have hc := hj (p + 1 + e) (by omega) (by omega)
    have hcP := tk_ckP.mp hc
    have hr : tk_r c (p + 1 + (e + 1)) = tk_step c (p + 1 + e) (tk_r c (p + 1 + e)) := rfl
    have hco2 : tk_co c (p + 1 + e) (tk_r c (p + 1 + e)) = some (tk_r c p).1 := by
      refine tk_co_1 (by rw [h1]; exact h2) ?_
      rw [h1]
      dsimp only
      rw [ed_fs]; omega
    rw [hr, tk_cn (by omega) hco2, h1]
    dsimp only
    rw [if_neg (by rw [ed_fs]; omega), ed_ff]
    exact ⟨_, rfl, ed_fs⟩
theorem tk_af1 {c : Nat → Nat} {p q : Nat} (h18 : ¬ c p = 18) (hco : tk_co c p (tk_r c p) = none) (hk : tk_kb (c p) ≤ 1) (hq : p + 1 ≤ q) (hj : ∀ j, p + 1 ≤ j → j < q → tk_ck (tk_kb (c p)) (c j) = true) {n : Nat} (hn : q < n → ¬ tk_ck (tk_kb (c p)) (c q) = true) :
    (∃ aa, tk_r c q = ((tk_r c p).1 + 1, ed_fu (tk_r c p).2.1 (tk_r c p).1 (tk_kb (c p)), ed_fu (tk_r c p).2.2.1 (tk_r c p).1 p, ed_fu (tk_r c p).2.2.2.1 (tk_r c p).1 q, aa)) ∧ (q < n → tk_co c q (tk_r c q) = none) := by
  obtain ⟨aa, h1, h2⟩ := tk_run rfl h18 hco hk (q - (p + 1)) (fun j a b => hj j a (by omega))
  rw [show p + 1 + (q - (p + 1)) = q from by omega] at h1 h2
  refine ⟨⟨aa, h1⟩, fun hq => ?_⟩
  rw [tk_co_i (by rw [h1]; exact h2), if_neg]
  rw [h1]; dsimp only; rw [ed_fs]; exact hn hq
theorem tk_af2 {c : Nat → Nat} {p : Nat} (h18 : ¬ c p = 18) (hco : tk_co c p (tk_r c p) = none) (hk : 2 ≤ tk_kb (c p)) {n : Nat} (hd : tk_kb (c p) = 2 → p + 1 < n → ¬ c (p + 1) = 10) :
    (∃ aa, tk_r c (p + 1) = ((tk_r c p).1 + 1, ed_fu (tk_r c p).2.1 (tk_r c p).1 (tk_kb (c p)), ed_fu (tk_r c p).2.2.1 (tk_r c p).1 p, ed_fu (tk_r c p).2.2.2.1 (tk_r c p).1 (p + 1), aa)) ∧ (p + 1 < n → tk_co c (p + 1) (tk_r c (p + 1)) = none) := by
  have h1 : tk_r c (p + 1) = _ := tk_bg h18 hco
  refine ⟨⟨_, h1⟩, fun hq => ?_⟩
  have hv : tk_pv (tk_r c (p + 1)).2.2.2.2 (p + 1) = some (tk_r c p).1 := by rw [h1]; exact ed_fs
  refine tk_co_0 hv ?_
  rw [h1]; dsimp only; rw [ed_fs]
  by_cases e : tk_kb (c p) = 2
  · have := hd e hq; omega
  · omega
theorem tk_af3 {c : Nat → Nat} {p : Nat} (hp : c p = 10) (hp1 : c (p + 1) = 10) (hco : tk_co c p (tk_r c p) = none) :
    (∃ aa, tk_r c (p + 2) = ((tk_r c p).1 + 1, ed_fu (tk_r c p).2.1 (tk_r c p).1 3, ed_fu (tk_r c p).2.2.1 (tk_r c p).1 p, ed_fu (tk_r c p).2.2.2.1 (tk_r c p).1 (p + 2), aa)) ∧ tk_co c (p + 2) (tk_r c (p + 2)) = none := by
  have hb : tk_kb (c p) = 2 := by rw [hp]; rfl
  have h1 : tk_r c (p + 1) = _ := tk_bg (by omega) hco
  have hv : tk_pv (tk_r c (p + 1)).2.2.2.2 (p + 1) = some (tk_r c p).1 := by rw [h1]; exact ed_fs
  have hco2 : tk_co c (p + 1) (tk_r c (p + 1)) = some (tk_r c p).1 := by
    refine tk_co_1 hv ?_
    rw [h1]; dsimp only; rw [ed_fs]; omega
  have h2 : tk_r c (p + 2) = _ := tk_cn (c := c) (p := p + 1) (s := tk_r c (p + 1)) (by omega) hco2
  have hk : (tk_r c (p + 1)).2.1 (tk_r c p).1 = 2 := by rw [h1]; dsimp only; rw [ed_fs, hb]
  rw [if_pos hk, h1] at h2
  dsimp only at h2
  rw [ed_ff, ed_ff] at h2
  refine ⟨⟨_, h2⟩, ?_⟩
  have hv2 : tk_pv (tk_r c (p + 2)).2.2.2.2 (p + 2) = some (tk_r c p).1 := by rw [h2]; exact ed_fs
  refine tk_co_0 hv2 ?_
  rw [h2]; dsimp only; rw [ed_fs]; omega
def yt_k (c : Nat → Nat) (n p : Nat) : Nat := if c p = 10 ∧ p + 1 < n ∧ c (p + 1) = 10 then 3 else tk_kb (c p)
end
section
/-! Y reads the tokens -/
variable {f_length f_tokenCount f_itemCount f_blockCount f_looseCount f_numberCount f_operatorCount : Int32} {a_text a_kinds a_starts a_ends a_owners a_meant a_firsts a_lasts a_sorts a_blocks a_knowns a_values a_around a_depths a_compared a_numbers a_operators : Nat → Int32}
theorem yt_isAt {post : Int32 → Prop} {c : Nat → Nat} {n p lo hi : Nat} (hn : n ≤ 80) (hp : p ≤ 100) (hT : ed_ag a_text c n) (hc : ∀ j, j < n → c j ≤ 18) (hlo : lo < 100) (hhi : hi < 100) (h1 : p < n → lo ≤ c p → c p ≤ hi → post 1) (h0 : (p < n → lo ≤ c p → ¬ c p ≤ hi) → post 0) :
    wpY_isAt post (nI n, f_tokenCount, f_itemCount, f_blockCount, f_looseCount, f_numberCount, f_operatorCount, a_text, a_kinds, a_starts, a_ends, a_owners, a_meant, a_firsts, a_lasts, a_sorts, a_blocks, a_knowns, a_values, a_around, a_depths, a_compared, a_numbers, a_operators) (nI p) (nI lo) (nI hi) := by
  refine pk_le n p (fun h => h0 (by intro; omega)) (fun h => ?_)
  have := hc p h
  refine ⟨pk_in p 81 (by omega), pk_lt (c p) lo (fun h2 => h0 (by intros; omega)) (fun h2 => ⟨pk_in p 81 (by omega), pk_lt hi (c p) (fun h3 => h0 (by intros; omega)) (fun h3 => h1 h h2 h3) rfl (ed_rt p (hT p h))⟩) (ed_rt p (hT p h))⟩
theorem yt_kindAt {post : Int32 → Prop} {c : Nat → Nat} {n p : Nat} (hn : n ≤ 80) (hp : p < n) (hT : ed_ag a_text c n) (hc : ∀ j, j < n → c j ≤ 18) (h : post (nI (yt_k c n p))) :
    wpY_kindAt post (nI n, f_tokenCount, f_itemCount, f_blockCount, f_looseCount, f_numberCount, f_operatorCount, a_text, a_kinds, a_starts, a_ends, a_owners, a_meant, a_firsts, a_lasts, a_sorts, a_blocks, a_knowns, a_values, a_around, a_depths, a_compared, a_numbers, a_operators) (nI p) := by
  have hcp := hc p hp
  refine ⟨pk_in p 81 (by omega), ed_rd p (hT p hp) ?_⟩
  refine pk_le 10 (c p) (fun h10 => pk_eq (c p) 10 (fun e => ?_) (fun e => ?_)) (fun h10 => pk_le 5 (c p) (fun h5 => ?_) (fun h5 => ?_))
  · rw [nI_1 p]
    refine yt_isAt (lo := 10) (hi := 10) hn (by omega) hT hc (by omega) (by omega) (fun a b d => ?_) (fun a => ?_)
    · refine br_f (by decide) ?_
      have : yt_k c n p = 3 := by unfold yt_k; rw [if_pos ⟨e, a, by omega⟩]
      rw [this] at h; exact h
    · refine br_t rfl ?_
      have : yt_k c n p = 2 := by
        unfold yt_k; rw [if_neg (by rintro ⟨x, y, z⟩; have := a y (by omega); omega)]
        unfold tk_kb; rw [if_neg (by omega), if_neg (by omega), if_pos e]
      rw [this] at h; exact h
  · have e2 : yt_k c n p = c p - 7 := by
      unfold yt_k; rw [if_neg (by omega)]
      unfold tk_kb; rw [if_neg (by omega), if_neg (by omega), if_neg e]
    have e3 : nI (c p) - 7 = nI (c p - 7) := by rw [show (7 : Int32) = nI 7 from rfl, pk_sub (by omega)]
    rw [e2] at h; rw [e3]; exact h
  · have e2 : yt_k c n p = 1 := by
      unfold yt_k; rw [if_neg (by omega)]
      unfold tk_kb; rw [if_neg (by omega), if_pos (by omega)]
    rw [e2] at h; exact h
  · have e2 : yt_k c n p = 0 := by
      unfold yt_k; rw [if_neg (by omega)]
      unfold tk_kb; rw [if_pos (by omega)]
    rw [e2] at h; exact h
theorem yt_end {post : SY → Prop} {J7 : Int32 → Int32 → (Nat → Int32) → (Nat → Int32) → (Nat → Int32) → (Nat → Int32) → (Nat → Int32) → (Nat → Int32) → (Nat → Int32) → (Nat → Int32) → (Nat → Int32) → (Nat → Int32) → (Nat → Int32) → (Nat → Int32) → (Nat → Int32) → (Nat → Int32) → (Nat → Int32) → (Nat → Int32) → (Nat → Int32) → Prop} {m q : Nat} (hm : m < 80)
    (h : J7 (nI q) (nI (m + 1)) a_text a_kinds a_starts (upd a_ends m (nI q)) (upd a_owners m (-3)) (upd a_meant m (-3)) a_firsts a_lasts a_sorts a_blocks a_knowns a_values a_around a_depths a_compared a_numbers a_operators) : (wY_readTokens_103 post J7 (nI q) f_length (nI m) f_itemCount f_blockCount f_looseCount f_numberCount f_operatorCount a_text a_kinds a_starts a_ends a_owners a_meant a_firsts a_lasts a_sorts a_blocks a_knowns a_values a_around a_depths a_compared a_numbers a_operators) :=
  ⟨pk_in m 80 hm, ed_nu m ⟨pk_in m 80 hm, ed_nu m ⟨pk_in m 80 hm, ed_nu m (nm_r (nI_1 m) h)⟩⟩⟩
theorem yt_in {post : SY → Prop} {J7 : Int32 → Int32 → (Nat → Int32) → (Nat → Int32) → (Nat → Int32) → (Nat → Int32) → (Nat → Int32) → (Nat → Int32) → (Nat → Int32) → (Nat → Int32) → (Nat → Int32) → (Nat → Int32) → (Nat → Int32) → (Nat → Int32) → (Nat → Int32) → (Nat → Int32) → (Nat → Int32) → (Nat → Int32) → (Nat → Int32) → Prop} {c : Nat → Nat} {n m κ : Nat} (hn : n ≤ 80) (hm : m < 80) (hT : ed_ag a_text c n) (hc : ∀ j, j < n → c j ≤ 18) (hκ : κ ≤ 1) :
    ∀ d q, q + d = n → ∀ f, d < f → (∀ q', q ≤ q' → q' ≤ n → (∀ j, q ≤ j → j < q' → tk_ck κ (c j) = true) → (q' < n → ¬ tk_ck κ (c q') = true) → J7 (nI q') (nI (m + 1)) a_text a_kinds a_starts (upd a_ends m (nI q')) (upd a_owners m (-3)) (upd a_meant m (-3)) a_firsts a_lasts a_sorts a_blocks a_knowns a_values a_around a_depths a_compared a_numbers a_operators) →
      (wY_readTokens_73 post J7 (nI κ) (nI n) (nI m) f_itemCount f_blockCount f_looseCount f_numberCount f_operatorCount a_text a_kinds a_starts a_ends a_owners a_meant a_firsts a_lasts a_sorts a_blocks a_knowns a_values a_around a_depths a_compared a_numbers a_operators f (nI q)) := by
  intro d
  induction d with
  | zero =>
    intro q hq f hf hJ
    obtain ⟨f, rfl⟩ : ∃ g, f = g + 1 := ⟨f - 1, by omega⟩
    have hE : (wY_readTokens_103 post J7 (nI q) (nI n) (nI m) f_itemCount f_blockCount f_looseCount f_numberCount f_operatorCount a_text a_kinds a_starts a_ends a_owners a_meant a_firsts a_lasts a_sorts a_blocks a_knowns a_values a_around a_depths a_compared a_numbers a_operators) := yt_end hm (hJ q (Nat.le_refl _) (by omega) (fun j a b => by omega) (fun a => by omega))
    refine br_f (nI_ge (b := 2) (by omega) (by decide)) (pk_eq κ 0 (fun e => ?_) (fun e => ?_))
    · exact yt_isAt (lo := 0) (hi := 9) hn (by omega) hT hc (by omega) (by omega) (fun a => by omega) (fun _ => br_t rfl hE)
    · exact yt_isAt (lo := 5) (hi := 9) hn (by omega) hT hc (by omega) (by omega) (fun a => by omega) (fun _ => br_t rfl hE)
  | succ d ih =>
    intro q hq f hf hJ
    obtain ⟨f, rfl⟩ : ∃ g, f = g + 1 := ⟨f - 1, by omega⟩
    have hstop : ¬ tk_ck κ (c q) = true → (wY_readTokens_103 post J7 (nI q) (nI n) (nI m) f_itemCount f_blockCount f_looseCount f_numberCount f_operatorCount a_text a_kinds a_starts a_ends a_owners a_meant a_firsts a_lasts a_sorts a_blocks a_knowns a_values a_around a_depths a_compared a_numbers a_operators) := fun z => yt_end hm (hJ q (Nat.le_refl _) (by omega) (fun j a b => by omega) (fun _ => z))
    have hgo : tk_ck κ (c q) = true → (wY_readTokens_73 post J7 (nI κ) (nI n) (nI m) f_itemCount f_blockCount f_looseCount f_numberCount f_operatorCount a_text a_kinds a_starts a_ends a_owners a_meant a_firsts a_lasts a_sorts a_blocks a_knowns a_values a_around a_depths a_compared a_numbers a_operators f (nI (q + 1))) := fun z => ih (q + 1) (by omega) f (by omega) (fun q' a b e1 e2 => hJ q' (by omega) b (fun j a1 b1 => by
      by_cases e : j = q
      · rw [e]; exact z
      · exact e1 j (by omega) b1) e2)
    refine br_f (nI_ge (b := 2) (by omega) (by decide)) (pk_eq κ 0 (fun e => ?_) (fun e => ?_))
    · refine yt_isAt (lo := 0) (hi := 9) hn (by omega) hT hc (by omega) (by omega) (fun _ a b => br_f (by decide) (nm_r (nI_1 q) (hgo (tk_ckP.mpr (by omega))))) (fun a => br_t rfl (hstop (fun z => ?_)))
      have := tk_ckP.mp z
      have := a (by omega) (by omega)
      omega
    · refine yt_isAt (lo := 5) (hi := 9) hn (by omega) hT hc (by omega) (by omega) (fun _ a b => br_f (by decide) (nm_r (nI_1 q) (hgo (tk_ckP.mpr (by omega))))) (fun a => br_t rfl (hstop (fun z => ?_)))
      have := tk_ckP.mp z
      have := a (by omega)
      omega
theorem yt_loop {post : SY → Prop} {c : Nat → Nat} {n : Nat} (hn : n ≤ 80) (hc : ∀ j, j < n → c j ≤ 18) (hT : ed_ag a_text c n)
    (hP : ∀ (a_kinds a_starts a_ends a_owners a_meant : Nat → Int32), ed_ag a_kinds (tk_r c n).2.1 (tk_r c n).1 → ed_ag a_starts (tk_r c n).2.2.1 (tk_r c n).1 → ed_ag a_ends (tk_r c n).2.2.2.1 (tk_r c n).1 → (∀ t, t < (tk_r c n).1 → a_owners t = -3) → (∀ t, t < (tk_r c n).1 → a_meant t = -3) → post (nI n, nI (tk_r c n).1, f_itemCount, f_blockCount, f_looseCount, f_numberCount, f_operatorCount, a_text, a_kinds, a_starts, a_ends, a_owners, a_meant, a_firsts, a_lasts, a_sorts, a_blocks, a_knowns, a_values, a_around, a_depths, a_compared, a_numbers, a_operators)) :
    ∀ d p, n - p ≤ d → p ≤ n → (p < n → tk_co c p (tk_r c p) = none) → ∀ f, d < f → ∀ (a_kinds a_starts a_ends a_owners a_meant : Nat → Int32), ed_ag a_kinds (tk_r c p).2.1 (tk_r c p).1 → ed_ag a_starts (tk_r c p).2.2.1 (tk_r c p).1 → ed_ag a_ends (tk_r c p).2.2.2.1 (tk_r c p).1 → (∀ t, t < (tk_r c p).1 → a_owners t = -3) → (∀ t, t < (tk_r c p).1 → a_meant t = -3) →
      (wY_readTokens_7 post (nI n) f_itemCount f_blockCount f_looseCount f_numberCount f_operatorCount f (nI p) (nI (tk_r c p).1) a_text a_kinds a_starts a_ends a_owners a_meant a_firsts a_lasts a_sorts a_blocks a_knowns a_values a_around a_depths a_compared a_numbers a_operators) := by
  intro d
  induction d with
  | zero =>
    intro p hd hp hco f hf K S E O M h1 h2 h3 h4 h5
    obtain ⟨f, rfl⟩ : ∃ g, f = g + 1 := ⟨f - 1, by omega⟩
    have e : p = n := by omega
    subst e
    exact br_t (nI_le (Nat.le_refl _) (by omega)) (hP K S E O M h1 h2 h3 h4 h5)
  | succ d ih =>
    intro p hd hp hco f hf K S E O M h1 h2 h3 h4 h5
    obtain ⟨f, rfl⟩ : ∃ g, f = g + 1 := ⟨f - 1, by omega⟩
    by_cases hpn : p = n
    · subst hpn
      exact br_t (nI_le (Nat.le_refl _) (by omega)) (hP K S E O M h1 h2 h3 h4 h5)
    · have hp2 : p < n := by omega
      have hco := hco hp2
      have hcp := hc p hp2
      have hI := tk_Ir hc p hp
      have hm : (tk_r c p).1 ≤ p := hI.1
      have hr : tk_r c (p + 1) = tk_step c p (tk_r c p) := rfl
      refine br_f (nI_ge (by omega) (by omega)) ⟨pk_in p 81 (by omega), pk_eq (c p) 18 (fun h18 => ?_) (fun h18 => ?_) (ed_rt p (hT p hp2))⟩
      · refine nm_r (nI_1 p) ?_
        have ih := ih (p + 1) (by omega) (by omega) (fun _ => tk_co_n (by rw [hr, tk_sp h18]; exact ed_fs)) f (by omega)
        rw [hr, tk_sp h18] at ih
        exact ih K S E O M h1 h2 h3 h4 h5
      · have hu3 : ∀ (a : Nat → Int32), (∀ t, t < (tk_r c p).1 → a t = -3) → ∀ t, t < (tk_r c p).1 + 1 → upd a (tk_r c p).1 (-3) t = -3 := by
          intro a ha t ht
          by_cases z : t = (tk_r c p).1
          · rw [z, pk_us]
          · rw [pk_un z]; exact ha t (by omega)
        have hnext : ∀ q κ, p < q → q ≤ n → (∃ aa, tk_r c q = ((tk_r c p).1 + 1, ed_fu (tk_r c p).2.1 (tk_r c p).1 κ, ed_fu (tk_r c p).2.2.1 (tk_r c p).1 p, ed_fu (tk_r c p).2.2.2.1 (tk_r c p).1 q, aa)) → (q < n → tk_co c q (tk_r c q) = none) →
            (wY_readTokens_7 post (nI n) f_itemCount f_blockCount f_looseCount f_numberCount f_operatorCount f (nI q) (nI ((tk_r c p).1 + 1)) a_text (upd K (tk_r c p).1 (nI κ)) (upd S (tk_r c p).1 (nI p)) (upd E (tk_r c p).1 (nI q)) (upd O (tk_r c p).1 (-3)) (upd M (tk_r c p).1 (-3)) a_firsts a_lasts a_sorts a_blocks a_knowns a_values a_around a_depths a_compared a_numbers a_operators) := by
          intro q κ hq hqn hx hco2
          obtain ⟨aa, hx⟩ := hx
          have ih := ih q (by omega) hqn hco2 f (by omega)
          rw [hx] at ih
          exact ih _ _ _ _ _ (ed_ag_s h1) (ed_ag_s h2) (ed_ag_s h3) (hu3 O h4) (hu3 M h5)
        refine yt_kindAt hn hp2 hT hc ?_
        refine ⟨pk_in (tk_r c p).1 80 (by omega), ed_nu (tk_r c p).1 ⟨pk_in (tk_r c p).1 80 (by omega), ed_nu (tk_r c p).1 ?_⟩⟩
        have hkb : tk_kb (c p) ≤ 10 := tk_kb_le hcp h18
        by_cases hdb : c p = 10 ∧ p + 1 < n ∧ c (p + 1) = 10
        · have e : yt_k c n p = 3 := by unfold yt_k; rw [if_pos hdb]
          rw [e]
          refine br_t rfl (nm_r (show nI p + 2 = nI (p + 2) from nI_add p 2) ⟨1, ?_⟩)
          refine br_t (by decide) ?_
          obtain ⟨a1, a2⟩ := tk_af3 hdb.1 hdb.2.2 hco
          exact yt_end (by omega) (hnext (p + 2) 3 (by omega) (by omega) a1 (fun _ => a2))
        · have e : yt_k c n p = tk_kb (c p) := by unfold yt_k; rw [if_neg hdb]
          have hn3 : tk_kb (c p) ≠ 3 := by
            unfold tk_kb
            split
            · omega
            · split
              · omega
              · split <;> omega
          rw [e]
          refine br_f (fun z => hn3 ((nI_eq (b := 3) (by omega) (by omega)).mp z)) (nm_r (nI_1 p) ⟨n + 2, ?_⟩)
          by_cases hk : tk_kb (c p) ≤ 1
          · refine yt_in hn (by omega) hT hc hk (n - (p + 1)) (p + 1) (by omega) (n + 2) (by omega) (fun q' g1 g2 g3 g4 => ?_)
            obtain ⟨a1, a2⟩ := tk_af1 h18 hco hk g1 g3 g4
            exact hnext q' _ (by omega) g2 a1 a2
          · refine br_t (nI_le (a := 2) (by omega) (by omega)) ?_
            obtain ⟨a1, a2⟩ := tk_af2 (n := n) h18 hco (by omega) (fun h2 h3 h4 => hdb ⟨by
              unfold tk_kb at h2
              split at h2
              · omega
              · split at h2
                · omega
                · split at h2 <;> omega, h3, h4⟩)
            exact yt_end (by omega) (hnext (p + 1) _ (by omega) (by omega) a1 a2)
theorem yt_read {post : SY → Prop} {c : Nat → Nat} {n : Nat} (hn : n ≤ 80) (hc : ∀ j, j < n → c j ≤ 18) (hT : ed_ag a_text c n)
    (hP : ∀ (a_kinds a_starts a_ends a_owners a_meant : Nat → Int32), ed_ag a_kinds (tk_r c n).2.1 (tk_r c n).1 → ed_ag a_starts (tk_r c n).2.2.1 (tk_r c n).1 → ed_ag a_ends (tk_r c n).2.2.2.1 (tk_r c n).1 → (∀ t, t < (tk_r c n).1 → a_owners t = -3) → (∀ t, t < (tk_r c n).1 → a_meant t = -3) → post (nI n, nI (tk_r c n).1, f_itemCount, f_blockCount, f_looseCount, f_numberCount, f_operatorCount, a_text, a_kinds, a_starts, a_ends, a_owners, a_meant, a_firsts, a_lasts, a_sorts, a_blocks, a_knowns, a_values, a_around, a_depths, a_compared, a_numbers, a_operators)) :
    wpY_readTokens post (nI n, f_tokenCount, f_itemCount, f_blockCount, f_looseCount, f_numberCount, f_operatorCount, a_text, a_kinds, a_starts, a_ends, a_owners, a_meant, a_firsts, a_lasts, a_sorts, a_blocks, a_knowns, a_values, a_around, a_depths, a_compared, a_numbers, a_operators) := by
  refine ⟨n + 1, ?_⟩
  exact yt_loop hn hc hT hP n 0 (by omega) (by omega) (fun _ => rfl) (n + 1) (by omega) _ _ _ _ _ (fun j hj => absurd hj (Nat.not_lt_zero _)) (fun j hj => absurd hj (Nat.not_lt_zero _)) (fun j hj => absurd hj (Nat.not_lt_zero _)) (fun j hj => absurd hj (Nat.not_lt_zero _)) (fun j hj => absurd hj (Nat.not_lt_zero _))
end
end
section
section
/-! X reads the items -/
theorem it_D (k : Nat → Nat) (t : Nat) : (∀ i, i < it_cn k (t + 1) → it_in k (t + 1) i ≤ it_nb k t) ∧ (∀ i, i < it_cn k (t + 1) → ∀ b, b ∈ it_bs k t → b ≤ it_in k (t + 1) i → b ∈ it_ik k (t + 1) i) := by
  obtain ⟨h1, h2, h3, h4⟩ := it_Cp k t
  by_cases e : k t < 8
  · unfold it_in it_ik
    rw [it_cn_a e, it_tb_a e, it_tb_a e]
    exact ⟨h3, h1⟩
  · by_cases e2 : it_fr k t < t
    · unfold it_in it_ik
      rw [it_cn_c e e2, it_tb_c e e2, it_tb_c e e2]
      refine ⟨fun i hi => ?_, fun i hi b hb => ?_⟩
      · by_cases z : i = it_cn k t
        · subst z; rw [ed_fs]; exact Nat.le_refl _
        · rw [ed_fn z]; exact h3 i (by omega)
      · by_cases z : i = it_cn k t
        · subst z; rw [ed_fs, ed_fs]; exact fun _ => hb
        · rw [ed_fn z, ed_fn z]; exact h1 i (by omega) b hb
    · unfold it_in it_ik
      rw [it_cn_b e e2, it_tb_b e e2, it_tb_b e e2]
      exact ⟨h3, h1⟩
theorem xi_top {a : Nat → Int32} {bs : List Nat} (h : ed_sk a (bs.map nI ++ [0])) : a bs.length = nI (xb_h bs) := by
  cases bs with
  | nil => exact h.1
  | cons b r =>
    have e : a (r.map nI ++ [(0 : Int32)]).length = nI b := h.1
    rw [List.length_append, List.length_map] at e
    exact e
theorem xi_len {bs : List Nat} : (bs.map nI ++ [(0 : Int32)]).length = bs.length + 1 := by
  rw [List.length_append, List.length_map]; rfl
def xi_G (T cn nb lo fr : Nat) (bs : List Nat) (fi ie iN : Nat → Nat) (ik : Nat → List Nat) (f_itemCount f_blockCount f_openCount f_looseCount : Int32) (a_itemFirst a_itemEnd a_itemDepth a_itemBlock a_blockEnd a_openBlocks : Nat → Int32) : Prop :=
  f_itemCount = nI cn ∧ f_blockCount = nI nb ∧ f_openCount = nI bs.length ∧ f_looseCount = nI lo
  ∧ ed_ag a_itemFirst fi cn ∧ ed_ag a_itemEnd ie cn ∧ ed_ag a_itemDepth (fun i => (ik i).length) cn ∧ ed_ag a_itemBlock (fun i => xb_h (ik i)) cn
  ∧ ed_sk a_openBlocks (bs.map nI ++ [0]) ∧ ∃ e, ed_ag a_blockEnd e (nb + 1) ∧ xb_I T e bs nb fr cn fi ie iN ik
variable {f_size f_tokenCount f_itemCount f_blockCount f_openCount f_looseCount : Int32} {a_text a_characterToken a_tokenKind a_tokenStart a_tokenEnd a_tokenItem a_tokenMeaning a_itemFirst a_itemEnd a_itemSort a_itemDepth a_itemBlock a_itemUses a_itemKnown a_itemValue a_blockEnd a_openBlocks a_levelCompares a_levelLeft a_levelSum a_levelProduct : Nat → Int32}
theorem xi_add {post : SX → Prop} {m f t l b : Nat} (hm : f < t → m < 80) (hl : l < 81) (ht : t < 1000) (hf : f < 1000) (ho : a_openBlocks l = nI b)
    (h1 : f < t → post (f_size, f_tokenCount, nI (m + 1), f_blockCount, nI l, f_looseCount, a_text, a_characterToken, a_tokenKind, a_tokenStart, a_tokenEnd, a_tokenItem, a_tokenMeaning, upd a_itemFirst m (nI f), upd a_itemEnd m (nI t), a_itemSort, upd a_itemDepth m (nI l), upd a_itemBlock m (nI b), a_itemUses, a_itemKnown, a_itemValue, a_blockEnd, a_openBlocks, a_levelCompares, a_levelLeft, a_levelSum, a_levelProduct))
    (h0 : ¬ f < t → post (f_size, f_tokenCount, nI m, f_blockCount, nI l, f_looseCount, a_text, a_characterToken, a_tokenKind, a_tokenStart, a_tokenEnd, a_tokenItem, a_tokenMeaning, a_itemFirst, a_itemEnd, a_itemSort, a_itemDepth, a_itemBlock, a_itemUses, a_itemKnown, a_itemValue, a_blockEnd, a_openBlocks, a_levelCompares, a_levelLeft, a_levelSum, a_levelProduct)) : wpX_addItem post (f_size, f_tokenCount, nI m, f_blockCount, nI l, f_looseCount, a_text, a_characterToken, a_tokenKind, a_tokenStart, a_tokenEnd, a_tokenItem, a_tokenMeaning, a_itemFirst, a_itemEnd, a_itemSort, a_itemDepth, a_itemBlock, a_itemUses, a_itemKnown, a_itemValue, a_blockEnd, a_openBlocks, a_levelCompares, a_levelLeft, a_levelSum, a_levelProduct) (nI f) (nI t) :=
  pk_le t f (fun h => h0 (by omega)) (fun h => ⟨pk_in m 80 (hm h), ed_nu m (⟨pk_in m 80 (hm h), ed_nu m (⟨pk_in m 80 (hm h), ed_nu m (⟨pk_in l 81 hl, pk_in m 80 (hm h), ed_nuv m (nI b) (ed_rt l ho) (nm_r (nI_1 m) (h1 h)) rfl (by have := hm h; omega)⟩) rfl (by have := hm h; omega)⟩) rfl (by have := hm h; omega)⟩) rfl (by have := hm h; omega)⟩)
theorem xi_addG {post : SX → Prop} {k : Nat → Nat} {T t lo : Nat} (ht : t ≤ T) (hT : T ≤ 80) (h8 : ¬ k t < 8)
    (hG : xi_G T (it_cn k t) (it_nb k t) lo (it_fr k t) (it_bs k t) (it_fi k t) (it_ie k t) (it_in k t) (it_ik k t) f_itemCount f_blockCount f_openCount f_looseCount a_itemFirst a_itemEnd a_itemDepth a_itemBlock a_blockEnd a_openBlocks)
    (h : ∀ (f_itemCount : Int32) (a_itemFirst a_itemEnd a_itemDepth a_itemBlock : Nat → Int32), xi_G T (it_cn k (t + 1)) (it_nb k t) lo (t + 1) (it_bs k t) (it_fi k (t + 1)) (it_ie k (t + 1)) (it_in k (t + 1)) (it_ik k (t + 1)) f_itemCount f_blockCount f_openCount f_looseCount a_itemFirst a_itemEnd a_itemDepth a_itemBlock a_blockEnd a_openBlocks → post (f_size, f_tokenCount, f_itemCount, f_blockCount, f_openCount, f_looseCount, a_text, a_characterToken, a_tokenKind, a_tokenStart, a_tokenEnd, a_tokenItem, a_tokenMeaning, a_itemFirst, a_itemEnd, a_itemSort, a_itemDepth, a_itemBlock, a_itemUses, a_itemKnown, a_itemValue, a_blockEnd, a_openBlocks, a_levelCompares, a_levelLeft, a_levelSum, a_levelProduct)) :
    wpX_addItem post (f_size, f_tokenCount, f_itemCount, f_blockCount, f_openCount, f_looseCount, a_text, a_characterToken, a_tokenKind, a_tokenStart, a_tokenEnd, a_tokenItem, a_tokenMeaning, a_itemFirst, a_itemEnd, a_itemSort, a_itemDepth, a_itemBlock, a_itemUses, a_itemKnown, a_itemValue, a_blockEnd, a_openBlocks, a_levelCompares, a_levelLeft, a_levelSum, a_levelProduct) (nI (it_fr k t)) (nI t) := by
  obtain ⟨rfl, rfl, rfl, rfl, g5, g6, g7, g8, g9, e, g10, g11⟩ := hG
  obtain ⟨i1, i2, i3, i4, i5, i6⟩ := it_Ip k t
  obtain ⟨b1, b2, b3, b4⟩ := it_Bp k t
  refine xi_add (by omega) (by omega) (by omega) (by omega) (xi_top g9) (fun hlt => ?_) (fun hlt => ?_)
  · refine h _ _ _ _ _ ?_
    have q := xb_fr (fr' := t + 1) (xb_add g11 ht) (by omega)
    unfold it_fi it_ie it_in it_ik
    rw [it_cn_c h8 hlt, it_tb_c h8 hlt, it_tb_c h8 hlt, it_tb_c h8 hlt, it_tb_c h8 hlt]
    refine ⟨rfl, rfl, rfl, rfl, ed_ag_s g5, ed_ag_s g6, ?_, ?_, g9, e, g10, q⟩
    · intro j hj
      by_cases z : j = it_cn k t
      · subst z; rw [pk_us]; dsimp only; rw [ed_fs]
      · rw [pk_un z]; dsimp only; rw [ed_fn z]; exact g7 j (by omega)
    · intro j hj
      by_cases z : j = it_cn k t
      · subst z; rw [pk_us]; dsimp only; rw [ed_fs]
      · rw [pk_un z]; dsimp only; rw [ed_fn z]; exact g8 j (by omega)
  · refine h _ _ _ _ _ ?_
    unfold it_fi it_ie it_in it_ik
    rw [it_cn_b h8 hlt, it_tb_b h8 hlt, it_tb_b h8 hlt, it_tb_b h8 hlt, it_tb_b h8 hlt]
    exact ⟨rfl, rfl, rfl, rfl, g5, g6, g7, g8, g9, e, g10, xb_fr g11 (by omega)⟩
theorem xi_blk {post : SX → Prop} {k : Nat → Nat} {T t : Nat} (ht : t < T) (hT : T ≤ 80) (hk : ed_ag a_tokenKind k T) (h10 : k t ≤ 10) (h8 : ¬ k t < 8)
    (hG : xi_G T (it_cn k (t + 1)) (it_nb k t) (it_lo k t) (t + 1) (it_bs k t) (it_fi k (t + 1)) (it_ie k (t + 1)) (it_in k (t + 1)) (it_ik k (t + 1)) f_itemCount f_blockCount f_openCount f_looseCount a_itemFirst a_itemEnd a_itemDepth a_itemBlock a_blockEnd a_openBlocks)
    (h : ∀ (f_blockCount f_openCount f_looseCount : Int32) (a_blockEnd a_openBlocks : Nat → Int32), xi_G T (it_cn k (t + 1)) (it_nb k (t + 1)) (it_lo k (t + 1)) (it_fr k (t + 1)) (it_bs k (t + 1)) (it_fi k (t + 1)) (it_ie k (t + 1)) (it_in k (t + 1)) (it_ik k (t + 1)) f_itemCount f_blockCount f_openCount f_looseCount a_itemFirst a_itemEnd a_itemDepth a_itemBlock a_blockEnd a_openBlocks → post (f_size, nI T, f_itemCount, f_blockCount, f_openCount, f_looseCount, a_text, a_characterToken, a_tokenKind, a_tokenStart, a_tokenEnd, a_tokenItem, a_tokenMeaning, a_itemFirst, a_itemEnd, a_itemSort, a_itemDepth, a_itemBlock, a_itemUses, a_itemKnown, a_itemValue, a_blockEnd, a_openBlocks, a_levelCompares, a_levelLeft, a_levelSum, a_levelProduct)) :
    wpX_openOrCloseBlock post (f_size, nI T, f_itemCount, f_blockCount, f_openCount, f_looseCount, a_text, a_characterToken, a_tokenKind, a_tokenStart, a_tokenEnd, a_tokenItem, a_tokenMeaning, a_itemFirst, a_itemEnd, a_itemSort, a_itemDepth, a_itemBlock, a_itemUses, a_itemKnown, a_itemValue, a_blockEnd, a_openBlocks, a_levelCompares, a_levelLeft, a_levelSum, a_levelProduct) (nI t) := by
  obtain ⟨rfl, rfl, rfl, rfl, g5, g6, g7, g8, g9, e, g10, g11⟩ := hG
  obtain ⟨b1, b2, b3, b4⟩ := it_Bp k t
  obtain ⟨d1, d2⟩ := it_D k t
  have hie := (it_Ip k (t + 1)).2.2.2.1
  rw [it_fr_b h8] at hie h
  have ek : a_tokenKind (nI t).toNatClampNeg = nI (k t) := ed_rt t (hk t ht)
  refine ⟨pk_in t 80 (by omega), pk_eq (k t) 9 (fun h9 => ?_) (fun h9 => ⟨pk_in t 80 (by omega), pk_eq (k t) 10 (fun h10 => ?_) (fun h10 => ⟨pk_in t 80 (by omega), pk_eq (k t) 10 (fun z => absurd z h10) (fun _ => ?_) ek⟩) ek⟩) ek⟩
  · refine nm_r (nI_1 _) ⟨pk_in (it_nb k t + 1) 81 (by omega), ed_nu (it_nb k t + 1) (nm_r (nI_1 _) ⟨pk_in ((it_bs k t).length + 1) 81 (by omega), ed_nu ((it_bs k t).length + 1) ?_⟩)⟩
    refine h _ _ _ _ _ ?_
    rw [it_nb_9 h9, it_bs_9 h9, it_lo_n (by omega)]
    refine ⟨rfl, rfl, rfl, rfl, g5, g6, g7, g8, ?_, ed_fu e (it_nb k t + 1) T, ed_ag_s g10, xb_open g11 (fun b hb => (b3 b hb).2) d1⟩
    have := ed_sk_p (x := nI (it_nb k t + 1)) g9
    rw [xi_len] at this
    exact this
  · cases hb : it_bs k t with
    | nil =>
      refine br_t rfl (nm_r (nI_1 _) (h _ _ _ _ _ ?_))
      rw [it_nb_n h9, it_bs_10 h10, it_lo_p h10 hb, hb]
      rw [hb] at g9 g11
      exact ⟨rfl, rfl, rfl, rfl, g5, g6, g7, g8, g9, e, g10, g11⟩
    | cons b r =>
      have hbm : b ∈ it_bs k t := by rw [hb]; exact List.mem_cons_self
      obtain ⟨hb1, hb2⟩ := b3 b hbm
      have hl : (it_bs k t).length = r.length + 1 := by rw [hb]; rfl
      have e1 : a_openBlocks (it_bs k t).length = nI b := by
        have := xi_top g9
        rw [hb] at this; rw [hb]; exact this
      refine br_f (nI_ne0 (by rw [List.length_cons]; omega) (by rw [← hb]; omega)) ?_
      refine ⟨pk_in t 80 (by omega), br_t (by rw [ek, h10]; rfl) ⟨pk_in (r.length + 1) 81 (by omega), ?_⟩⟩
      rw [hl] at e1
      have e2 : a_openBlocks (nI (b :: r).length).toNatClampNeg = nI b := ed_rt (r.length + 1) e1
      rw [e2]
      refine ⟨pk_in b 81 (by omega), ed_nu b (nm_r (e' := nI r.length) ?_ (h _ _ _ _ _ ?_))⟩
      · exact nI_pred _
      · rw [it_nb_n h9, it_bs_10 h10, it_lo_n (by rintro ⟨_, z⟩; rw [hb] at z; cases z), hb]
        rw [hb] at g9 g11 b4
        have hbr : ¬ b ∈ r := by
          cases b4 with
          | cons x _ => intro z; have := x b z; omega
        refine ⟨rfl, rfl, rfl, rfl, g5, g6, g7, g8, g9.2, ed_fu e b t, ed_ag_p g10, xb_close g11 hb1 hbr (fun i hi => by have := (hie i hi).2.1; omega) (fun i hi => d2 i hi b hbm)⟩
  · refine h _ _ _ _ _ ?_
    rw [it_nb_n h9, it_bs_n h9 h10, it_lo_n (by omega)]
    exact ⟨rfl, rfl, rfl, rfl, g5, g6, g7, g8, g9, e, g10, g11⟩
theorem xi_loop {post : SX → Prop} {k : Nat → Nat} {T : Nat} (hT : T ≤ 80) (hk : ed_ag a_tokenKind k T) (h10 : ∀ t, t < T → k t ≤ 10) (h11 : k T = 11)
    (hP : ∀ (f_blockCount f_openCount : Int32) (a_tokenItem a_itemFirst a_itemEnd a_itemDepth a_itemBlock a_blockEnd a_openBlocks : Nat → Int32), ed_ao a_tokenItem (it_ow k) T → ed_ag a_itemFirst (it_fi k (T + 1)) (it_cn k (T + 1)) → ed_ag a_itemEnd (it_ie k (T + 1)) (it_cn k (T + 1)) → ed_ag a_itemDepth (fun i => (it_ik k (T + 1) i).length) (it_cn k (T + 1)) → ed_ag a_itemBlock (fun i => xb_h (it_ik k (T + 1) i)) (it_cn k (T + 1)) →
      (∃ e, ed_ag a_blockEnd e (it_nb k (T + 1) + 1) ∧ xb_I T e (it_bs k (T + 1)) (it_nb k (T + 1)) (it_fr k (T + 1)) (it_cn k (T + 1)) (it_fi k (T + 1)) (it_ie k (T + 1)) (it_in k (T + 1)) (it_ik k (T + 1))) → post (f_size, nI T, nI (it_cn k (T + 1)), f_blockCount, f_openCount, nI (it_lo k (T + 1) + (it_bs k (T + 1)).length), a_text, a_characterToken, a_tokenKind, a_tokenStart, a_tokenEnd, a_tokenItem, a_tokenMeaning, a_itemFirst, a_itemEnd, a_itemSort, a_itemDepth, a_itemBlock, a_itemUses, a_itemKnown, a_itemValue, a_blockEnd, a_openBlocks, a_levelCompares, a_levelLeft, a_levelSum, a_levelProduct)) :
    ∀ d t, t + d = T → ∀ f, d < f → ∀ (f_itemCount f_blockCount f_openCount f_looseCount : Int32) (a_tokenItem a_itemFirst a_itemEnd a_itemDepth a_itemBlock a_blockEnd a_openBlocks : Nat → Int32),
      xi_G T (it_cn k t) (it_nb k t) (it_lo k t) (it_fr k t) (it_bs k t) (it_fi k t) (it_ie k t) (it_in k t) (it_ik k t) f_itemCount f_blockCount f_openCount f_looseCount a_itemFirst a_itemEnd a_itemDepth a_itemBlock a_blockEnd a_openBlocks → ed_ao a_tokenItem (it_ow k) t →
      (wX_readItems_41 post f (nI (it_fr k t)) (nI t) f_size (nI T) f_itemCount f_blockCount f_openCount f_looseCount a_text a_characterToken a_tokenKind a_tokenStart a_tokenEnd a_tokenItem a_tokenMeaning a_itemFirst a_itemEnd a_itemSort a_itemDepth a_itemBlock a_itemUses a_itemKnown a_itemValue a_blockEnd a_openBlocks a_levelCompares a_levelLeft a_levelSum a_levelProduct) := by
  intro d
  induction d with
  | zero =>
    intro t ht f hf IC BC OC LC TI IF IE ID IB BE OB hG hW
    obtain ⟨f, rfl⟩ : ∃ g, f = g + 1 := ⟨f - 1, by omega⟩
    have e : t = T := by omega
    subst e
    refine br_t (nI_le (Nat.le_refl _) (by omega)) ?_
    refine xi_addG (Nat.le_refl _) hT (by omega) hG (fun IC IF IE ID IB hG => ?_)
    obtain ⟨rfl, rfl, rfl, rfl, g5, g6, g7, g8, g9, e, g10, g11⟩ := hG
    refine nm_r (nI_add _ _) ?_
    have hP := hP (nI (it_nb k t)) (nI (it_bs k t).length) TI IF IE ID IB BE OB
    rw [it_nb_n (by omega), it_bs_n (by omega) (by omega), it_lo_n (by omega), it_fr_b (by omega)] at hP
    exact hP hW g5 g6 g7 g8 ⟨e, g10, g11⟩
  | succ d ih =>
    intro t ht f hf IC BC OC LC TI IF IE ID IB BE OB hG hW
    obtain ⟨f, rfl⟩ : ∃ g, f = g + 1 := ⟨f - 1, by omega⟩
    have ih := ih (t + 1) (by omega) f (by omega)
    have ek : a_tokenKind (nI t).toNatClampNeg = nI (k t) := ed_rt t (hk t (by omega))
    have hkt := h10 t (by omega)
    refine br_f (nI_ge (by omega) (by omega)) ⟨pk_in t 80 (by omega), pk_le 8 (k t) (fun h8 => ?_) (fun h8 => ?_) rfl ek⟩
    · refine ⟨pk_in t 80 (by omega), ed_nu t ?_⟩
      have hW2 : ed_ao (upd TI t (-3)) (it_ow k) (t + 1) := by
        intro j hj
        by_cases z : j = t
        · subst z; rw [pk_us]; unfold it_ow; rw [if_neg (by omega)]; rfl
        · rw [pk_un z]; exact hW j (by omega)
      refine xi_addG (by omega) hT (by omega) hG (fun IC IF IE ID IB hG => ?_)
      refine xi_blk (by omega) hT hk hkt (by omega) hG (fun BC OC LC BE OB hG => ?_)
      refine nm_r (nI_1 t) (nm_r (nI_1 t) ?_)
      have ih := ih IC BC OC LC (upd TI t (-3)) IF IE ID IB BE OB hG hW2
      rw [it_fr_b (by omega)] at ih
      exact ih
    · refine ⟨pk_in t 80 (by omega), ed_nu t (nm_r (nI_1 t) ?_)⟩
      have hic : IC = nI (it_cn k t) := hG.1
      have hW2 : ed_ao (upd TI t IC) (it_ow k) (t + 1) := by
        intro j hj
        by_cases z : j = t
        · subst z; rw [pk_us]; unfold it_ow; rw [if_pos (by omega)]; exact hic
        · rw [pk_un z]; exact hW j (by omega)
      have h8' : k t < 8 := by omega
      unfold it_fi it_ie it_in it_ik at ih
      rw [it_cn_a h8', it_nb_n (by omega), it_lo_n (by omega), it_fr_a h8', it_bs_n (by omega) (by omega), it_tb_a h8', it_tb_a h8', it_tb_a h8', it_tb_a h8'] at ih
      exact ih IC BC OC LC (upd TI t IC) IF IE ID IB BE OB hG hW2
theorem xi_read {post : SX → Prop} {k : Nat → Nat} {T : Nat} (hT : T ≤ 80) (hk : ed_ag a_tokenKind k T) (h10 : ∀ t, t < T → k t ≤ 10) (h11 : k T = 11)
    (hP : ∀ (f_blockCount f_openCount : Int32) (a_tokenItem a_itemFirst a_itemEnd a_itemDepth a_itemBlock a_blockEnd a_openBlocks : Nat → Int32), ed_ao a_tokenItem (it_ow k) T → ed_ag a_itemFirst (it_fi k (T + 1)) (it_cn k (T + 1)) → ed_ag a_itemEnd (it_ie k (T + 1)) (it_cn k (T + 1)) → ed_ag a_itemDepth (fun i => (it_ik k (T + 1) i).length) (it_cn k (T + 1)) → ed_ag a_itemBlock (fun i => xb_h (it_ik k (T + 1) i)) (it_cn k (T + 1)) →
      (∃ e, ed_ag a_blockEnd e (it_nb k (T + 1) + 1) ∧ xb_I T e (it_bs k (T + 1)) (it_nb k (T + 1)) (it_fr k (T + 1)) (it_cn k (T + 1)) (it_fi k (T + 1)) (it_ie k (T + 1)) (it_in k (T + 1)) (it_ik k (T + 1))) → post (f_size, nI T, nI (it_cn k (T + 1)), f_blockCount, f_openCount, nI (it_lo k (T + 1) + (it_bs k (T + 1)).length), a_text, a_characterToken, a_tokenKind, a_tokenStart, a_tokenEnd, a_tokenItem, a_tokenMeaning, a_itemFirst, a_itemEnd, a_itemSort, a_itemDepth, a_itemBlock, a_itemUses, a_itemKnown, a_itemValue, a_blockEnd, a_openBlocks, a_levelCompares, a_levelLeft, a_levelSum, a_levelProduct)) :
    wpX_readItems post (f_size, nI T, f_itemCount, f_blockCount, f_openCount, f_looseCount, a_text, a_characterToken, a_tokenKind, a_tokenStart, a_tokenEnd, a_tokenItem, a_tokenMeaning, a_itemFirst, a_itemEnd, a_itemSort, a_itemDepth, a_itemBlock, a_itemUses, a_itemKnown, a_itemValue, a_blockEnd, a_openBlocks, a_levelCompares, a_levelLeft, a_levelSum, a_levelProduct) := by
  refine nm_e (nm_e ⟨T + 1, ?_⟩)
  refine xi_loop hT hk h10 h11 hP T 0 (by omega) (T + 1) (by omega) 0 0 0 0 _ _ _ _ _ _ _ ⟨rfl, rfl, rfl, rfl, ?_, ?_, ?_, ?_, ?_, fun _ => T, ?_, ?_⟩ (fun j hj => absurd hj (Nat.not_lt_zero _))
  · exact fun j hj => absurd hj (Nat.not_lt_zero _)
  · exact fun j hj => absurd hj (Nat.not_lt_zero _)
  · exact fun j hj => absurd hj (Nat.not_lt_zero _)
  · exact fun j hj => absurd hj (Nat.not_lt_zero _)
  · exact ⟨pk_us, trivial⟩
  · intro j hj
    have e : j = 0 := by have : it_nb k 0 = 0 := rfl; omega
    subst e; exact pk_us
  · refine ⟨rfl, fun b hb => rfl, fun b h1 h2 => ?_, fun i hi => absurd hi (Nat.not_lt_zero _)⟩
    have : it_nb k 0 = 0 := rfl
    omega
end
end
section
section
/-! what is an expression: both sides follow ex_r -/
theorem ed_nb1 : vp_nar .boolean 1 = 1 := by
  first
  | rfl
  | (unfold vp_nar; rw [show narrow .boolean (.int 1) = .int 1 from lw_bz_n 1])
  | decide
theorem ed_nb0 : vp_nar .boolean 0 = 0 := by
  first
  | rfl
  | (unfold vp_nar; rw [show narrow .boolean (.int 0) = .int 0 from lw_bz_n 0])
  | decide
theorem ed_bk_t {a : Nat → Int32} {b d : Bool} {r : List Bool} (h : ed_bk a (b :: r)) : ed_bk (upd a r.length (ed_bI d)) (d :: r) := ⟨pk_us, ed_bk_u (Nat.le_refl _) h.2⟩
theorem ed_bI1 : ed_bI true = 1 := rfl
theorem ed_bI0 : ed_bI false = 0 := rfl
variable {f_size f_tokenCount f_itemCount f_blockCount f_openCount f_looseCount : Int32} {a_text a_characterToken a_tokenKind a_tokenStart a_tokenEnd a_tokenItem a_tokenMeaning a_itemFirst a_itemEnd a_itemSort a_itemDepth a_itemBlock a_itemUses a_itemKnown a_itemValue a_blockEnd a_openBlocks a_levelCompares a_levelLeft a_levelSum a_levelProduct : Nat → Int32}
theorem xe_loop {post : Int32 → SX → Prop} {k : Nat → Nat} {T e : Nat} (hT : T ≤ 80) (he : e ≤ T) (hk : ed_ag a_tokenKind k T) (hkk : ∀ t, t < T → k t < 100) :
    ∀ d t, t + d = e → ∀ f, d < f → ∀ (w : Bool) (b : Bool) (r : List Bool) (a_levelCompares : Nat → Int32), r.length ≤ t → ed_bk a_levelCompares (b :: r) → (∀ a_levelCompares : Nat → Int32, post (ed_bI (ex_r k d t w (b :: r))) (f_size, f_tokenCount, f_itemCount, f_blockCount, f_openCount, f_looseCount, a_text, a_characterToken, a_tokenKind, a_tokenStart, a_tokenEnd, a_tokenItem, a_tokenMeaning, a_itemFirst, a_itemEnd, a_itemSort, a_itemDepth, a_itemBlock, a_itemUses, a_itemKnown, a_itemValue, a_blockEnd, a_openBlocks, a_levelCompares, a_levelLeft, a_levelSum, a_levelProduct)) →
      (wX_isExpression_15 post (nI e) f_size f_tokenCount f_itemCount f_blockCount f_openCount f_looseCount f (nI r.length) (ed_bI w) (nI t) a_text a_characterToken a_tokenKind a_tokenStart a_tokenEnd a_tokenItem a_tokenMeaning a_itemFirst a_itemEnd a_itemSort a_itemDepth a_itemBlock a_itemUses a_itemKnown a_itemValue a_blockEnd a_openBlocks a_levelCompares a_levelLeft a_levelSum a_levelProduct) := by
  intro d
  induction d with
  | zero =>
    intro t ht f hf w b r LC hr hb hP
    obtain ⟨f, rfl⟩ : ∃ g, f = g + 1 := ⟨f - 1, by omega⟩
    refine br_t (nI_le (by omega) (by omega)) ?_
    cases w with
    | true => exact br_f (by decide) (hP LC)
    | false =>
      refine br_t rfl (pk_eq r.length 0 (fun z => ?_) (fun z => ?_))
      · have e1 : ex_r k 0 t false (b :: r) = true := by
          show (true && ((b :: r).length == 1)) = true
          rw [List.length_cons, z]; rfl
        rw [e1] at hP; exact hP LC
      · have e1 : ex_r k 0 t false (b :: r) = false := by
          show (true && ((b :: r).length == 1)) = false
          rw [List.length_cons, Bool.true_and]
          exact beq_false_of_ne (by omega)
        rw [e1] at hP; exact hP LC
  | succ d ih =>
    intro t ht f hf w b r LC hr hb hP
    obtain ⟨f, rfl⟩ : ∃ g, f = g + 1 := ⟨f - 1, by omega⟩
    have ih := ih (t + 1) (by omega) f (by omega)
    have hkt := hkk t (by omega)
    refine br_f (nI_ge (by omega) (by omega)) ⟨pk_in t 80 (by omega), ed_rd t (hk t (by omega)) ?_⟩
    cases w with
    | true =>
      refine br_f (by decide) (pk_eq (k t) 6 (fun h6 => ?_) (fun h6 => ?_))
      · rw [ex_w6 h6] at hP
        refine nm_r (nI_1 _) ⟨pk_in (r.length + 1) 81 (by omega), ed_nuv (r.length + 1) (ed_bI false) ed_nb0 (nm_r (nI_1 t) ?_)⟩
        exact ih true false (b :: r) _ (by rw [List.length_cons]; omega) (ed_bk_p hb) hP
      · refine br_f (by decide) (pk_eq (k t) 0 (fun h0 => ?_) (fun h0 => pk_eq (k t) 1 (fun h1 => ?_) (fun h1 => ?_)))
        · rw [ex_w1 (by omega)] at hP
          exact nm_r (nI_1 t) (ih false b r LC (by omega) hb hP)
        · rw [ex_w1 (by omega)] at hP
          exact nm_r (nI_1 t) (ih false b r LC (by omega) hb hP)
        · rw [ex_wn (by omega) h6] at hP
          exact br_f (by decide) (br_f (by decide) (br_f (by decide) (hP LC)))
    | false =>
      refine br_t rfl (br_t rfl (br_t rfl ?_))
      have h99 : ¬ (k t = 7 ∧ 0 < r.length) → (wX_isExpression_99 post (wX_isExpression_15 post (nI e) f_size f_tokenCount f_itemCount f_blockCount f_openCount f_looseCount f) (nI e) (nI r.length) (ed_bI false) (nI t) (nI (k t)) f_size f_tokenCount f_itemCount f_blockCount f_openCount f_looseCount a_text a_characterToken a_tokenKind a_tokenStart a_tokenEnd a_tokenItem a_tokenMeaning a_itemFirst a_itemEnd a_itemSort a_itemDepth a_itemBlock a_itemUses a_itemKnown a_itemValue a_blockEnd a_openBlocks LC a_levelLeft a_levelSum a_levelProduct) := by
        intro hn
        refine br_t rfl (pk_eq (k t) 4 (fun h4 => ?_) (fun h4 => pk_eq (k t) 5 (fun h5 => ?_) (fun h5 => br_t rfl (pk_eq (k t) 3 (fun h3 => ?_) (fun h3 => ?_)))))
        · rw [ex_f4 (by omega)] at hP
          exact nm_r (nI_1 t) (ih true b r LC (by omega) hb hP)
        · rw [ex_f4 (by omega)] at hP
          exact nm_r (nI_1 t) (ih true b r LC (by omega) hb hP)
        · have eb : LC (nI r.length).toNatClampNeg = ed_bI b := ed_rt r.length hb.1
          refine ⟨pk_in r.length 81 (by omega), ?_⟩
          cases b with
          | true =>
            rw [ex_f3n h3] at hP
            exact br_f (by rw [eb]; decide) (hP LC)
          | false =>
            rw [ex_f3 h3] at hP
            exact br_t eb ⟨pk_in r.length 81 (by omega), ed_nuv r.length (ed_bI true) ed_nb1 (nm_r (nI_1 t) (ih true true r _ (by omega) (ed_bk_t hb) hP))⟩
        · by_cases h7 : k t = 7
          · have hr0 : r = [] := List.eq_nil_of_length_eq_zero (by omega)
            subst hr0
            rw [ex_f7n h7] at hP
            exact hP LC
          · rw [ex_fn h7 h4 h5 h3] at hP
            exact hP LC
      refine pk_eq (k t) 7 (fun h7 => pk_le r.length 0 (fun hr0 => h99 (by omega)) (fun hr0 => ?_)) (fun h7 => h99 (by omega))
      cases r with
      | nil => exact absurd hr0 (Nat.lt_irrefl _)
      | cons b2 r2 =>
        rw [ex_f7 h7] at hP
        refine nm_r (pk_m1 r2.length) (nm_r (nI_1 t) ?_)
        exact ih false b2 r2 LC (by rw [List.length_cons] at hr; omega) hb.2 hP
theorem xe_is {post : Int32 → SX → Prop} {k : Nat → Nat} {T s e : Nat} (hT : T ≤ 80) (he : e ≤ T) (hs : s ≤ e) (hk : ed_ag a_tokenKind k T) (hkk : ∀ t, t < T → k t < 100)
    (hP : ∀ a_levelCompares : Nat → Int32, post (ed_bI (ex_r k (e - s) s true [false])) (f_size, f_tokenCount, f_itemCount, f_blockCount, f_openCount, f_looseCount, a_text, a_characterToken, a_tokenKind, a_tokenStart, a_tokenEnd, a_tokenItem, a_tokenMeaning, a_itemFirst, a_itemEnd, a_itemSort, a_itemDepth, a_itemBlock, a_itemUses, a_itemKnown, a_itemValue, a_blockEnd, a_openBlocks, a_levelCompares, a_levelLeft, a_levelSum, a_levelProduct)) : wpX_isExpression post (f_size, f_tokenCount, f_itemCount, f_blockCount, f_openCount, f_looseCount, a_text, a_characterToken, a_tokenKind, a_tokenStart, a_tokenEnd, a_tokenItem, a_tokenMeaning, a_itemFirst, a_itemEnd, a_itemSort, a_itemDepth, a_itemBlock, a_itemUses, a_itemKnown, a_itemValue, a_blockEnd, a_openBlocks, a_levelCompares, a_levelLeft, a_levelSum, a_levelProduct) (nI s) (nI e) := by
  refine nm_e ⟨e - s + 1, ?_⟩
  rw [ed_nb0]
  exact xe_loop hT he hk hkk (e - s) s (by omega) _ (by omega) true false [] _ (Nat.zero_le _) ⟨pk_us, trivial⟩ hP
/-- the sort of an item -/
theorem xe_sort {post : Int32 → SX → Prop} {k : Nat → Nat} {T s e : Nat} (hT : T ≤ 80) (he : e ≤ T) (hs : s < e) (hk : ed_ag a_tokenKind k T) (hkk : ∀ t, t < T → k t < 100) (h11 : k T = 11)
    (hP : ∀ a_levelCompares : Nat → Int32, post (nI (ex_so k s e)) (f_size, nI T, f_itemCount, f_blockCount, f_openCount, f_looseCount, a_text, a_characterToken, a_tokenKind, a_tokenStart, a_tokenEnd, a_tokenItem, a_tokenMeaning, a_itemFirst, a_itemEnd, a_itemSort, a_itemDepth, a_itemBlock, a_itemUses, a_itemKnown, a_itemValue, a_blockEnd, a_openBlocks, a_levelCompares, a_levelLeft, a_levelSum, a_levelProduct)) : wpX_sortBetween post (f_size, nI T, f_itemCount, f_blockCount, f_openCount, f_looseCount, a_text, a_characterToken, a_tokenKind, a_tokenStart, a_tokenEnd, a_tokenItem, a_tokenMeaning, a_itemFirst, a_itemEnd, a_itemSort, a_itemDepth, a_itemBlock, a_itemUses, a_itemKnown, a_itemValue, a_blockEnd, a_openBlocks, a_levelCompares, a_levelLeft, a_levelSum, a_levelProduct) (nI s) (nI e) := by
  refine pk_le T e (fun h => ?_) (fun h => ?_)
  · have e1 : e = T := by omega
    have e2 : ex_so k s e = 0 := by unfold ex_so; rw [if_neg (by rw [e1]; omega)]
    rw [e2] at hP; exact hP _
  · have hke := hkk e h
    refine ⟨pk_in e 80 (by omega), pk_eq (k e) 8 (fun h8 => ?_) (fun h8 => ?_) (ed_rt e (hk e h))⟩
    · refine xe_is hT he (by omega) hk hkk (fun LC => ?_)
      by_cases hx : ex_r k (e - s) s true [false] = true
      · have e2 : ex_so k s e = 1 := by
          unfold ex_so; rw [if_pos h8, if_neg, if_pos hx]
          rintro ⟨z1, z2, z3⟩
          rw [ex_so_def z1 z3 (by omega)] at hx; cases hx
        rw [hx]; rw [e2] at hP
        exact br_f (by decide) (hP LC)
      · have hx : ex_r k (e - s) s true [false] = false := by cases h : ex_r k (e - s) s true [false]; rfl; exact absurd h hx
        rw [hx]
        have hks := hkk s (by omega)
        have hks1 := hkk (s + 1) (by omega)
        have h0 : ¬ (k s = 0 ∧ 1 < e - s ∧ k (s + 1) = 2) → ex_so k s e = 0 := by
          intro z; unfold ex_so; rw [if_pos h8, if_neg z, if_neg (by rw [hx]; decide)]
        refine br_t rfl ⟨pk_in s 80 (by omega), pk_eq (k s) 0 (fun z0 => ⟨pk_in (s + 1) 80 (by omega) (nI_1 s), pk_eq (k (s + 1)) 2 (fun z2 => ?_) (fun z2 => ?_) (ed_rt (s + 1) (hk (s + 1) (by omega)) (nI_1 s))⟩) (fun z0 => ?_) (ed_rt s (hk s (by omega)))⟩
        · have hl : s + 2 ≤ e := by
            by_cases y : e = s + 1
            · rw [y] at h8; omega
            · omega
          refine br_f (by decide) ?_
          rw [show nI s + 2 = nI (s + 2) from nI_add s 2]
          refine xe_is hT he hl hk hkk (fun LC => ?_)
          by_cases hx2 : ex_r k (e - (s + 2)) (s + 2) true [false] = true
          · have e2 : ex_so k s e = 2 := by unfold ex_so; rw [if_pos h8, if_pos ⟨z0, by omega, z2⟩, if_pos hx2]
            rw [hx2]; rw [e2] at hP
            exact br_f (by decide) (hP LC)
          · have e2 : ex_so k s e = 0 := by unfold ex_so; rw [if_pos h8, if_pos ⟨z0, by omega, z2⟩, if_neg hx2]
            have hx2 : ex_r k (e - (s + 2)) (s + 2) true [false] = false := by cases h : ex_r k (e - (s + 2)) (s + 2) true [false]; rfl; exact absurd h hx2
            rw [hx2]; rw [e2] at hP
            exact br_t rfl (hP LC)
        · rw [h0 (by omega)] at hP
          exact br_t rfl (hP LC)
        · rw [h0 (by omega)] at hP
          exact br_t rfl (hP LC)
    · have e2 : ex_so k s e = 0 := by unfold ex_so; rw [if_neg h8]
      rw [e2] at hP; exact hP _
theorem xe_sorts {post : SX → Prop} {k fi ie : Nat → Nat} {T N : Nat} (hT : T ≤ 80) (hN : N ≤ 80) (hk : ed_ag a_tokenKind k T) (hkk : ∀ t, t < T → k t < 100) (h11 : k T = 11) (hfi : ed_ag a_itemFirst fi N) (hie : ed_ag a_itemEnd ie N) (hfe : ∀ i, i < N → fi i < ie i ∧ ie i ≤ T)
    (hP : ∀ (a_itemSort a_levelCompares : Nat → Int32), ed_ag a_itemSort (fun i => ex_so k (fi i) (ie i)) N → post (f_size, nI T, nI N, f_blockCount, f_openCount, f_looseCount, a_text, a_characterToken, a_tokenKind, a_tokenStart, a_tokenEnd, a_tokenItem, a_tokenMeaning, a_itemFirst, a_itemEnd, a_itemSort, a_itemDepth, a_itemBlock, a_itemUses, a_itemKnown, a_itemValue, a_blockEnd, a_openBlocks, a_levelCompares, a_levelLeft, a_levelSum, a_levelProduct)) :
    ∀ d i, i + d = N → ∀ f, d < f → ∀ (a_itemSort a_levelCompares : Nat → Int32), ed_ag a_itemSort (fun i => ex_so k (fi i) (ie i)) i → (wX_sortItems_2 post f (nI i) f_size (nI T) (nI N) f_blockCount f_openCount f_looseCount a_text a_characterToken a_tokenKind a_tokenStart a_tokenEnd a_tokenItem a_tokenMeaning a_itemFirst a_itemEnd a_itemSort a_itemDepth a_itemBlock a_itemUses a_itemKnown a_itemValue a_blockEnd a_openBlocks a_levelCompares a_levelLeft a_levelSum a_levelProduct) := by
  intro d
  induction d with
  | zero =>
    intro i hi f hf IS LC h1
    obtain ⟨f, rfl⟩ : ∃ g, f = g + 1 := ⟨f - 1, by omega⟩
    have e : i = N := by omega
    subst e
    exact br_t (nI_le (Nat.le_refl _) (by omega)) (hP IS LC h1)
  | succ d ih =>
    intro i hi f hf IS LC h1
    obtain ⟨f, rfl⟩ : ∃ g, f = g + 1 := ⟨f - 1, by omega⟩
    have hf2 := hfe i (by omega)
    refine br_f (nI_ge (by omega) (by omega)) ⟨pk_in i 80 (by omega), pk_in i 80 (by omega), ?_⟩
    rw [ed_rt i (hfi i (by omega)), ed_rt i (hie i (by omega))]
    refine xe_sort hT hf2.2 hf2.1 hk hkk h11 (fun LC => ?_)
    refine ⟨pk_in i 80 (by omega), ed_nu i (nm_r (nI_1 i) ?_)⟩
    refine ih (i + 1) (by omega) f (by omega) _ LC ?_
    intro j hj
    by_cases z : j = i
    · subst z; rw [pk_us]
    · rw [pk_un z]; exact h1 j (by omega)
end
end
section
section
/-! Y: expressions, sorts, items -/
variable {f_length f_tokenCount f_itemCount f_blockCount f_looseCount f_numberCount f_operatorCount : Int32} {a_text a_kinds a_starts a_ends a_owners a_meant a_firsts a_lasts a_sorts a_blocks a_knowns a_values a_around a_depths a_compared a_numbers a_operators : Nat → Int32}
theorem ye_loop {post : Int32 → SY → Prop} {k : Nat → Nat} {T e : Nat} (hT : T ≤ 80) (he : e ≤ T) (hk : ed_ag a_kinds k T) (hkk : ∀ t, t < T → k t < 100) :
    ∀ d t, t + d = e → ∀ f, d < f → ∀ (w : Bool) (b : Bool) (r : List Bool) (a_compared : Nat → Int32), r.length ≤ t → ed_bk a_compared (b :: r) → (∀ a_compared : Nat → Int32, post (ed_bI (ex_r k d t w (b :: r))) (f_length, f_tokenCount, f_itemCount, f_blockCount, f_looseCount, f_numberCount, f_operatorCount, a_text, a_kinds, a_starts, a_ends, a_owners, a_meant, a_firsts, a_lasts, a_sorts, a_blocks, a_knowns, a_values, a_around, a_depths, a_compared, a_numbers, a_operators)) →
      (wY_isExpression_15 post (nI e) f_length f_tokenCount f_itemCount f_blockCount f_looseCount f_numberCount f_operatorCount f (nI r.length) (ed_bI w) (nI t) a_text a_kinds a_starts a_ends a_owners a_meant a_firsts a_lasts a_sorts a_blocks a_knowns a_values a_around a_depths a_compared a_numbers a_operators) := by
  intro d
  induction d with
  | zero =>
    intro t ht f hf w b r LC hr hb hP
    obtain ⟨f, rfl⟩ : ∃ g, f = g + 1 := ⟨f - 1, by omega⟩
    refine br_t (nI_le (by omega) (by omega)) ?_
    cases w with
    | true => exact br_f (by decide) (hP LC)
    | false =>
      refine br_t rfl (pk_eq r.length 0 (fun z => ?_) (fun z => ?_))
      · have e1 : ex_r k 0 t false (b :: r) = true := by
          show (true && ((b :: r).length == 1)) = true
          rw [List.length_cons, z]; rfl
        rw [e1] at hP; exact hP LC
      · have e1 : ex_r k 0 t false (b :: r) = false := by
          show (true && ((b :: r).length == 1)) = false
          rw [List.length_cons, Bool.true_and]
          exact beq_false_of_ne (by omega)
        rw [e1] at hP; exact hP LC
  | succ d ih =>
    intro t ht f hf w b r LC hr hb hP
    obtain ⟨f, rfl⟩ : ∃ g, f = g + 1 := ⟨f - 1, by omega⟩
    have ih := ih (t + 1) (by omega) f (by omega)
    have hkt := hkk t (by omega)
    refine br_f (nI_ge (by omega) (by omega)) ⟨pk_in t 80 (by omega), ed_rd t (hk t (by omega)) ?_⟩
    cases w with
    | true =>
      refine br_f (by decide) (pk_le (k t) 1 (fun h1 => ?_) (fun h1 => ?_))
      · rw [ex_w1 h1] at hP
        exact pk_eq (k t) 6 (fun h6 => by omega) (fun h6 => pk_le (k t) 1 (fun _ => nm_r (nI_1 t) (ih false b r LC (by omega) hb hP)) (fun h => by omega))
      · refine pk_eq (k t) 6 (fun h6 => ?_) (fun h6 => pk_le (k t) 1 (fun h => by omega) (fun h => ?_))
        · rw [ex_w6 h6] at hP
          refine nm_r (nI_1 _) ⟨pk_in (r.length + 1) 81 (by omega), ed_nuv (r.length + 1) (ed_bI false) ed_nb0 (nm_r (nI_1 t) ?_)⟩
          exact ih true false (b :: r) _ (by rw [List.length_cons]; omega) (ed_bk_p hb) hP
        · rw [ex_wn (by omega) h6] at hP
          exact hP LC
    | false =>
      refine br_t rfl ?_
      have eb : LC (nI r.length).toNatClampNeg = ed_bI b := ed_rt r.length hb.1
      have h120 : ∀ d : Bool, d = (b || decide (k t = 3)) → (∀ a_compared : Nat → Int32, ed_bk a_compared (d :: r) → (wY_isExpression_15 post (nI e) f_length f_tokenCount f_itemCount f_blockCount f_looseCount f_numberCount f_operatorCount f (nI r.length) (ed_bI true) (nI (t + 1)) a_text a_kinds a_starts a_ends a_owners a_meant a_firsts a_lasts a_sorts a_blocks a_knowns a_values a_around a_depths a_compared a_numbers a_operators)) → (wY_isExpression_120 post (wY_isExpression_15 post (nI e) f_length f_tokenCount f_itemCount f_blockCount f_looseCount f_numberCount f_operatorCount f) (nI e) (nI r.length) (nI t) (nI (k t)) f_length f_tokenCount f_itemCount f_blockCount f_looseCount f_numberCount f_operatorCount a_text a_kinds a_starts a_ends a_owners a_meant a_firsts a_lasts a_sorts a_blocks a_knowns a_values a_around a_depths LC a_numbers a_operators) := by
        intro d hd hJ
        refine ⟨pk_in r.length 81 (by omega), ?_⟩
        cases b with
        | true =>
          have hd : d = true := hd
          subst hd
          exact br_f (by rw [eb]; decide) ⟨pk_in r.length 81 (by omega), ed_nuv r.length (ed_bI true) ed_nb1 (nm_r (nI_1 t) (hJ _ (ed_bk_t hb)))⟩
        | false =>
          refine br_t eb (pk_eq (k t) 3 (fun h3 => ?_) (fun h3 => ?_))
          · have hd : d = true := by rw [hd]; simp [h3]
            subst hd
            exact ⟨pk_in r.length 81 (by omega), ed_nuv r.length (ed_bI true) ed_nb1 (nm_r (nI_1 t) (hJ _ (ed_bk_t hb)))⟩
          · have hd : d = false := by rw [hd]; simp [h3]
            subst hd
            exact ⟨pk_in r.length 81 (by omega), ed_nuv r.length (ed_bI false) ed_nb0 (nm_r (nI_1 t) (hJ _ (ed_bk_t hb)))⟩
      have h93 : ¬ (k t = 7 ∧ 0 < r.length) → (wY_isExpression_93 post (wY_isExpression_15 post (nI e) f_length f_tokenCount f_itemCount f_blockCount f_looseCount f_numberCount f_operatorCount f) (nI e) (nI r.length) (nI t) (nI (k t)) f_length f_tokenCount f_itemCount f_blockCount f_looseCount f_numberCount f_operatorCount a_text a_kinds a_starts a_ends a_owners a_meant a_firsts a_lasts a_sorts a_blocks a_knowns a_values a_around a_depths LC a_numbers a_operators) := by
        intro hn
        refine pk_eq (k t) 4 (fun h4 => ?_) (fun h4 => pk_eq (k t) 5 (fun h5 => ?_) (fun h5 => pk_eq (k t) 3 (fun h3 => ?_) (fun h3 => ?_)))
        · rw [ex_f4 (by omega)] at hP
          exact h120 b (by rw [decide_eq_false (by omega), Bool.or_false]) (fun LC hb => ih true b r LC (by omega) hb hP)
        · rw [ex_f4 (by omega)] at hP
          exact h120 b (by rw [decide_eq_false (by omega), Bool.or_false]) (fun LC hb => ih true b r LC (by omega) hb hP)
        · refine ⟨pk_in r.length 81 (by omega), ?_⟩
          cases b with
          | true =>
            rw [ex_f3n h3] at hP
            exact br_f (by rw [eb]; decide) (hP LC)
          | false =>
            rw [ex_f3 h3] at hP
            exact br_t eb (h120 true (by simp [h3]) (fun LC hb => ih true true r LC (by omega) hb hP))
        · by_cases h7 : k t = 7
          · have hr0 : r = [] := List.eq_nil_of_length_eq_zero (by omega)
            subst hr0
            rw [ex_f7n h7] at hP
            exact hP LC
          · rw [ex_fn h7 h4 h5 h3] at hP
            exact hP LC
      refine pk_eq (k t) 7 (fun h7 => pk_le r.length 0 (fun hr0 => h93 (by omega)) (fun hr0 => ?_)) (fun h7 => h93 (by omega))
      cases r with
      | nil => exact absurd hr0 (Nat.lt_irrefl _)
      | cons b2 r2 =>
        rw [ex_f7 h7] at hP
        refine nm_r (pk_m1 r2.length) (nm_r (nI_1 t) ?_)
        exact ih false b2 r2 LC (by rw [List.length_cons] at hr; omega) hb.2 hP
theorem ye_is {post : Int32 → SY → Prop} {k : Nat → Nat} {T s e : Nat} (hT : T ≤ 80) (he : e ≤ T) (hs : s ≤ e) (hk : ed_ag a_kinds k T) (hkk : ∀ t, t < T → k t < 100)
    (hP : ∀ a_compared : Nat → Int32, post (ed_bI (ex_r k (e - s) s true [false])) (f_length, f_tokenCount, f_itemCount, f_blockCount, f_looseCount, f_numberCount, f_operatorCount, a_text, a_kinds, a_starts, a_ends, a_owners, a_meant, a_firsts, a_lasts, a_sorts, a_blocks, a_knowns, a_values, a_around, a_depths, a_compared, a_numbers, a_operators)) : wpY_isExpression post (f_length, f_tokenCount, f_itemCount, f_blockCount, f_looseCount, f_numberCount, f_operatorCount, a_text, a_kinds, a_starts, a_ends, a_owners, a_meant, a_firsts, a_lasts, a_sorts, a_blocks, a_knowns, a_values, a_around, a_depths, a_compared, a_numbers, a_operators) (nI s) (nI e) := by
  refine nm_e ⟨e - s + 1, ?_⟩
  rw [ed_nb0]
  exact ye_loop hT he hk hkk (e - s) s (by omega) _ (by omega) true false [] _ (Nat.zero_le _) ⟨pk_us, trivial⟩ hP
theorem ye_sort {post : Int32 → SY → Prop} {k : Nat → Nat} {T s e : Nat} (hT : T ≤ 80) (he : e ≤ T) (hs : s < e) (hk : ed_ag a_kinds k T) (hkk : ∀ t, t < T → k t < 100) (hke : k e < 100)
    (hP : ∀ a_compared : Nat → Int32, post (nI (ex_so k s e)) (f_length, f_tokenCount, f_itemCount, f_blockCount, f_looseCount, f_numberCount, f_operatorCount, a_text, a_kinds, a_starts, a_ends, a_owners, a_meant, a_firsts, a_lasts, a_sorts, a_blocks, a_knowns, a_values, a_around, a_depths, a_compared, a_numbers, a_operators)) : wpY_sortOf post (f_length, f_tokenCount, f_itemCount, f_blockCount, f_looseCount, f_numberCount, f_operatorCount, a_text, a_kinds, a_starts, a_ends, a_owners, a_meant, a_firsts, a_lasts, a_sorts, a_blocks, a_knowns, a_values, a_around, a_depths, a_compared, a_numbers, a_operators) (nI s) (nI e) (nI (k e)) := by
  have hks := hkk s (by omega)
  refine pk_eq (k e) 8 (fun h8 => ?_) (fun h8 => ?_)
  · have h53 : ¬ (k s = 0 ∧ 1 < e - s ∧ k (s + 1) = 2) → (wY_sortOf_53 post (nI s) (nI e) f_length f_tokenCount f_itemCount f_blockCount f_looseCount f_numberCount f_operatorCount a_text a_kinds a_starts a_ends a_owners a_meant a_firsts a_lasts a_sorts a_blocks a_knowns a_values a_around a_depths a_compared a_numbers a_operators) := by
      intro hn
      refine ye_is hT he (by omega) hk hkk (fun LC => ?_)
      by_cases hx : ex_r k (e - s) s true [false] = true
      · have e2 : ex_so k s e = 1 := by unfold ex_so; rw [if_pos h8, if_neg hn, if_pos hx]
        rw [hx]; rw [e2] at hP
        exact br_f (by decide) (hP LC)
      · have e2 : ex_so k s e = 0 := by unfold ex_so; rw [if_pos h8, if_neg hn, if_neg hx]
        have hx : ex_r k (e - s) s true [false] = false := by cases h : ex_r k (e - s) s true [false]; rfl; exact absurd h hx
        rw [hx]; rw [e2] at hP
        exact br_t rfl (hP LC)
    refine ⟨pk_in s 80 (by omega), pk_eq (k s) 0 (fun z0 => ?_) (fun z0 => h53 (by omega)) (ed_rt s (hk s (by omega)))⟩
    refine pk_le (e - s) 1 (fun z1 => h53 (by omega)) (fun z1 => ?_) (pk_sub (by omega))
    have hks1 := hkk (s + 1) (by omega)
    refine ⟨pk_in (s + 1) 80 (by omega) (nI_1 s), pk_eq (k (s + 1)) 2 (fun z2 => ?_) (fun z2 => h53 (by omega)) (ed_rt (s + 1) (hk (s + 1) (by omega)) (nI_1 s))⟩
    rw [show nI s + 2 = nI (s + 2) from nI_add s 2]
    refine ye_is hT he (by omega) hk hkk (fun LC => ?_)
    by_cases hx2 : ex_r k (e - (s + 2)) (s + 2) true [false] = true
    · have e2 : ex_so k s e = 2 := by unfold ex_so; rw [if_pos h8, if_pos ⟨z0, by omega, z2⟩, if_pos hx2]
      rw [hx2]; rw [e2] at hP
      exact br_f (by decide) (hP LC)
    · have e2 : ex_so k s e = 0 := by unfold ex_so; rw [if_pos h8, if_pos ⟨z0, by omega, z2⟩, if_neg hx2]
      have hx2 : ex_r k (e - (s + 2)) (s + 2) true [false] = false := by cases h : ex_r k (e - (s + 2)) (s + 2) true [false]; rfl; exact absurd h hx2
      rw [hx2]; rw [e2] at hP
      exact br_t rfl (hP LC)
  · have e2 : ex_so k s e = 0 := by unfold ex_so; rw [if_neg h8]
    rw [e2] at hP; exact hP _
theorem ye_own {post : SY → Prop} {s e m : Nat} (he : e ≤ 80)
    (hP : ∀ a_owners' : Nat → Int32, (∀ j, j < s → a_owners' j = a_owners j) → (∀ j, s ≤ j → j < e → a_owners' j = nI m) → (∀ j, e ≤ j → a_owners' j = a_owners j) → post (f_length, f_tokenCount, nI (m + 1), f_blockCount, f_looseCount, f_numberCount, f_operatorCount, a_text, a_kinds, a_starts, a_ends, a_owners', a_meant, a_firsts, a_lasts, a_sorts, a_blocks, a_knowns, a_values, a_around, a_depths, a_compared, a_numbers, a_operators)) :
    ∀ d t, t + d = e → s ≤ t → ∀ f, d < f → ∀ a_owners' : Nat → Int32, (∀ j, j < s → a_owners' j = a_owners j) → (∀ j, s ≤ j → j < t → a_owners' j = nI m) → (∀ j, t ≤ j → a_owners' j = a_owners j) →
      (wY_addItem_50 post (nI e) f_length f_tokenCount (nI m) f_blockCount f_looseCount f_numberCount f_operatorCount f (nI t) a_text a_kinds a_starts a_ends a_owners' a_meant a_firsts a_lasts a_sorts a_blocks a_knowns a_values a_around a_depths a_compared a_numbers a_operators) := by
  intro d
  induction d with
  | zero =>
    intro t ht hs f hf OW h1 h2 h3
    obtain ⟨f, rfl⟩ : ∃ g, f = g + 1 := ⟨f - 1, by omega⟩
    have e1 : t = e := by omega
    subst e1
    exact br_t (nI_le (Nat.le_refl _) (by omega)) (nm_r (nI_1 m) (hP OW h1 h2 h3))
  | succ d ih =>
    intro t ht hs f hf OW h1 h2 h3
    obtain ⟨f, rfl⟩ : ∃ g, f = g + 1 := ⟨f - 1, by omega⟩
    refine br_f (nI_ge (by omega) (by omega)) ⟨pk_in t 80 (by omega), ed_nu t (nm_r (nI_1 t) ?_)⟩
    refine ih (t + 1) (by omega) (by omega) f (by omega) _ (fun j hj => ?_) (fun j hj1 hj2 => ?_) (fun j hj => ?_)
    · rw [pk_un (by omega)]; exact h1 j hj
    · by_cases z : j = t
      · rw [z, pk_us]
      · rw [pk_un z]; exact h2 j hj1 (by omega)
    · rw [pk_un (by omega)]; exact h3 j (by omega)
theorem ye_add {post : SY → Prop} {k : Nat → Nat} {T s e m : Nat} {o : Int32} (hT : T ≤ 80) (he : e ≤ T) (hs : s < e) (hm : m < 80) (hk : ed_ag a_kinds k T) (hkk : ∀ t, t < T → k t < 100) (hke : k e < 100)
    (hP : ∀ a_compared a_owners' : Nat → Int32, (∀ j, j < s → a_owners' j = a_owners j) → (∀ j, s ≤ j → j < e → a_owners' j = nI m) → (∀ j, e ≤ j → a_owners' j = a_owners j) → post (f_length, f_tokenCount, nI (m + 1), f_blockCount, f_looseCount, f_numberCount, f_operatorCount, a_text, a_kinds, a_starts, a_ends, a_owners', a_meant, upd a_firsts m (nI s), upd a_lasts m (nI e), upd a_sorts m (nI (ex_so k s e)), upd a_blocks m o, a_knowns, a_values, a_around, a_depths, a_compared, a_numbers, a_operators)) :
    wpY_addItem post (f_length, f_tokenCount, nI m, f_blockCount, f_looseCount, f_numberCount, f_operatorCount, a_text, a_kinds, a_starts, a_ends, a_owners, a_meant, a_firsts, a_lasts, a_sorts, a_blocks, a_knowns, a_values, a_around, a_depths, a_compared, a_numbers, a_operators) (nI s) (nI e) (nI (k e)) o := by
  refine ⟨pk_in m 80 hm, ed_nu m ⟨pk_in m 80 hm, ed_nu m ?_⟩⟩
  refine ye_sort hT he hs hk hkk hke (fun LC => ?_)
  refine ⟨pk_in m 80 hm, ed_nu m ⟨pk_in m 80 hm, ed_nu m ⟨e - s + 1, ?_⟩⟩⟩
  exact ye_own (by omega) (hP LC) (e - s) s (by omega) (Nat.le_refl _) _ (by omega) _ (fun _ _ => rfl) (fun j a b => by omega) (fun _ _ => rfl)
end
end
section
section
/-! Y reads the items -/
def yi_G (k : Nat → Nat) (cn nb lo : Nat) (bs : List Nat) (fi ie : Nat → Nat) (ik : Nat → List Nat) (f_itemCount f_blockCount f_looseCount : Int32) (a_firsts a_lasts a_sorts a_blocks a_around a_depths : Nat → Int32) : Prop :=
  f_itemCount = nI cn ∧ f_blockCount = nI nb ∧ f_looseCount = nI lo
  ∧ ed_ag a_firsts fi cn ∧ ed_ag a_lasts ie cn ∧ ed_ag a_sorts (fun i => ex_so k (fi i) (ie i)) cn
  ∧ (∀ i, i < cn → a_blocks i = yc_h (ik i)) ∧ (∀ i, i < cn → yc_I a_around a_depths (ik i)) ∧ yc_I a_around a_depths bs
def yi_O (k : Nat → Nat) (T B : Nat) (a : Nat → Int32) : Prop := (∀ j, j < B → j < T → a j = ed_oI (it_ow k j)) ∧ (∀ j, B ≤ j → j < T → a j = -3)
variable {f_length f_tokenCount f_itemCount f_blockCount f_looseCount f_numberCount f_operatorCount : Int32} {a_text a_kinds a_starts a_ends a_owners a_meant a_firsts a_lasts a_sorts a_blocks a_knowns a_values a_around a_depths a_compared a_numbers a_operators : Nat → Int32}
theorem yi_addG {post : SY → Prop} {k : Nat → Nat} {T t lo : Nat} {o : Int32} (ht : t ≤ T) (hT : T ≤ 80) (hk : ed_ag a_kinds k T) (hkk : ∀ t, t < T + 1 → k t < 100) (h8 : ¬ k t < 8) (hlt : it_fr k t < t) (ho : o = yc_h (it_bs k t))
    (hG : yi_G k (it_cn k t) (it_nb k t) lo (it_bs k t) (it_fi k t) (it_ie k t) (it_ik k t) f_itemCount f_blockCount f_looseCount a_firsts a_lasts a_sorts a_blocks a_around a_depths) (hO : yi_O k T (it_fr k t) a_owners)
    (h : ∀ (f_itemCount : Int32) (a_owners a_firsts a_lasts a_sorts a_blocks a_compared : Nat → Int32), yi_G k (it_cn k (t + 1)) (it_nb k t) lo (it_bs k t) (it_fi k (t + 1)) (it_ie k (t + 1)) (it_ik k (t + 1)) f_itemCount f_blockCount f_looseCount a_firsts a_lasts a_sorts a_blocks a_around a_depths → yi_O k T (t + 1) a_owners → post (f_length, f_tokenCount, f_itemCount, f_blockCount, f_looseCount, f_numberCount, f_operatorCount, a_text, a_kinds, a_starts, a_ends, a_owners, a_meant, a_firsts, a_lasts, a_sorts, a_blocks, a_knowns, a_values, a_around, a_depths, a_compared, a_numbers, a_operators)) :
    wpY_addItem post (f_length, f_tokenCount, f_itemCount, f_blockCount, f_looseCount, f_numberCount, f_operatorCount, a_text, a_kinds, a_starts, a_ends, a_owners, a_meant, a_firsts, a_lasts, a_sorts, a_blocks, a_knowns, a_values, a_around, a_depths, a_compared, a_numbers, a_operators) (nI (it_fr k t)) (nI t) (nI (k t)) o := by
  obtain ⟨rfl, rfl, rfl, g4, g5, g6, g7, g8, g9⟩ := hG
  obtain ⟨i1, i2, i3, i4, i5, i6⟩ := it_Ip k t
  subst ho
  refine ye_add hT ht hlt (by omega) hk (fun t ht => hkk t (by omega)) (hkk t (by omega)) (fun LC OW w1 w2 w3 => h _ _ _ _ _ _ _ ?_ ?_)
  · unfold it_fi it_ie it_ik
    rw [it_cn_c h8 hlt, it_tb_c h8 hlt, it_tb_c h8 hlt, it_tb_c h8 hlt]
    refine ⟨rfl, rfl, rfl, ed_ag_s g4, ed_ag_s g5, ?_, ?_, ?_, g9⟩
    · intro j hj
      by_cases z : j = it_cn k t
      · subst z; rw [pk_us]; dsimp only; rw [ed_fs, ed_fs]
      · rw [pk_un z]; dsimp only; rw [ed_fn z, ed_fn z]; exact g6 j (by omega)
    · intro j hj
      by_cases z : j = it_cn k t
      · subst z; rw [pk_us, ed_fs]
      · rw [pk_un z, ed_fn z]; exact g7 j (by omega)
    · intro j hj
      by_cases z : j = it_cn k t
      · subst z; rw [ed_fs]; exact g9
      · rw [ed_fn z]; exact g8 j (by omega)
  · refine ⟨fun j hj hjT => ?_, fun j hj hjT => ?_⟩
    · by_cases z : j < it_fr k t
      · rw [w1 j z]; exact hO.1 j z hjT
      · by_cases z2 : j < t
        · obtain ⟨q1, q2⟩ := i3 j (by omega) z2
          rw [w2 j (by omega) z2]; unfold it_ow; rw [if_pos q1, q2]; rfl
        · have e : j = t := by omega
          subst e
          rw [w3 j (Nat.le_refl _), hO.2 j (by omega) hjT]; unfold it_ow; rw [if_neg h8]; rfl
    · rw [w3 j (by omega)]; exact hO.2 j (by omega) hjT
theorem yi_blk {post : SY → Prop} {J21 : Int32 → Int32 → Int32 → Int32 → Int32 → Int32 → Int32 → Int32 → Int32 → Int32 → (Nat → Int32) → (Nat → Int32) → (Nat → Int32) → (Nat → Int32) → (Nat → Int32) → (Nat → Int32) → (Nat → Int32) → (Nat → Int32) → (Nat → Int32) → (Nat → Int32) → (Nat → Int32) → (Nat → Int32) → (Nat → Int32) → (Nat → Int32) → (Nat → Int32) → (Nat → Int32) → (Nat → Int32) → Prop}
    {k : Nat → Nat} {T t : Nat} (ht : t ≤ T) (hT : T ≤ 80) (h11 : k T = 11) (hkt : k t < 100) (h8 : ¬ k t < 8)
    (hG : yi_G k (it_cn k (t + 1)) (it_nb k t) (it_lo k t) (it_bs k t) (it_fi k (t + 1)) (it_ie k (t + 1)) (it_ik k (t + 1)) f_itemCount f_blockCount f_looseCount a_firsts a_lasts a_sorts a_blocks a_around a_depths)
    (h : ∀ (f_blockCount f_looseCount : Int32) (a_around a_depths : Nat → Int32), yi_G k (it_cn k (t + 1)) (it_nb k (t + 1)) (it_lo k (t + 1)) (it_bs k (t + 1)) (it_fi k (t + 1)) (it_ie k (t + 1)) (it_ik k (t + 1)) f_itemCount f_blockCount f_looseCount a_firsts a_lasts a_sorts a_blocks a_around a_depths → J21 (yc_h (it_bs k (t + 1))) (nI (t + 1)) (nI (t + 1)) f_length f_tokenCount f_itemCount f_blockCount f_looseCount f_numberCount f_operatorCount a_text a_kinds a_starts a_ends a_owners a_meant a_firsts a_lasts a_sorts a_blocks a_knowns a_values a_around a_depths a_compared a_numbers a_operators) :
    (wY_readItems_71 post J21 (yc_h (it_bs k t)) (nI t) (nI (k t)) f_length f_tokenCount f_itemCount f_blockCount f_looseCount f_numberCount f_operatorCount a_text a_kinds a_starts a_ends a_owners a_meant a_firsts a_lasts a_sorts a_blocks a_knowns a_values a_around a_depths a_compared a_numbers a_operators) := by
  obtain ⟨rfl, rfl, rfl, g4, g5, g6, g7, g8, g9⟩ := hG
  obtain ⟨b1, b2, b3, b4⟩ := it_Bp k t
  obtain ⟨d1, d2⟩ := it_D k t
  have c2 := (it_Cp k (t + 1)).2.1
  refine nm_r (nI_1 t) (pk_eq (k t) 9 (fun h9 => ?_) (fun h9 => pk_eq (k t) 10 (fun h10 => ?_) (fun h10 => ?_)))
  · have htT : t ≠ T := fun z => by rw [z] at h9; omega
    have hfin : ∀ z0 : Int32, z0 = nI ((it_bs k t).length + 1) → (wY_readItems_116 post J21 (nI (t + 1)) (nI t) z0 (nI (it_nb k t)) f_length f_tokenCount (nI (it_cn k (t + 1))) (nI (it_nb k t)) (nI (it_lo k t)) f_numberCount f_operatorCount a_text a_kinds a_starts a_ends a_owners a_meant a_firsts a_lasts a_sorts a_blocks a_knowns a_values (upd a_around (it_nb k t) (yc_h (it_bs k t))) a_depths a_compared a_numbers a_operators) := by
      intro z0 hz
      subst hz
      refine ⟨pk_in (it_nb k t) 80 (by omega), ed_nu (it_nb k t) (nm_r (nI_1 _) (nm_r (nI_1 t) ?_))⟩
      have h := h (nI (it_nb k t + 1)) (nI (it_lo k t)) (upd a_around (it_nb k t) (yc_h (it_bs k t))) (upd a_depths (it_nb k t) (nI ((it_bs k t).length + 1)))
      rw [it_nb_9 h9, it_bs_9 h9, it_lo_n (by omega)] at h
      refine h ⟨rfl, rfl, rfl, g4, g5, g6, g7, ?_, ?_⟩
      · intro i hi
        refine yc_u (fun b hb => ?_) (g8 i hi)
        have := c2 i hi b hb
        have := d1 i hi
        omega
      · exact ⟨by omega, pk_us, pk_us, yc_u (fun b hb => (b3 b hb).2) g9⟩
    refine ⟨pk_in (it_nb k t) 80 (by omega), ed_nu (it_nb k t) ?_⟩
    cases hb : it_bs k t with
    | nil =>
      rw [hb] at hfin
      exact br_f (by rw [show yc_h [] = (-1 : Int32) from rfl]; decide) (hfin 1 rfl)
    | cons b r =>
      have hbm := b3 b (by rw [hb]; exact List.mem_cons_self)
      rw [hb] at hfin g9
      have e1 : a_depths (nI (b - 1)).toNatClampNeg = nI (r.length + 1) := ed_rt (b - 1) g9.2.2.1
      refine br_t (show (0 : Int32) ≤ nI (b - 1) from nI_pos' (by omega)) ⟨pk_in (b - 1) 80 (by omega), ?_⟩
      refine hfin _ ?_
      show a_depths (nI (b - 1)).toNatClampNeg + 1 = _
      rw [e1, nI_1]; rfl
  · cases hb : it_bs k t with
    | nil =>
      have hn : ¬ (0 : Int32) ≤ -1 := by decide
      refine br_f hn (br_f hn (nm_r (nI_1 t) ?_))
      have h := h (nI (it_nb k t)) (nI (it_lo k t + 1)) a_around a_depths
      rw [it_nb_n h9, it_bs_10 h10, it_lo_p h10 hb, hb] at h
      rw [nI_1]
      exact h ⟨rfl, rfl, rfl, g4, g5, g6, g7, g8, trivial⟩
    | cons b r =>
      have hbm := b3 b (by rw [hb]; exact List.mem_cons_self)
      have hp : (0 : Int32) ≤ nI (b - 1) := nI_pos' (by omega)
      rw [hb] at g9
      refine br_t hp (br_t hp ⟨pk_in (b - 1) 80 (by omega), ed_rd (b - 1) g9.2.1 (nm_r (nI_1 t) ?_)⟩)
      have h := h (nI (it_nb k t)) (nI (it_lo k t)) a_around a_depths
      rw [it_nb_n h9, it_bs_10 h10, it_lo_n (by rintro ⟨_, z⟩; rw [hb] at z; cases z), hb] at h
      exact h ⟨rfl, rfl, rfl, g4, g5, g6, g7, g8, g9.2.2.2⟩
  · have h := h (nI (it_nb k t)) (nI (it_lo k t)) a_around a_depths
    rw [it_nb_n h9, it_bs_n h9 h10, it_lo_n (by omega)] at h
    exact nm_r (nI_1 t) (h ⟨rfl, rfl, rfl, g4, g5, g6, g7, g8, g9⟩)
theorem yi_loop {post : SY → Prop} {k : Nat → Nat} {T : Nat} (hT : T ≤ 80) (hk : ed_ag a_kinds k T) (hkk : ∀ t, t < T + 1 → k t < 100) (h11 : k T = 11)
    (hP : ∀ (f_blockCount f_looseCount' : Int32) (a_owners a_firsts a_lasts a_sorts a_blocks a_around a_depths a_compared : Nat → Int32), ed_ao a_owners (it_ow k) T → yi_G k (it_cn k (T + 1)) (it_nb k (T + 1)) (it_lo k (T + 1)) (it_bs k (T + 1)) (it_fi k (T + 1)) (it_ie k (T + 1)) (it_ik k (T + 1)) (nI (it_cn k (T + 1))) f_blockCount f_looseCount' a_firsts a_lasts a_sorts a_blocks a_around a_depths →
      post (f_length, nI T, nI (it_cn k (T + 1)), f_blockCount, nI (it_lo k (T + 1) + (it_bs k (T + 1)).length), f_numberCount, f_operatorCount, a_text, a_kinds, a_starts, a_ends, a_owners, a_meant, a_firsts, a_lasts, a_sorts, a_blocks, a_knowns, a_values, a_around, a_depths, a_compared, a_numbers, a_operators)) :
    ∀ d t, t + d = T + 1 → ∀ f, d < f → ∀ (f_itemCount f_blockCount f_looseCount : Int32) (a_owners a_firsts a_lasts a_sorts a_blocks a_around a_depths a_compared : Nat → Int32),
      yi_G k (it_cn k t) (it_nb k t) (it_lo k t) (it_bs k t) (it_fi k t) (it_ie k t) (it_ik k t) f_itemCount f_blockCount f_looseCount a_firsts a_lasts a_sorts a_blocks a_around a_depths → yi_O k T (it_fr k t) a_owners →
      (wY_readItems_21 post f (yc_h (it_bs k t)) (nI (it_fr k t)) (nI t) f_length (nI T) f_itemCount f_blockCount f_looseCount f_numberCount f_operatorCount a_text a_kinds a_starts a_ends a_owners a_meant a_firsts a_lasts a_sorts a_blocks a_knowns a_values a_around a_depths a_compared a_numbers a_operators) := by
  intro d
  induction d with
  | zero =>
    intro t ht f hf IC BC LC OW FI LA SO BL AR DE CO hG hO
    obtain ⟨f, rfl⟩ : ∃ g, f = g + 1 := ⟨f - 1, by omega⟩
    have e : t = T + 1 := by omega
    subst e
    have hfr : it_fr k (T + 1) = T + 1 := it_fr_b (by omega)
    have hbp := it_Bp k (T + 1)
    have hO2 : ed_ao OW (it_ow k) T := fun j hj => hO.1 j (by omega) hj
    have hG2 := hG
    obtain ⟨rfl, rfl, rfl, g4, g5, g6, g7, g8, g9⟩ := hG
    refine br_t (nI_lt (by omega) (by omega)) ?_
    cases hb : it_bs k (T + 1) with
    | nil =>
      refine br_f (by rw [show yc_h [] = (-1 : Int32) from rfl]; decide) ?_
      have hP := hP _ _ OW FI LA SO BL AR DE CO hO2 hG2
      rw [hb] at hP; exact hP
    | cons b r =>
      have hbm := hbp.2.2.1 b (by rw [hb]; exact List.mem_cons_self)
      have hb1 := hbp.1
      have hnT : it_nb k (T + 1) = it_nb k T := it_nb_n (by omega)
      have hnT2 := (it_Bp k T).1
      have g9' := g9
      rw [hb] at g9'
      refine br_t (show (0 : Int32) ≤ nI (b - 1) from nI_pos' (by omega)) ⟨pk_in (b - 1) 80 (by omega), ?_⟩
      refine nm_r (e' := nI (it_lo k (T + 1) + (r.length + 1))) ?_ ?_
      · show nI (it_lo k (T + 1)) + DE (nI (b - 1)).toNatClampNeg = _
        rw [ed_rt (b - 1) g9'.2.2.1, nI_add]
      · have hP := hP _ _ OW FI LA SO BL AR DE CO hO2 hG2
        rw [hb] at hP; exact hP
  | succ d ih =>
    intro t ht f hf IC BC LC OW FI LA SO BL AR DE CO hG hO
    obtain ⟨f, rfl⟩ : ∃ g, f = g + 1 := ⟨f - 1, by omega⟩
    have ih := ih (t + 1) (by omega) f (by omega)
    have hkt := hkk t (by omega)
    obtain ⟨i1, i2, i3, i4, i5, i6⟩ := it_Ip k t
    have h48 : (wY_readItems_48 post (wY_readItems_21 post f) (yc_h (it_bs k t)) (nI (it_fr k t)) (nI t) (nI (k t)) f_length (nI T) IC BC LC f_numberCount f_operatorCount a_text a_kinds a_starts a_ends OW a_meant FI LA SO BL a_knowns a_values AR DE CO a_numbers a_operators) := by
      refine pk_le (k t) 7 (fun h7 => nm_r (nI_1 t) ?_) (fun h7 => ?_)
      · have h8' : k t < 8 := by omega
        unfold it_fi it_ie it_ik at ih
        rw [it_cn_a h8', it_nb_n (by omega), it_lo_n (by omega), it_fr_a h8', it_bs_n (by omega) (by omega), it_tb_a h8', it_tb_a h8', it_tb_a h8'] at ih
        exact ih IC BC LC OW FI LA SO BL AR DE CO hG hO
      · rw [it_fr_b (by omega)] at ih
        refine pk_le t (it_fr k t) (fun hle => ?_) (fun hlt => ?_)
        · refine yi_blk (by omega) hT h11 hkt (by omega) (?_ : yi_G k (it_cn k (t + 1)) (it_nb k t) (it_lo k t) (it_bs k t) (it_fi k (t + 1)) (it_ie k (t + 1)) (it_ik k (t + 1)) IC BC LC FI LA SO BL AR DE) (fun BC LC AR DE hG2 => ih IC BC LC OW FI LA SO BL AR DE CO hG2 ?_)
          · unfold it_fi it_ie it_ik
            rw [it_cn_b (by omega) (by omega), it_tb_b (by omega) (by omega), it_tb_b (by omega) (by omega), it_tb_b (by omega) (by omega)]
            exact hG
          · refine ⟨fun j hj hjT => ?_, fun j hj hjT => hO.2 j (by omega) hjT⟩
            by_cases z : j < it_fr k t
            · exact hO.1 j z hjT
            · have e : j = t := by omega
              subst e
              rw [hO.2 j (by omega) hjT]; unfold it_ow; rw [if_neg (by omega)]; rfl
        · refine yi_addG (by omega) hT hk hkk (by omega) hlt rfl hG hO (fun IC OW FI LA SO BL CO hG2 hO2 => ?_)
          exact yi_blk (by omega) hT h11 hkt (by omega) hG2 (fun BC LC AR DE hG3 => ih IC BC LC OW FI LA SO BL AR DE CO hG3 hO2)
    refine br_f (nI_nlt (by omega) (by omega)) (pk_le T t (fun hle => ?_) (fun hlt => ⟨pk_in t 80 (by omega), ?_⟩))
    · have e : t = T := by omega
      rw [e, h11] at h48
      rw [e]
      exact h48
    · rw [ed_rt t (hk t hlt)]
      exact h48
theorem yi_read {post : SY → Prop} {k : Nat → Nat} {T : Nat} (hT : T ≤ 80) (hk : ed_ag a_kinds k T) (hkk : ∀ t, t < T + 1 → k t < 100) (h11 : k T = 11) (hOW : ∀ t, t < T → a_owners t = -3)
    (hP : ∀ (f_blockCount f_looseCount' : Int32) (a_owners a_firsts a_lasts a_sorts a_blocks a_around a_depths a_compared : Nat → Int32), ed_ao a_owners (it_ow k) T → yi_G k (it_cn k (T + 1)) (it_nb k (T + 1)) (it_lo k (T + 1)) (it_bs k (T + 1)) (it_fi k (T + 1)) (it_ie k (T + 1)) (it_ik k (T + 1)) (nI (it_cn k (T + 1))) f_blockCount f_looseCount' a_firsts a_lasts a_sorts a_blocks a_around a_depths →
      post (f_length, nI T, nI (it_cn k (T + 1)), f_blockCount, nI (it_lo k (T + 1) + (it_bs k (T + 1)).length), f_numberCount, f_operatorCount, a_text, a_kinds, a_starts, a_ends, a_owners, a_meant, a_firsts, a_lasts, a_sorts, a_blocks, a_knowns, a_values, a_around, a_depths, a_compared, a_numbers, a_operators)) :
    wpY_readItems post (f_length, nI T, f_itemCount, f_blockCount, f_looseCount, f_numberCount, f_operatorCount, a_text, a_kinds, a_starts, a_ends, a_owners, a_meant, a_firsts, a_lasts, a_sorts, a_blocks, a_knowns, a_values, a_around, a_depths, a_compared, a_numbers, a_operators) := by
  refine ⟨T + 2, ?_⟩
  refine yi_loop hT hk hkk h11 hP (T + 1) 0 (by omega) (T + 2) (by omega) 0 0 0 _ _ _ _ _ _ _ _ ⟨rfl, rfl, rfl, ?_, ?_, ?_, ?_, ?_, trivial⟩ ⟨fun j hj => absurd hj (Nat.not_lt_zero _), fun j _ hj => hOW j hj⟩
  · exact fun j hj => absurd hj (Nat.not_lt_zero _)
  · exact fun j hj => absurd hj (Nat.not_lt_zero _)
  · exact fun j hj => absurd hj (Nat.not_lt_zero _)
  · exact fun j hj => absurd hj (Nat.not_lt_zero _)
  · exact fun j hj => absurd hj (Nat.not_lt_zero _)
end
end
section
section
/-! X finds the meanings -/
def mm_f (k : Nat → Nat) (T : Nat) (nm : Nat → Nat → Bool) (i t : Nat) : Nat → Option Nat := fun q => if q < t then mn_mt k T nm (i + 1) q else mn_mt k T nm i q
theorem mm_s (k : Nat → Nat) (T : Nat) (nm : Nat → Nat → Bool) (i t : Nat) : mm_f k T nm i (t + 1) = ed_fu (mm_f k T nm i t) t (mn_mt k T nm (i + 1) t) := by
  funext q
  unfold mm_f ed_fu
  by_cases e : q = t
  · subst e; rw [if_pos (by omega), if_pos rfl]
  · rw [if_neg e]
    dsimp only
    by_cases e2 : q < t
    · rw [if_pos e2, if_pos (by omega)]
    · rw [if_neg e2, if_neg (by omega)]
theorem mm_n {k : Nat → Nat} {T : Nat} {nm : Nat → Nat → Bool} {i t : Nat} (h : ¬ k t = 0) : mm_f k T nm i (t + 1) = mm_f k T nm i t := by
  rw [mm_s]
  funext q
  unfold ed_fu
  by_cases e : q = t
  · subst e
    rw [if_pos rfl]
    unfold mm_f
    rw [if_neg (Nat.lt_irrefl _)]
    show (if _ then _ else _) = _
    rw [if_neg (by omega)]
  · rw [if_neg e]
theorem mm_0 {k : Nat → Nat} {T : Nat} {nm : Nat → Nat → Bool} {i : Nat} : mm_f k T nm i (mn_es k T i) = mn_mt k T nm i := by
  funext q
  unfold mm_f
  by_cases e : q < mn_es k T i
  · rw [if_pos e]
    show (if _ then _ else _) = _
    rw [if_neg (by omega)]
  · rw [if_neg e]
theorem mm_e {k : Nat → Nat} {T : Nat} {nm : Nat → Nat → Bool} {i : Nat} : mm_f k T nm i (it_ie k (T + 1) i) = mn_mt k T nm (i + 1) := by
  funext q
  unfold mm_f
  by_cases e : q < it_ie k (T + 1) i
  · rw [if_pos e]
  · rw [if_neg e]
    show _ = (if _ then _ else _)
    rw [if_neg (by omega)]
theorem mm_w {k : Nat → Nat} {T : Nat} {nm : Nat → Nat → Bool} {i : Nat} (h : mn_so k T i = 0) : mn_mt k T nm (i + 1) = mn_mt k T nm i := by
  funext q
  show (if _ then _ else _) = _
  rw [if_neg (by omega)]
theorem mm_t {k : Nat → Nat} {T : Nat} {nm : Nat → Nat → Bool} {i t : Nat} (hi : i < it_cn k (T + 1)) (ht : it_fi k (T + 1) i ≤ t) : mm_f k T nm i t t = none := by
  unfold mm_f
  rw [if_neg (Nat.lt_irrefl _)]
  exact mn_mt_out hi ht
theorem mm_ct {f : Nat → Option Nat} {t d : Nat} (hn : f t = none) {T : Nat} (ht : t < T) (x : Nat) : mn_ct (ed_fu f t (some d)) x T = if x = d then mn_ct f x T + 1 else mn_ct f x T := by
  by_cases e : x = d
  · subst e; rw [if_pos rfl]; exact mn_ct_p hn ht
  · rw [if_neg e]
    refine mn_ct_u (fun q hq => ?_)
    by_cases z : q = t
    · subst z
      rw [ed_fs, hn]
      constructor
      · intro y; cases y; exact absurd rfl e
      · intro y; cases y
    · rw [ed_fn z]
theorem mm_same {f : Nat → Option Nat} {t : Nat} (hn : f t = none) : ed_fu f t none = f := by
  funext q
  unfold ed_fu
  by_cases e : q = t
  · subst e; rw [if_pos rfl, hn]
  · rw [if_neg e]
variable {f_size f_tokenCount f_itemCount f_blockCount f_openCount f_looseCount : Int32} {a_text a_characterToken a_tokenKind a_tokenStart a_tokenEnd a_tokenItem a_tokenMeaning a_itemFirst a_itemEnd a_itemSort a_itemDepth a_itemBlock a_itemUses a_itemKnown a_itemValue a_blockEnd a_openBlocks a_levelCompares a_levelLeft a_levelSum a_levelProduct : Nat → Int32}
theorem xm_sl {post : Int32 → Prop} {c st en : Nat → Nat} {T n t u : Nat} (hn : n ≤ 80) (hT : T ≤ 80) (hS : ed_ag a_tokenStart st T) (hE : ed_ag a_tokenEnd en T) (hX : ed_ag a_text c n) (hse : ∀ q, q < T → st q < en q ∧ en q ≤ n) (hc : ∀ j, j < n → c j ≤ 18) (ht : t < T) (hu : u < T) (hw : en t - st t = en u - st u)
    (h1 : mn_nm c st en t u = true → post 1) (h0 : mn_nm c st en t u = false → post 0) :
    ∀ d j, j + d = en t - st t → (∀ i, i < j → c (st t + i) = c (st u + i)) → ∀ f, d < f → (wX_isSameName_36 post (nI t) (nI u) (nI (en t - st t)) f_size f_tokenCount f_itemCount f_blockCount f_openCount f_looseCount a_text a_characterToken a_tokenKind a_tokenStart a_tokenEnd a_tokenItem a_tokenMeaning a_itemFirst a_itemEnd a_itemSort a_itemDepth a_itemBlock a_itemUses a_itemKnown a_itemValue a_blockEnd a_openBlocks a_levelCompares a_levelLeft a_levelSum a_levelProduct f (nI j)) := by
  intro d
  have ht2 := hse t ht
  have hu2 := hse u hu
  induction d with
  | zero =>
    intro j hj hi f hf
    obtain ⟨f, rfl⟩ : ∃ g, f = g + 1 := ⟨f - 1, by omega⟩
    refine br_t (nI_le (by omega) (by omega)) (h1 ?_)
    unfold mn_nm
    exact decide_eq_true ⟨hw, fun i hi2 => hi i (by omega)⟩
  | succ d ih =>
    intro j hj hi f hf
    obtain ⟨f, rfl⟩ : ∃ g, f = g + 1 := ⟨f - 1, by omega⟩
    have e1 : a_tokenStart (nI t).toNatClampNeg + nI j = nI (st t + j) := by rw [ed_rt t (hS t ht), nI_add]
    have e2 : a_tokenStart (nI u).toNatClampNeg + nI j = nI (st u + j) := by rw [ed_rt u (hS u hu), nI_add]
    have c1 := hc (st t + j) (by omega)
    have c2 := hc (st u + j) (by omega)
    refine br_f (nI_ge (by omega) (by omega)) ⟨pk_in t 80 (by omega), ?_⟩
    rw [e1, e2]
    refine ⟨pk_in (st t + j) 80 (by omega), pk_in u 80 (by omega), pk_in (st u + j) 80 (by omega), pk_eq (c (st t + j)) (c (st u + j)) (fun e => ?_) (fun e => ?_) (ed_rt _ (hX _ (by omega))) (ed_rt _ (hX _ (by omega)))⟩
    · refine nm_r (nI_1 j) (ih (j + 1) (by omega) (fun i hi2 => ?_) f (by omega))
      by_cases z : i = j
      · subst z; exact e
      · exact hi i (by omega)
    · refine h0 ?_
      unfold mn_nm
      exact decide_eq_false (fun z => e (z.2 j (by omega)))
theorem xm_same {post : Int32 → Prop} {c st en : Nat → Nat} {T n t u : Nat} (hn : n ≤ 80) (hT : T ≤ 80) (hS : ed_ag a_tokenStart st T) (hE : ed_ag a_tokenEnd en T) (hX : ed_ag a_text c n) (hse : ∀ q, q < T → st q < en q ∧ en q ≤ n) (hc : ∀ j, j < n → c j ≤ 18) (ht : t < T) (hu : u < T)
    (h1 : mn_nm c st en t u = true → post 1) (h0 : mn_nm c st en t u = false → post 0) : wpX_isSameName post (f_size, f_tokenCount, f_itemCount, f_blockCount, f_openCount, f_looseCount, a_text, a_characterToken, a_tokenKind, a_tokenStart, a_tokenEnd, a_tokenItem, a_tokenMeaning, a_itemFirst, a_itemEnd, a_itemSort, a_itemDepth, a_itemBlock, a_itemUses, a_itemKnown, a_itemValue, a_blockEnd, a_openBlocks, a_levelCompares, a_levelLeft, a_levelSum, a_levelProduct) (nI t) (nI u) := by
  have ht2 := hse t ht
  have hu2 := hse u hu
  have e1 : a_tokenEnd (nI t).toNatClampNeg - a_tokenStart (nI t).toNatClampNeg = nI (en t - st t) := by rw [ed_rt t (hS t ht), ed_rt t (hE t ht), pk_sub (by omega)]
  have e2 : a_tokenEnd (nI u).toNatClampNeg - a_tokenStart (nI u).toNatClampNeg = nI (en u - st u) := by rw [ed_rt u (hS u hu), ed_rt u (hE u hu), pk_sub (by omega)]
  refine ⟨pk_in t 80 (by omega), pk_in t 80 (by omega), nm_r e1 ⟨pk_in u 80 (by omega), pk_in u 80 (by omega), pk_eq (en u - st u) (en t - st t) (fun hw => ⟨en t - st t + 1, ?_⟩) (fun hw => h0 ?_) e2⟩⟩
  · exact xm_sl hn hT hS hE hX hse hc ht hu hw.symm h1 h0 (en t - st t) 0 (by omega) (fun i hi => by omega) _ (by omega)
  · unfold mn_nm
    exact decide_eq_false (fun z => hw z.1.symm)
theorem xm_def {post : Int32 → Prop} {c st en k : Nat → Nat} {T n t i : Nat} {e : Nat → Nat} (hn : n ≤ 80) (hT : T ≤ 80) (hS : ed_ag a_tokenStart st T) (hE : ed_ag a_tokenEnd en T) (hX : ed_ag a_text c n) (hse : ∀ q, q < T → st q < en q ∧ en q ≤ n) (hc : ∀ j, j < n → c j ≤ 18)
    (hN : it_cn k (T + 1) ≤ 80) (hi : i < it_cn k (T + 1)) (ht1 : it_fi k (T + 1) i ≤ t) (ht2 : t < it_ie k (T + 1) i) (hFI : ed_ag a_itemFirst (it_fi k (T + 1)) (it_cn k (T + 1))) (hSO : ed_ag a_itemSort (mn_so k T) (it_cn k (T + 1))) (hIB : ed_ag a_itemBlock (fun i => xb_h (it_ik k (T + 1) i)) (it_cn k (T + 1)))
    (hBE : ed_ag a_blockEnd e (it_nb k (T + 1) + 1)) (hxb : xb_I T e (it_bs k (T + 1)) (it_nb k (T + 1)) (it_fr k (T + 1)) (it_cn k (T + 1)) (it_fi k (T + 1)) (it_ie k (T + 1)) (it_in k (T + 1)) (it_ik k (T + 1))) (hnb : it_nb k (T + 1) ≤ 80) (heT : ∀ b, b ≤ it_nb k (T + 1) → e b ≤ 1000) :
    ∀ D, D ≤ i → ∀ x3 : Int32, x3 = nI D - 1 → ∀ f, D < f → post (ed_oI (mn_sr k T (mn_nm c st en) i t D)) → (wX_definitionMeant_4 post (nI t) f_size f_tokenCount f_itemCount f_blockCount f_openCount f_looseCount a_text a_characterToken a_tokenKind a_tokenStart a_tokenEnd a_tokenItem a_tokenMeaning a_itemFirst a_itemEnd a_itemSort a_itemDepth a_itemBlock a_itemUses a_itemKnown a_itemValue a_blockEnd a_openBlocks a_levelCompares a_levelLeft a_levelSum a_levelProduct f x3) := by
  intro D
  induction D with
  | zero =>
    intro _ x3 hx f hf hP
    obtain ⟨f, rfl⟩ : ∃ g, f = g + 1 := ⟨f - 1, by omega⟩
    subst hx
    exact br_t (by decide) hP
  | succ D ih =>
    intro hD x3 hx f hf hP
    obtain ⟨f, rfl⟩ : ∃ g, f = g + 1 := ⟨f - 1, by omega⟩
    rw [nI_pred] at hx
    subst hx
    have hi4 := (it_Ip k (T + 1)).2.2.2.1
    have hfr := (it_Ip k (T + 1)).1
    have hdi := hi4 D (by omega)
    have hii := hi4 i hi
    have hrc := xb_reach hxb hi (show D ≤ i by omega) ht1 ht2
    have hb : xb_h (it_ik k (T + 1) D) ≤ it_nb k (T + 1) := by
      cases hl : it_ik k (T + 1) D with
      | nil => exact Nat.zero_le _
      | cons b r =>
        have h1 := (it_Cp k (T + 1)).2.1 D (by omega) b (by rw [hl]; exact List.mem_cons_self)
        have h2 := (it_Cp k (T + 1)).2.2.1 D (by omega)
        exact Nat.le_trans h1.2 h2
    have hso : mn_so k T D ≤ 2 := ex_so_le _ _ _
    have eso : a_itemSort (nI D).toNatClampNeg = nI (mn_so k T D) := ed_rt D (hSO D (by omega))
    have eib : a_itemBlock (nI D).toNatClampNeg = nI (xb_h (it_ik k (T + 1) D)) := ed_rt D (hIB D (by omega))
    have efi : a_itemFirst (nI D).toNatClampNeg = nI (it_fi k (T + 1) D) := ed_rt D (hFI D (by omega))
    have hskip : ¬ (mn_so k T D = 2 ∧ mn_rc k T i D = true ∧ mn_nm c st en (it_fi k (T + 1) D) t = true) → (wX_definitionMeant_4 post (nI t) f_size f_tokenCount f_itemCount f_blockCount f_openCount f_looseCount a_text a_characterToken a_tokenKind a_tokenStart a_tokenEnd a_tokenItem a_tokenMeaning a_itemFirst a_itemEnd a_itemSort a_itemDepth a_itemBlock a_itemUses a_itemKnown a_itemValue a_blockEnd a_openBlocks a_levelCompares a_levelLeft a_levelSum a_levelProduct f (nI D + (-1))) := by
      intro hno
      refine ih (by omega) _ (Int32.sub_eq_add_neg _ _).symm f (by omega) ?_
      have e1 : mn_sr k T (mn_nm c st en) i t (D + 1) = mn_sr k T (mn_nm c st en) i t D := by
        show (if _ then _ else _) = _
        rw [if_neg hno]
      rw [e1] at hP; exact hP
    refine br_f (nI_pos (by omega)) ⟨pk_in D 80 (by omega), pk_eq (mn_so k T D) 2 (fun h2 => ⟨pk_in D 80 (by omega), ?_⟩) (fun h2 => ?_) eso⟩
    · rw [eib]
      have heb := heT _ hb
      refine ⟨pk_in (xb_h (it_ik k (T + 1) D)) 81 (by omega), pk_le (e (xb_h (it_ik k (T + 1) D))) t (fun hle => ?_) (fun hgt => ?_) (ed_rt _ (hBE _ (by omega)))⟩
      · refine br_t rfl (nm_e (hskip (fun z => ?_)))
        have := hrc.mpr z.2.1
        omega
      · refine br_f (by decide) ⟨pk_in D 80 (by omega), ?_⟩
        rw [efi]
        refine xm_same hn hT hS hE hX hse hc (by omega) (by omega) (fun hy => br_f (by decide) ?_) (fun hy => br_t rfl (nm_e (hskip (fun z => by rw [hy] at z; exact absurd z.2.2 (by decide)))))
        have e1 : mn_sr k T (mn_nm c st en) i t (D + 1) = some D := by
          show (if _ then _ else _) = _
          rw [if_pos ⟨h2, hrc.mp hgt, hy⟩]
        rw [e1] at hP; exact hP
    · exact br_t rfl (nm_e (hskip (fun z => h2 z.1)))
end
end
section
section
/-! X finds the meanings, item by item -/
theorem it_N {k : Nat → Nat} {T : Nat} (h11 : k T = 11) : it_cn k (T + 1) ≤ T := by
  obtain ⟨i1, i2, _⟩ := it_Ip k T
  by_cases e : it_fr k T < T
  · rw [it_cn_c (by omega) e]; omega
  · rw [it_cn_b (by omega) e]; omega
theorem it_M {k : Nat → Nat} {T : Nat} (h11 : k T = 11) : it_nb k (T + 1) ≤ T := by
  rw [it_nb_n (by omega)]; exact (it_Bp k T).1
theorem it_E {k : Nat → Nat} {T i : Nat} (hi : i < it_cn k (T + 1)) : it_fi k (T + 1) i < it_ie k (T + 1) i ∧ it_ie k (T + 1) i ≤ T := by
  have h := (it_Ip k (T + 1)).2.2.2.1 i hi
  have h2 := (it_Ip k (T + 1)).1
  exact ⟨h.1, by omega⟩
theorem xb_le {T : Nat} {e : Nat → Nat} {k : Nat → Nat} (h : xb_I T e (it_bs k (T + 1)) (it_nb k (T + 1)) (it_fr k (T + 1)) (it_cn k (T + 1)) (it_fi k (T + 1)) (it_ie k (T + 1)) (it_in k (T + 1)) (it_ik k (T + 1))) : ∀ b, b ≤ it_nb k (T + 1) → e b ≤ T := by
  intro b hb
  obtain ⟨h1, h2, h3, _⟩ := h
  have hfr := (it_Ip k (T + 1)).1
  by_cases z : b = 0
  · rw [z, h1]; exact Nat.le_refl _
  · by_cases m : b ∈ it_bs k (T + 1)
    · rw [h2 b m]; exact Nat.le_refl _
    · have := h3 b (by omega) hb m; omega
def xp_P (c st en k : Nat → Nat) (T n : Nat) (a_text a_tokenKind a_tokenStart a_tokenEnd a_itemFirst a_itemEnd a_itemSort : Nat → Int32) : Prop :=
  n ≤ 80 ∧ T ≤ 80 ∧ (∀ q, q < T → st q < en q ∧ en q ≤ n) ∧ (∀ j, j < n → c j ≤ 18) ∧ (∀ t, t < T → k t ≤ 10) ∧ k T = 11
  ∧ ed_ag a_text c n ∧ ed_ag a_tokenKind k T ∧ ed_ag a_tokenStart st T ∧ ed_ag a_tokenEnd en T
  ∧ ed_ag a_itemFirst (it_fi k (T + 1)) (it_cn k (T + 1)) ∧ ed_ag a_itemEnd (it_ie k (T + 1)) (it_cn k (T + 1)) ∧ ed_ag a_itemSort (mn_so k T) (it_cn k (T + 1))
def xp_B (k : Nat → Nat) (T : Nat) (a_itemBlock a_blockEnd : Nat → Int32) : Prop :=
  ed_ag a_itemBlock (fun i => xb_h (it_ik k (T + 1) i)) (it_cn k (T + 1)) ∧ ∃ e, ed_ag a_blockEnd e (it_nb k (T + 1) + 1) ∧ xb_I T e (it_bs k (T + 1)) (it_nb k (T + 1)) (it_fr k (T + 1)) (it_cn k (T + 1)) (it_fi k (T + 1)) (it_ie k (T + 1)) (it_in k (T + 1)) (it_ik k (T + 1))
variable {f_size f_tokenCount f_itemCount f_blockCount f_openCount f_looseCount : Int32} {a_text a_characterToken a_tokenKind a_tokenStart a_tokenEnd a_tokenItem a_tokenMeaning a_itemFirst a_itemEnd a_itemSort a_itemDepth a_itemBlock a_itemUses a_itemKnown a_itemValue a_blockEnd a_openBlocks a_levelCompares a_levelLeft a_levelSum a_levelProduct : Nat → Int32}
theorem xm_start {post : Int32 → Prop} {i s f : Nat} (hi : i < 80) (hs : a_itemSort i = nI s) (hs2 : s ≤ 2) (hf : a_itemFirst i = nI f) (h : post (nI (ex_es s f))) : wpX_expressionStart post (f_size, f_tokenCount, f_itemCount, f_blockCount, f_openCount, f_looseCount, a_text, a_characterToken, a_tokenKind, a_tokenStart, a_tokenEnd, a_tokenItem, a_tokenMeaning, a_itemFirst, a_itemEnd, a_itemSort, a_itemDepth, a_itemBlock, a_itemUses, a_itemKnown, a_itemValue, a_blockEnd, a_openBlocks, a_levelCompares, a_levelLeft, a_levelSum, a_levelProduct) (nI i) := by
  refine ⟨pk_in i 80 hi, pk_eq s 2 (fun h2 => ⟨pk_in i 80 hi, ?_⟩) (fun h2 => ⟨pk_in i 80 hi, ?_⟩) (ed_rt i hs)⟩
  · rw [ed_rt i hf, show nI f + 2 = nI (f + 2) from nI_add f 2]
    unfold ex_es at h; rw [if_pos h2] at h; exact h
  · rw [ed_rt i hf]
    unfold ex_es at h; rw [if_neg h2] at h; exact h
theorem xm_mean {post : Int32 → Prop} {c st en k : Nat → Nat} {T n t i : Nat} (hp : xp_P c st en k T n a_text a_tokenKind a_tokenStart a_tokenEnd a_itemFirst a_itemEnd a_itemSort) (hB : xp_B k T a_itemBlock a_blockEnd)
    (hi : i < it_cn k (T + 1)) (ht1 : it_fi k (T + 1) i ≤ t) (ht2 : t < it_ie k (T + 1) i) (h : post (ed_oI (mn_sr k T (mn_nm c st en) i t i))) : wpX_definitionMeant post (f_size, f_tokenCount, f_itemCount, f_blockCount, f_openCount, f_looseCount, a_text, a_characterToken, a_tokenKind, a_tokenStart, a_tokenEnd, a_tokenItem, a_tokenMeaning, a_itemFirst, a_itemEnd, a_itemSort, a_itemDepth, a_itemBlock, a_itemUses, a_itemKnown, a_itemValue, a_blockEnd, a_openBlocks, a_levelCompares, a_levelLeft, a_levelSum, a_levelProduct) (nI t) (nI i) := by
  obtain ⟨h1, h2, h3, h4, h5, h6, h7, h8, h9, h10, h11, h12, h13⟩ := hp
  obtain ⟨b1, e, b2, b3⟩ := hB
  have hN := it_N h6
  have hM := it_M h6
  refine nm_e ⟨i + 1, ?_⟩
  exact xm_def h1 h2 h9 h10 h7 h3 h4 (by omega) hi ht1 ht2 h11 h13 b1 b2 b3 (by omega) (fun b hb => Nat.le_trans (xb_le b3 b hb) (by omega)) i (Nat.le_refl _) _ rfl (i + 1) (by omega) h
theorem xm_in {post : SX → Prop} {c st en k : Nat → Nat} {T n i : Nat} (hp : xp_P c st en k T n a_text a_tokenKind a_tokenStart a_tokenEnd a_itemFirst a_itemEnd a_itemSort) (hB : xp_B k T a_itemBlock a_blockEnd) (hi : i < it_cn k (T + 1)) (hso : mn_so k T i ≠ 0)
    (hP : ∀ a_tokenMeaning a_itemUses : Nat → Int32, ed_ao a_tokenMeaning (mn_mt k T (mn_nm c st en) (i + 1)) T → ed_ag a_itemUses (fun d => mn_ct (mn_mt k T (mn_nm c st en) (i + 1)) d T) (i + 1) → post (f_size, f_tokenCount, f_itemCount, f_blockCount, f_openCount, f_looseCount, a_text, a_characterToken, a_tokenKind, a_tokenStart, a_tokenEnd, a_tokenItem, a_tokenMeaning, a_itemFirst, a_itemEnd, a_itemSort, a_itemDepth, a_itemBlock, a_itemUses, a_itemKnown, a_itemValue, a_blockEnd, a_openBlocks, a_levelCompares, a_levelLeft, a_levelSum, a_levelProduct)) :
    ∀ d t, t + d = it_ie k (T + 1) i → mn_es k T i ≤ t → ∀ f, d < f → ∀ a_tokenMeaning a_itemUses : Nat → Int32, ed_ao a_tokenMeaning (mm_f k T (mn_nm c st en) i t) T → ed_ag a_itemUses (fun d => mn_ct (mm_f k T (mn_nm c st en) i t) d T) (i + 1) →
      (wX_findMeaningsIn_6 post (nI i) f_size f_tokenCount f_itemCount f_blockCount f_openCount f_looseCount f (nI t) a_text a_characterToken a_tokenKind a_tokenStart a_tokenEnd a_tokenItem a_tokenMeaning a_itemFirst a_itemEnd a_itemSort a_itemDepth a_itemBlock a_itemUses a_itemKnown a_itemValue a_blockEnd a_openBlocks a_levelCompares a_levelLeft a_levelSum a_levelProduct) := by
  have hp2 := hp
  obtain ⟨h1, h2, h3, h4, h5, h6, h7, h8, h9, h10, h11, h12, h13⟩ := hp
  have hN := it_N h6
  have hE := it_E hi
  have hes := mn_es_ge k T i
  have eie : a_itemEnd (nI i).toNatClampNeg = nI (it_ie k (T + 1) i) := ed_rt i (h12 i hi)
  intro d
  induction d with
  | zero =>
    intro t ht hge f hf TM US g1 g2
    obtain ⟨f, rfl⟩ : ∃ g, f = g + 1 := ⟨f - 1, by omega⟩
    have e : t = it_ie k (T + 1) i := by omega
    rw [e, mm_e] at g1 g2
    exact ⟨pk_in i 80 (by omega), pk_le (it_ie k (T + 1) i) t (fun _ => hP TM US g1 g2) (fun z => by omega) eie⟩
  | succ d ih =>
    intro t ht hge f hf TM US g1 g2
    obtain ⟨f, rfl⟩ : ∃ g, f = g + 1 := ⟨f - 1, by omega⟩
    have ih := ih (t + 1) (by omega) (by omega) f (by omega)
    have hkt := h5 t (by omega)
    refine ⟨pk_in i 80 (by omega), pk_le (it_ie k (T + 1) i) t (fun z => by omega) (fun _ => ⟨pk_in t 80 (by omega), pk_eq (k t) 0 (fun h0 => ?_) (fun h0 => ?_) (ed_rt t (h8 t (by omega)))⟩) eie⟩
    · refine xm_mean hp2 hB hi (by omega) (by omega) ?_
      have hmt : mn_mt k T (mn_nm c st en) (i + 1) t = mn_sr k T (mn_nm c st en) i t i := by
        show (if _ then _ else _) = _
        rw [if_pos ⟨hso, hge, by omega, h0⟩]
      have hnone := mm_t (nm := mn_nm c st en) hi (show it_fi k (T + 1) i ≤ t by omega)
      have hs := mm_s k T (mn_nm c st en) i t
      rw [hmt] at hs
      refine ⟨pk_in t 80 (by omega), ed_nu t ?_⟩
      have g1' : ed_ao (upd TM t (ed_oI (mn_sr k T (mn_nm c st en) i t i))) (mm_f k T (mn_nm c st en) i (t + 1)) T := by
        rw [hs]
        intro j hj
        by_cases z : j = t
        · subst z; rw [pk_us, ed_fs]
        · rw [pk_un z, ed_fn z]; exact g1 j hj
      cases hd : mn_sr k T (mn_nm c st en) i t i with
      | none =>
        rw [hd] at hs g1'
        rw [mm_same hnone] at hs
        refine br_t rfl (nm_r (nI_1 t) (ih _ US g1' ?_))
        rw [hs]; exact g2
      | some x =>
        have hx := mn_sr_lt hd
        rw [hd] at hs g1'
        refine br_f (ed_m3 (show x < 2 ^ 31 by omega)) ⟨pk_in x 80 (by omega), pk_in x 80 (by omega), ?_⟩
        have hct := mn_ct_le (f := mm_f k T (mn_nm c st en) i t) (d := x) (T := T)
        refine ed_nuv x (nI (mn_ct (mm_f k T (mn_nm c st en) i t) x T + 1)) ?_ (nm_r (nI_1 t) (ih _ _ g1' ?_))
        · rw [ed_rt (x := ed_oI (some x)) x (g2 x (by omega)), nI_1]
        · rw [hs]
          intro y hy
          dsimp only
          rw [mm_ct hnone (by omega)]
          by_cases z : y = x
          · subst z; rw [pk_us, if_pos rfl]
          · rw [pk_un z, if_neg z]; exact g2 y hy
    · have hs := mm_n (T := T) (nm := mn_nm c st en) (i := i) h0
      rw [hs] at ih
      exact nm_r (nI_1 t) (ih TM US g1 g2)
theorem xm_item {post : SX → Prop} {c st en k : Nat → Nat} {T n i : Nat} (hp : xp_P c st en k T n a_text a_tokenKind a_tokenStart a_tokenEnd a_itemFirst a_itemEnd a_itemSort) (hB : xp_B k T a_itemBlock a_blockEnd) (hi : i < it_cn k (T + 1)) (hso : mn_so k T i ≠ 0)
    (g1 : ed_ao a_tokenMeaning (mn_mt k T (mn_nm c st en) i) T) (g2 : ed_ag a_itemUses (fun d => mn_ct (mn_mt k T (mn_nm c st en) i) d T) (i + 1))
    (hP : ∀ a_tokenMeaning a_itemUses : Nat → Int32, ed_ao a_tokenMeaning (mn_mt k T (mn_nm c st en) (i + 1)) T → ed_ag a_itemUses (fun d => mn_ct (mn_mt k T (mn_nm c st en) (i + 1)) d T) (i + 1) → post (f_size, f_tokenCount, f_itemCount, f_blockCount, f_openCount, f_looseCount, a_text, a_characterToken, a_tokenKind, a_tokenStart, a_tokenEnd, a_tokenItem, a_tokenMeaning, a_itemFirst, a_itemEnd, a_itemSort, a_itemDepth, a_itemBlock, a_itemUses, a_itemKnown, a_itemValue, a_blockEnd, a_openBlocks, a_levelCompares, a_levelLeft, a_levelSum, a_levelProduct)) :
    wpX_findMeaningsIn post (f_size, f_tokenCount, f_itemCount, f_blockCount, f_openCount, f_looseCount, a_text, a_characterToken, a_tokenKind, a_tokenStart, a_tokenEnd, a_tokenItem, a_tokenMeaning, a_itemFirst, a_itemEnd, a_itemSort, a_itemDepth, a_itemBlock, a_itemUses, a_itemKnown, a_itemValue, a_blockEnd, a_openBlocks, a_levelCompares, a_levelLeft, a_levelSum, a_levelProduct) (nI i) := by
  have hp2 := hp
  obtain ⟨h1, h2, h3, h4, h5, h6, h7, h8, h9, h10, h11, h12, h13⟩ := hp
  have hN := it_N h6
  have hle : mn_es k T i ≤ it_ie k (T + 1) i := (ex_so_ex (it_E hi).1 hso).2
  unfold wpX_findMeaningsIn
  refine xm_start (by omega) (h13 i hi) (ex_so_le _ _ _) (h11 i hi) ⟨it_ie k (T + 1) i - mn_es k T i + 1, ?_⟩
  refine xm_in hp2 hB hi hso hP (it_ie k (T + 1) i - mn_es k T i) (mn_es k T i) (by omega) (Nat.le_refl _) _ (by omega) _ _ ?_ ?_
  · rw [mm_0]; exact g1
  · rw [mm_0]; exact g2
theorem xm_items {post : SX → Prop} {c st en k : Nat → Nat} {T n : Nat} (hp : xp_P c st en k T n a_text a_tokenKind a_tokenStart a_tokenEnd a_itemFirst a_itemEnd a_itemSort) (hB : xp_B k T a_itemBlock a_blockEnd)
    (hP : ∀ a_tokenMeaning a_itemUses : Nat → Int32, ed_ao a_tokenMeaning (mn_mt k T (mn_nm c st en) (it_cn k (T + 1))) T → ed_ag a_itemUses (fun d => mn_ct (mn_mt k T (mn_nm c st en) (it_cn k (T + 1))) d T) (it_cn k (T + 1)) → post (f_size, nI T, nI (it_cn k (T + 1)), f_blockCount, f_openCount, f_looseCount, a_text, a_characterToken, a_tokenKind, a_tokenStart, a_tokenEnd, a_tokenItem, a_tokenMeaning, a_itemFirst, a_itemEnd, a_itemSort, a_itemDepth, a_itemBlock, a_itemUses, a_itemKnown, a_itemValue, a_blockEnd, a_openBlocks, a_levelCompares, a_levelLeft, a_levelSum, a_levelProduct)) :
    ∀ d i, i + d = it_cn k (T + 1) → ∀ f, d < f → ∀ a_tokenMeaning a_itemUses : Nat → Int32, ed_ao a_tokenMeaning (mn_mt k T (mn_nm c st en) i) T → ed_ag a_itemUses (fun d => mn_ct (mn_mt k T (mn_nm c st en) i) d T) i →
      (wX_findMeanings_26 post f (nI i) f_size (nI T) (nI (it_cn k (T + 1))) f_blockCount f_openCount f_looseCount a_text a_characterToken a_tokenKind a_tokenStart a_tokenEnd a_tokenItem a_tokenMeaning a_itemFirst a_itemEnd a_itemSort a_itemDepth a_itemBlock a_itemUses a_itemKnown a_itemValue a_blockEnd a_openBlocks a_levelCompares a_levelLeft a_levelSum a_levelProduct) := by
  have hN := it_N hp.2.2.2.2.2.1
  have hT := hp.2.1
  intro d
  induction d with
  | zero =>
    intro i hi f hf TM US g1 g2
    obtain ⟨f, rfl⟩ : ∃ g, f = g + 1 := ⟨f - 1, by omega⟩
    have e : i = it_cn k (T + 1) := by omega
    rw [e] at g1 g2
    rw [e]
    exact br_t (nI_le (Nat.le_refl _) (by omega)) (hP TM US g1 g2)
  | succ d ih =>
    intro i hi f hf TM US g1 g2
    obtain ⟨f, rfl⟩ : ∃ g, f = g + 1 := ⟨f - 1, by omega⟩
    have ih := ih (i + 1) (by omega) f (by omega)
    have hs2 : mn_so k T i ≤ 2 := ex_so_le _ _ _
    have g2' : ed_ag (upd US i (nI 0)) (fun d => mn_ct (mn_mt k T (mn_nm c st en) i) d T) (i + 1) := by
      intro j hj
      by_cases z : j = i
      · subst z; rw [pk_us]
        dsimp only
        rw [mn_ct_0 (fun t _ h => Nat.lt_irrefl _ (mn_mt_lt h))]
      · rw [pk_un z]; exact g2 j (by omega)
    refine br_f (nI_ge (by omega) (by omega)) ⟨pk_in i 80 (by omega), ed_nu i ⟨pk_in i 80 (by omega), pk_eq (mn_so k T i) 0 (fun h0 => ?_) (fun h0 => ?_) (ed_rt i (hp.2.2.2.2.2.2.2.2.2.2.2.2 i (by omega)))⟩⟩
    · rw [mm_w h0] at ih
      exact nm_r (nI_1 i) (ih TM _ g1 g2')
    · refine xm_item hp hB (by omega) h0 g1 g2' (fun TM US q1 q2 => ?_)
      exact nm_r (nI_1 i) (ih TM US q1 q2)
theorem xm_clear {post : SX → Prop} {T : Nat} (hT : T ≤ 80) (hP : ∀ a_tokenMeaning : Nat → Int32, (∀ t, t < T → a_tokenMeaning t = -3) → ∃ n26 : Nat, (wX_findMeanings_26 post n26 0 f_size (nI T) f_itemCount f_blockCount f_openCount f_looseCount a_text a_characterToken a_tokenKind a_tokenStart a_tokenEnd a_tokenItem a_tokenMeaning a_itemFirst a_itemEnd a_itemSort a_itemDepth a_itemBlock a_itemUses a_itemKnown a_itemValue a_blockEnd a_openBlocks a_levelCompares a_levelLeft a_levelSum a_levelProduct)) :
    ∀ d t, t + d = T → ∀ f, d < f → ∀ a_tokenMeaning : Nat → Int32, (∀ q, q < t → a_tokenMeaning q = -3) → (wX_findMeanings_2 post f_size (nI T) f_itemCount f_blockCount f_openCount f_looseCount f (nI t) a_text a_characterToken a_tokenKind a_tokenStart a_tokenEnd a_tokenItem a_tokenMeaning a_itemFirst a_itemEnd a_itemSort a_itemDepth a_itemBlock a_itemUses a_itemKnown a_itemValue a_blockEnd a_openBlocks a_levelCompares a_levelLeft a_levelSum a_levelProduct) := by
  intro d
  induction d with
  | zero =>
    intro t ht f hf TM g
    obtain ⟨f, rfl⟩ : ∃ g, f = g + 1 := ⟨f - 1, by omega⟩
    have e : t = T := by omega
    subst e
    exact br_t (nI_le (Nat.le_refl _) (by omega)) (hP TM g)
  | succ d ih =>
    intro t ht f hf TM g
    obtain ⟨f, rfl⟩ : ∃ g, f = g + 1 := ⟨f - 1, by omega⟩
    refine br_f (nI_ge (by omega) (by omega)) ⟨pk_in t 80 (by omega), ed_nu t (nm_r (nI_1 t) (ih (t + 1) (by omega) f (by omega) _ (fun q hq => ?_)))⟩
    by_cases z : q = t
    · rw [z, pk_us]
    · rw [pk_un z]; exact g q (by omega)
theorem xm_find {post : SX → Prop} {c st en k : Nat → Nat} {T n : Nat} (hp : xp_P c st en k T n a_text a_tokenKind a_tokenStart a_tokenEnd a_itemFirst a_itemEnd a_itemSort) (hB : xp_B k T a_itemBlock a_blockEnd)
    (hP : ∀ a_tokenMeaning a_itemUses : Nat → Int32, ed_ao a_tokenMeaning (mn_mt k T (mn_nm c st en) (it_cn k (T + 1))) T → ed_ag a_itemUses (fun d => mn_ct (mn_mt k T (mn_nm c st en) (it_cn k (T + 1))) d T) (it_cn k (T + 1)) → post (f_size, nI T, nI (it_cn k (T + 1)), f_blockCount, f_openCount, f_looseCount, a_text, a_characterToken, a_tokenKind, a_tokenStart, a_tokenEnd, a_tokenItem, a_tokenMeaning, a_itemFirst, a_itemEnd, a_itemSort, a_itemDepth, a_itemBlock, a_itemUses, a_itemKnown, a_itemValue, a_blockEnd, a_openBlocks, a_levelCompares, a_levelLeft, a_levelSum, a_levelProduct)) :
    wpX_findMeanings post (f_size, nI T, nI (it_cn k (T + 1)), f_blockCount, f_openCount, f_looseCount, a_text, a_characterToken, a_tokenKind, a_tokenStart, a_tokenEnd, a_tokenItem, a_tokenMeaning, a_itemFirst, a_itemEnd, a_itemSort, a_itemDepth, a_itemBlock, a_itemUses, a_itemKnown, a_itemValue, a_blockEnd, a_openBlocks, a_levelCompares, a_levelLeft, a_levelSum, a_levelProduct) := by
  refine ⟨T + 1, ?_⟩
  refine xm_clear hp.2.1 (fun TM g => ⟨it_cn k (T + 1) + 1, ?_⟩) T 0 (by omega) _ (by omega) _ (fun q hq => absurd hq (Nat.not_lt_zero _))
  exact xm_items hp hB hP (it_cn k (T + 1)) 0 (by omega) _ (by omega) TM _ (fun q hq => g q hq) (fun q hq => absurd hq (Nat.not_lt_zero _))
end
end
section
section
/-! X finds the values -/
theorem ex_iw {k : Nat → Nat} {d t : Nat} {cs : List Bool} (h : ex_r k (d + 1) t true cs = true) : k t = 6 ∨ k t ≤ 1 := by
  by_cases h6 : k t = 6
  · exact Or.inl h6
  · by_cases h1 : k t ≤ 1
    · exact Or.inr h1
    · rw [ex_wn h1 h6] at h; cases h
theorem ex_if {k : Nat → Nat} {d t : Nat} {b : Bool} {r : List Bool} (h : ex_r k (d + 1) t false (b :: r) = true) : (k t = 7 ∧ r ≠ []) ∨ k t = 4 ∨ k t = 5 ∨ (k t = 3 ∧ b = false) := by
  by_cases h7 : k t = 7
  · cases r with
    | nil => rw [ex_f7n h7] at h; cases h
    | cons a r => exact Or.inl ⟨h7, by intro z; cases z⟩
  · by_cases h4 : k t = 4
    · exact Or.inr (Or.inl h4)
    · by_cases h5 : k t = 5
      · exact Or.inr (Or.inr (Or.inl h5))
      · by_cases h3 : k t = 3
        · cases b with
          | true => rw [ex_f3n h3] at h; cases h
          | false => exact Or.inr (Or.inr (Or.inr ⟨h3, rfl⟩))
        · rw [ex_fn h7 h4 h5 h3] at h; cases h
theorem ex_i0 {k : Nat → Nat} {t : Nat} {w : Bool} {cs : List Bool} (h : ex_r k 0 t w cs = true) : w = false ∧ cs.length = 1 := by
  cases w with
  | true => cases h
  | false =>
    have h2 : (true && (cs.length == 1)) = true := h
    rw [Bool.true_and] at h2
    exact ⟨rfl, eq_of_beq h2⟩
def ev_Xo (cm lf sm pr : Nat → Int32) (L : ev_L) (r : List ev_L) (o : Option Int32) : Prop :=
  cm r.length = ed_bI L.1.isSome ∧ (∀ x, L.1 = some x → lf r.length = x) ∧ sm r.length = L.2.1.getD 0 ∧ pr r.length = (match o with | none => L.2.2.getD 1 | some v => ev_p L v) ∧ ev_X cm lf sm pr r
def xv_o (o : Option Nat) (vl : Nat → Int32) : Int32 := match o with | none => 0 | some d => vl d
variable {f_size f_tokenCount f_itemCount f_blockCount f_openCount f_looseCount : Int32} {a_text a_characterToken a_tokenKind a_tokenStart a_tokenEnd a_tokenItem a_tokenMeaning a_itemFirst a_itemEnd a_itemSort a_itemDepth a_itemBlock a_itemUses a_itemKnown a_itemValue a_blockEnd a_openBlocks a_levelCompares a_levelLeft a_levelSum a_levelProduct : Nat → Int32}
theorem xv_num {post : Int32 → Prop} {c en : Nat → Nat} {T n t : Nat} (hn : n ≤ 80) (hT : T ≤ 80) (hE : ed_ag a_tokenEnd en T) (hX : ed_ag a_text c n) (ht : t < T) (hen : en t ≤ n) :
    ∀ d p v, p + d = en t → post (mn_nv c d p v) → ∀ f, d < f → (wX_numberValue_9 post (nI t) f_size f_tokenCount f_itemCount f_blockCount f_openCount f_looseCount a_text a_characterToken a_tokenKind a_tokenStart a_tokenEnd a_tokenItem a_tokenMeaning a_itemFirst a_itemEnd a_itemSort a_itemDepth a_itemBlock a_itemUses a_itemKnown a_itemValue a_blockEnd a_openBlocks a_levelCompares a_levelLeft a_levelSum a_levelProduct f v (nI p)) := by
  have ee : a_tokenEnd (nI t).toNatClampNeg = nI (en t) := ed_rt t (hE t ht)
  intro d
  induction d with
  | zero =>
    intro p v hp h f hf
    obtain ⟨f, rfl⟩ : ∃ g, f = g + 1 := ⟨f - 1, by omega⟩
    exact ⟨pk_in t 80 (by omega), pk_le (en t) p (fun _ => h) (fun z => by omega) ee⟩
  | succ d ih =>
    intro p v hp h f hf
    obtain ⟨f, rfl⟩ : ∃ g, f = g + 1 := ⟨f - 1, by omega⟩
    refine ⟨pk_in t 80 (by omega), pk_le (en t) p (fun z => by omega) (fun _ => ⟨pk_in p 80 (by omega), nm_r (e' := v * 10 + (nI (c p) - 5)) ?_ (nm_r (nI_1 p) (ih (p + 1) _ (by omega) h f (by omega)))⟩) ee⟩
    rw [ed_rt p (hX p (by omega))]
theorem xv_number {post : Int32 → Prop} {c st en : Nat → Nat} {T n t : Nat} (hn : n ≤ 80) (hT : T ≤ 80) (hS : ed_ag a_tokenStart st T) (hE : ed_ag a_tokenEnd en T) (hX : ed_ag a_text c n) (ht : t < T) (hse : st t < en t ∧ en t ≤ n)
    (h : post (mn_nv c (en t - st t) (st t) 0)) : wpX_numberValue post (f_size, f_tokenCount, f_itemCount, f_blockCount, f_openCount, f_looseCount, a_text, a_characterToken, a_tokenKind, a_tokenStart, a_tokenEnd, a_tokenItem, a_tokenMeaning, a_itemFirst, a_itemEnd, a_itemSort, a_itemDepth, a_itemBlock, a_itemUses, a_itemKnown, a_itemValue, a_blockEnd, a_openBlocks, a_levelCompares, a_levelLeft, a_levelSum, a_levelProduct) (nI t) :=
  ⟨pk_in t 80 (by omega), ed_rd t (hS t ht) ⟨en t - st t + 1, xv_num hn hT hE hX ht hse.2 (en t - st t) (st t) 0 (by omega) h _ (by omega)⟩⟩
theorem xv_isItem {post : Int32 → Prop} {N i : Nat} (hN : N ≤ 80) (hi : i < 1000) (h1 : i < N → post 1) (h0 : ¬ i < N → post 0) : wpX_isItem post (f_size, f_tokenCount, nI N, f_blockCount, f_openCount, f_looseCount, a_text, a_characterToken, a_tokenKind, a_tokenStart, a_tokenEnd, a_tokenItem, a_tokenMeaning, a_itemFirst, a_itemEnd, a_itemSort, a_itemDepth, a_itemBlock, a_itemUses, a_itemKnown, a_itemValue, a_blockEnd, a_openBlocks, a_levelCompares, a_levelLeft, a_levelSum, a_levelProduct) (nI i) :=
  br_f (nI_pos (by omega)) (pk_le N i (fun h => h0 (by omega)) (fun h => h1 h))
theorem xv_meant {post : Int32 → Prop} {N t : Nat} {o : Option Nat} {vl : Nat → Int32} (hN : N ≤ 80) (ht : t < 80) (hTM : a_tokenMeaning t = ed_oI o) (ho : ∀ d, o = some d → d < N) (hv : ∀ d, o = some d → a_itemValue d = vl d)
    (h : post (xv_o o vl)) : wpX_meantValue post (f_size, f_tokenCount, nI N, f_blockCount, f_openCount, f_looseCount, a_text, a_characterToken, a_tokenKind, a_tokenStart, a_tokenEnd, a_tokenItem, a_tokenMeaning, a_itemFirst, a_itemEnd, a_itemSort, a_itemDepth, a_itemBlock, a_itemUses, a_itemKnown, a_itemValue, a_blockEnd, a_openBlocks, a_levelCompares, a_levelLeft, a_levelSum, a_levelProduct) (nI t) := by
  refine ⟨pk_in t 80 ht, ed_rd t hTM ?_⟩
  cases o with
  | none => exact br_t (by decide) (br_t rfl h)
  | some d =>
    have hd := ho d rfl
    refine xv_isItem hN (by omega) (fun _ => br_f (by decide) ⟨pk_in d 80 (by omega), ?_⟩) (fun z => absurd hd z)
    rw [ed_rt (x := ed_oI (some d)) d (hv d rfl)]
    exact h
theorem xv_level {post : Int32 → Prop} {L : ev_L} {r : List ev_L} {v : Int32} (hr : r.length < 81) (hA : ev_Xo a_levelCompares a_levelLeft a_levelSum a_levelProduct L r (some v)) (h : post (ev_v L v)) : wpX_levelValue post (f_size, f_tokenCount, f_itemCount, f_blockCount, f_openCount, f_looseCount, a_text, a_characterToken, a_tokenKind, a_tokenStart, a_tokenEnd, a_tokenItem, a_tokenMeaning, a_itemFirst, a_itemEnd, a_itemSort, a_itemDepth, a_itemBlock, a_itemUses, a_itemKnown, a_itemValue, a_blockEnd, a_openBlocks, a_levelCompares, a_levelLeft, a_levelSum, a_levelProduct) (nI r.length) := by
  obtain ⟨a1, a2, a3, a4, a5⟩ := hA
  have e1 : a_levelSum (nI r.length).toNatClampNeg + a_levelProduct (nI r.length).toNatClampNeg = ev_s L v := by
    rw [ed_rt r.length a3, ed_rt r.length a4]; exact ev_s_x L v
  refine ⟨pk_in r.length 81 hr, pk_in r.length 81 hr, nm_r e1 ⟨pk_in r.length 81 hr, ?_⟩⟩
  have e2 : a_levelCompares (nI r.length).toNatClampNeg = ed_bI L.1.isSome := ed_rt r.length a1
  unfold ev_v at h
  cases hL : L.1 with
  | none =>
    rw [hL] at e2 h
    exact br_t e2 h
  | some x =>
    rw [hL] at e2 h
    dsimp only at h
    have e3 : a_levelLeft (nI r.length).toNatClampNeg = x := ed_rt r.length (a2 x hL)
    refine br_f (by rw [e2]; exact (by decide : ¬ (1 : Int32) = 0)) ⟨pk_in r.length 81 hr, ?_⟩
    rw [e3]
    by_cases z : x = ev_s L v
    · rw [if_pos z] at h; exact br_t z h
    · rw [if_neg z] at h; exact br_f z h
theorem xv_loop {post : Int32 → SX → Prop} {c st en k : Nat → Nat} {T n i : Nat} {f : Nat → Option Nat} {tb : Nat → Bool × Int32} (hp : xp_P c st en k T n a_text a_tokenKind a_tokenStart a_tokenEnd a_itemFirst a_itemEnd a_itemSort) (hi : i < it_cn k (T + 1))
    (hTM : ∀ t, mn_es k T i ≤ t → t < it_ie k (T + 1) i → k t = 0 → a_tokenMeaning t = ed_oI (f t)) (hf : ∀ t d, f t = some d → d < i) (hV : ∀ d, d < i → a_itemValue d = (tb d).2) :
    ∀ d t, t + d = it_ie k (T + 1) i → mn_es k T i ≤ t → ∀ fu, d < fu → ∀ (L : ev_L) (r : List ev_L) (o : Option Int32) (a_levelCompares a_levelLeft a_levelSum a_levelProduct : Nat → Int32), r.length ≤ t → ex_r k d t o.isNone (ev_cs (L :: r)) = true → ev_Xo a_levelCompares a_levelLeft a_levelSum a_levelProduct L r o →
      (∀ a_levelCompares a_levelLeft a_levelSum a_levelProduct : Nat → Int32, post (ev_r k (mn_tv k (fun t => mn_nv c (en t - st t) (st t) 0) f tb) d t (L :: r) o) (f_size, f_tokenCount, nI (it_cn k (T + 1)), f_blockCount, f_openCount, f_looseCount, a_text, a_characterToken, a_tokenKind, a_tokenStart, a_tokenEnd, a_tokenItem, a_tokenMeaning, a_itemFirst, a_itemEnd, a_itemSort, a_itemDepth, a_itemBlock, a_itemUses, a_itemKnown, a_itemValue, a_blockEnd, a_openBlocks, a_levelCompares, a_levelLeft, a_levelSum, a_levelProduct)) →
      (wX_expressionValue_13 post (nI i) fu (nI r.length) (nI t) f_size f_tokenCount (nI (it_cn k (T + 1))) f_blockCount f_openCount f_looseCount a_text a_characterToken a_tokenKind a_tokenStart a_tokenEnd a_tokenItem a_tokenMeaning a_itemFirst a_itemEnd a_itemSort a_itemDepth a_itemBlock a_itemUses a_itemKnown a_itemValue a_blockEnd a_openBlocks a_levelCompares a_levelLeft a_levelSum a_levelProduct) := by
  obtain ⟨h1, h2, h3, h4, h5, h6, h7, h8, h9, h10, h11, h12, h13⟩ := hp
  have hN := it_N h6
  have hE := it_E hi
  have eie : a_itemEnd (nI i).toNatClampNeg = nI (it_ie k (T + 1) i) := ed_rt i (h12 i hi)
  intro d
  induction d with
  | zero =>
    intro t ht hge fu hfu L r o CM LF SM PR hr hex hA hP
    obtain ⟨fu, rfl⟩ : ∃ g, fu = g + 1 := ⟨fu - 1, by omega⟩
    obtain ⟨q1, q2⟩ := ex_i0 hex
    cases o with
    | none => cases q1
    | some v =>
      cases r with
      | cons M r => unfold ev_cs at q2; rw [List.length_map] at q2; cases q2
      | nil =>
        refine ⟨pk_in i 80 (by omega), pk_le (it_ie k (T + 1) i) t (fun _ => ?_) (fun z => by omega) eie⟩
        exact xv_level (r := []) (by decide) hA (hP CM LF SM PR)
  | succ d ih =>
    intro t ht hge fu hfu L r o CM LF SM PR hr hex hA hP
    obtain ⟨fu, rfl⟩ : ∃ g, fu = g + 1 := ⟨fu - 1, by omega⟩
    have ih := ih (t + 1) (by omega) (by omega) fu (by omega)
    have hkt := h5 t (by omega)
    have hr81 : r.length < 81 := by omega
    obtain ⟨a1, a2, a3, a4, a5⟩ := hA
    refine ⟨pk_in i 80 (by omega), pk_le (it_ie k (T + 1) i) t (fun z => by omega) (fun _ => ⟨pk_in t 80 (by omega), ed_rd t (h8 t (by omega)) ?_⟩) eie⟩
    refine br_f (nI_pos (by omega)) ?_
    cases o with
    | none =>
      have hw : ex_r k (d + 1) t true (ev_cs (L :: r)) = true := hex
      have hk := ex_iw hw
      refine pk_lt 7 (k t) (fun z => by omega) (fun _ => ?_)
      have hfac : ∀ x : Int32, k t ≤ 1 → x = mn_tv k (fun t => mn_nv c (en t - st t) (st t) 0) f tb t → (wX_expressionValue_13 post (nI i) fu (nI r.length) (nI (t + 1)) f_size f_tokenCount (nI (it_cn k (T + 1))) f_blockCount f_openCount f_looseCount a_text a_characterToken a_tokenKind a_tokenStart a_tokenEnd a_tokenItem a_tokenMeaning a_itemFirst a_itemEnd a_itemSort a_itemDepth a_itemBlock a_itemUses a_itemKnown a_itemValue a_blockEnd a_openBlocks CM LF SM (upd PR r.length (PR (nI r.length).toNatClampNeg * x))) := by
        intro x hk1 hx
        rw [ex_w1 hk1] at hw
        refine ih L r (some x) CM LF SM _ (by omega) hw ⟨a1, a2, a3, ?_, ?_⟩ ?_
        · rw [pk_us, ed_rt r.length a4]; exact ev_p_x L _
        · exact ev_X_u (Nat.le_refl _) (fun q hq => ⟨rfl, rfl, rfl, pk_un (by omega)⟩) a5
        · intro CM LF SM PR
          have := hP CM LF SM PR
          unfold ev_r at this
          rw [if_neg (by omega), ← hx] at this
          exact this
      refine pk_eq (k t) 0 (fun h0 => ⟨pk_in r.length 81 hr81, ?_⟩) (fun h0 => pk_eq (k t) 1 (fun h1' => ⟨pk_in r.length 81 hr81, ?_⟩) (fun h1' => ?_))
      · refine xv_meant (o := f t) (vl := fun d => (tb d).2) (by omega) (by omega) (hTM t hge (by omega) h0) (fun x hx => by have := hf t x hx; omega) (fun x hx => hV x (hf t x hx)) ?_
        refine ⟨pk_in r.length 81 hr81, ed_nu r.length (nm_r (nI_1 t) (hfac _ (by omega) ?_))⟩
        unfold mn_tv; rw [if_neg (by omega)]; rfl
      · refine xv_number h1 h2 h9 h10 h7 (by omega) (h3 t (by omega)) ?_
        refine ⟨pk_in r.length 81 hr81, ed_nu r.length (nm_r (nI_1 t) (hfac _ (by omega) ?_))⟩
        unfold mn_tv; rw [if_pos h1']
      · have h6' : k t = 6 := by omega
        rw [ex_w6 h6'] at hw
        refine pk_eq (k t) 2 (fun z => by omega) (fun _ => pk_eq (k t) 3 (fun z => by omega) (fun _ => pk_eq (k t) 4 (fun z => by omega) (fun _ => pk_eq (k t) 5 (fun z => by omega) (fun _ => pk_eq (k t) 6 (fun _ => ?_) (fun z => absurd h6' z)))))
        refine nm_r (nI_1 _) ⟨pk_in (r.length + 1) 81 (by omega), ed_nuv (r.length + 1) 0 ed_nb0 ⟨pk_in (r.length + 1) 81 (by omega), ed_nu (r.length + 1) ⟨pk_in (r.length + 1) 81 (by omega), ed_nu (r.length + 1) (nm_r (nI_1 t) ?_)⟩⟩⟩
        refine ih (none, none, none) (L :: r) none _ _ _ _ (by rw [List.length_cons]; omega) hw ⟨pk_us, (fun x hx => by cases hx), pk_us, pk_us, ?_⟩ ?_
        · exact ev_X_u (l := L :: r) (j := r.length + 1) (Nat.le_refl _) (fun q hq => ⟨pk_un (by omega), rfl, pk_un (by omega), pk_un (by omega)⟩) ⟨a1, a2, a3, a4, a5⟩
        · intro CM LF SM PR
          have := hP CM LF SM PR
          unfold ev_r at this
          rw [if_pos h6'] at this
          exact this
    | some v =>
      have hw : ex_r k (d + 1) t false (L.1.isSome :: ev_cs r) = true := hex
      have hk := ex_if hw
      refine pk_lt 7 (k t) (fun z => by omega) (fun _ => pk_eq (k t) 0 (fun z => by omega) (fun _ => pk_eq (k t) 1 (fun z => by omega) (fun _ => pk_eq (k t) 2 (fun z => by omega) (fun _ => ?_))))
      have es : SM (nI r.length).toNatClampNeg + PR (nI r.length).toNatClampNeg = ev_s L v := by
        rw [ed_rt r.length a3, ed_rt r.length a4]; exact ev_s_x L v
      refine pk_eq (k t) 3 (fun h3' => ?_) (fun h3' => pk_eq (k t) 4 (fun h4' => ?_) (fun h4' => pk_eq (k t) 5 (fun h5' => ?_) (fun h5' => pk_eq (k t) 6 (fun z => by omega) (fun _ => pk_eq (k t) 7 (fun h7' => ?_) (fun z => by omega)))))
      · have hLn : L.1.isSome = false := by
          rcases hk with z | z | z | z
          · omega
          · omega
          · omega
          · exact z.2
        rw [hLn, ex_f3 h3'] at hw
        refine ⟨pk_in r.length 81 hr81, pk_in r.length 81 hr81, pk_in r.length 81 hr81, ed_nuv r.length (ev_s L v) es ⟨pk_in r.length 81 hr81, ed_nuv r.length 1 ed_nb1 ⟨pk_in r.length 81 hr81, ed_nu r.length ⟨pk_in r.length 81 hr81, ed_nu r.length (nm_r (nI_1 t) ?_)⟩⟩⟩⟩
        refine ih (some (ev_s L v), none, none) r none _ _ _ _ (by omega) hw ⟨pk_us, (fun x hx => by cases hx; exact pk_us), pk_us, pk_us, ?_⟩ ?_
        · exact ev_X_u (Nat.le_refl _) (fun q hq => ⟨pk_un (by omega), pk_un (by omega), pk_un (by omega), pk_un (by omega)⟩) a5
        · intro CM LF SM PR
          have := hP CM LF SM PR
          unfold ev_r at this
          rw [if_neg (by omega), if_neg (by omega), if_neg (by omega)] at this
          exact this
      · rw [ex_f4 (by omega)] at hw
        refine ⟨pk_in r.length 81 hr81, pk_in r.length 81 hr81, pk_in r.length 81 hr81, ed_nuv r.length (ev_s L v) es ⟨pk_in r.length 81 hr81, ed_nu r.length (nm_r (nI_1 t) ?_)⟩⟩
        refine ih (L.1, some (ev_s L v), none) r none _ _ _ _ (by omega) hw ⟨a1, a2, pk_us, pk_us, ?_⟩ ?_
        · exact ev_X_u (Nat.le_refl _) (fun q hq => ⟨rfl, rfl, pk_un (by omega), pk_un (by omega)⟩) a5
        · intro CM LF SM PR
          have := hP CM LF SM PR
          unfold ev_r at this
          rw [if_neg (by omega), if_neg (by omega), if_pos h4'] at this
          exact this
      · rw [ex_f4 (by omega)] at hw
        refine nm_r (nI_1 t) (ih (L.1, L.2.1, some (ev_p L v)) r none CM LF SM PR (by omega) hw ⟨a1, a2, a3, a4, a5⟩ ?_)
        intro CM LF SM PR
        have := hP CM LF SM PR
        unfold ev_r at this
        rw [if_neg (by omega), if_pos h5'] at this
        exact this
      · cases r with
        | nil =>
          rcases hk with z | z | z | z
          · exact absurd rfl z.2
          · omega
          · omega
          · omega
        | cons M r =>
          have hw2 : ex_r k (d + 1) t false (L.1.isSome :: M.1.isSome :: ev_cs r) = true := hw
          rw [ex_f7 h7'] at hw2
          have hrl : r.length + 1 ≤ t := hr
          refine br_f (nI_nle (Nat.succ_pos _) (by omega)) (nm_r (pk_m1 r.length) ⟨pk_in r.length 81 (by omega), ?_⟩)
          rw [nI_1 r.length]
          refine xv_level (L := L) (r := M :: r) (v := v) (by rw [List.length_cons]; omega) ⟨a1, a2, a3, a4, a5⟩ ?_
          obtain ⟨m1, m2, m3, m4, m5⟩ := a5
          refine ⟨pk_in r.length 81 (by omega), ed_nu r.length (nm_r (nI_1 t) ?_)⟩
          refine ih M r (some (ev_v L v)) CM LF SM _ (by omega) hw2 ⟨m1, m2, m3, ?_, ?_⟩ ?_
          · rw [pk_us, ed_rt r.length m4]; exact ev_p_x M _
          · exact ev_X_u (Nat.le_refl _) (fun q hq => ⟨rfl, rfl, rfl, pk_un (by omega)⟩) m5
          · intro CM LF SM PR
            have := hP CM LF SM PR
            unfold ev_r at this
            rw [if_pos h7'] at this
            exact this
end
end
section
section
/-! X's whole reading of the text -/
variable {f_size f_tokenCount f_itemCount f_blockCount f_openCount f_looseCount : Int32} {a_text a_characterToken a_tokenKind a_tokenStart a_tokenEnd a_tokenItem a_tokenMeaning a_itemFirst a_itemEnd a_itemSort a_itemDepth a_itemBlock a_itemUses a_itemKnown a_itemValue a_blockEnd a_openBlocks a_levelCompares a_levelLeft a_levelSum a_levelProduct : Nat → Int32}
theorem xv_names {post : Int32 → Prop} {c st en k : Nat → Nat} {T n i : Nat} {f : Nat → Option Nat} {tb : Nat → Bool × Int32} (hp : xp_P c st en k T n a_text a_tokenKind a_tokenStart a_tokenEnd a_itemFirst a_itemEnd a_itemSort) (hi : i < it_cn k (T + 1))
    (hTM : ∀ t, mn_es k T i ≤ t → t < it_ie k (T + 1) i → k t = 0 → a_tokenMeaning t = ed_oI (f t)) (hf : ∀ t d, f t = some d → d < i) (hK : ∀ d, d < i → a_itemKnown d = ed_bI (tb d).1) :
    ∀ d t, t + d = it_ie k (T + 1) i → mn_es k T i ≤ t → ∀ fu, d < fu → post (ed_bI (mn_ak k f tb d t)) → (wX_namesAreKnown_6 post (nI i) f_size f_tokenCount f_itemCount f_blockCount f_openCount f_looseCount a_text a_characterToken a_tokenKind a_tokenStart a_tokenEnd a_tokenItem a_tokenMeaning a_itemFirst a_itemEnd a_itemSort a_itemDepth a_itemBlock a_itemUses a_itemKnown a_itemValue a_blockEnd a_openBlocks a_levelCompares a_levelLeft a_levelSum a_levelProduct fu (nI t)) := by
  obtain ⟨h1, h2, h3, h4, h5, h6, h7, h8, h9, h10, h11, h12, h13⟩ := hp
  have hN := it_N h6
  have hE := it_E hi
  have eie : a_itemEnd (nI i).toNatClampNeg = nI (it_ie k (T + 1) i) := ed_rt i (h12 i hi)
  intro d
  induction d with
  | zero =>
    intro t ht hge fu hfu hP
    obtain ⟨fu, rfl⟩ : ∃ g, fu = g + 1 := ⟨fu - 1, by omega⟩
    exact ⟨pk_in i 80 (by omega), pk_le (it_ie k (T + 1) i) t (fun _ => hP) (fun z => by omega) eie⟩
  | succ d ih =>
    intro t ht hge fu hfu hP
    obtain ⟨fu, rfl⟩ : ∃ g, fu = g + 1 := ⟨fu - 1, by omega⟩
    have ih := ih (t + 1) (by omega) (by omega) fu (by omega)
    have hkt := h5 t (by omega)
    have hak : mn_ak k f tb (d + 1) t = (mn_k1 k f tb t && mn_ak k f tb d (t + 1)) := rfl
    rw [hak] at hP
    refine ⟨pk_in i 80 (by omega), pk_le (it_ie k (T + 1) i) t (fun z => by omega) (fun _ => ⟨pk_in t 80 (by omega), pk_eq (k t) 0 (fun h0 => ?_) (fun h0 => ?_) (ed_rt t (h8 t (by omega)))⟩) eie⟩
    · refine ⟨pk_in t 80 (by omega), ed_rd t (hTM t hge (by omega) h0) ?_⟩
      have hk1 : mn_k1 k f tb t = (match f t with | none => false | some d => (tb d).1) := by unfold mn_k1; rw [if_pos h0]; rfl
      cases hft : f t with
      | none =>
        rw [hft] at hk1
        rw [hk1] at hP
        exact br_t rfl hP
      | some x =>
        have hx := hf t x hft
        rw [hft] at hk1
        rw [hk1] at hP
        dsimp only at hP
        have ekn : a_itemKnown (nI x).toNatClampNeg = ed_bI (tb x).1 := ed_rt x (hK x hx)
        refine br_f (ed_m3 (show x < 2 ^ 31 by omega)) ⟨pk_in x 80 (by omega), ?_⟩
        cases hb : (tb x).1 with
        | false =>
          rw [hb] at hP ekn
          exact br_t ekn hP
        | true =>
          rw [hb, Bool.true_and] at hP
          rw [hb] at ekn
          exact br_f (by show ¬ a_itemKnown (nI x).toNatClampNeg = 0; rw [ekn]; decide) (nm_r (nI_1 t) (ih hP))
    · have hk1 : mn_k1 k f tb t = true := by unfold mn_k1; rw [if_neg h0]
      rw [hk1, Bool.true_and] at hP
      exact nm_r (nI_1 t) (ih hP)
theorem xv_known {post : Int32 → Prop} {c st en k : Nat → Nat} {T n i : Nat} {f : Nat → Option Nat} {tb : Nat → Bool × Int32} (hp : xp_P c st en k T n a_text a_tokenKind a_tokenStart a_tokenEnd a_itemFirst a_itemEnd a_itemSort) (hi : i < it_cn k (T + 1)) (hso : mn_so k T i ≠ 0)
    (hTM : ∀ t, mn_es k T i ≤ t → t < it_ie k (T + 1) i → k t = 0 → a_tokenMeaning t = ed_oI (f t)) (hf : ∀ t d, f t = some d → d < i) (hK : ∀ d, d < i → a_itemKnown d = ed_bI (tb d).1)
    (hP : post (ed_bI (mn_ak k f tb (it_ie k (T + 1) i - mn_es k T i) (mn_es k T i)))) : wpX_namesAreKnown post (f_size, f_tokenCount, f_itemCount, f_blockCount, f_openCount, f_looseCount, a_text, a_characterToken, a_tokenKind, a_tokenStart, a_tokenEnd, a_tokenItem, a_tokenMeaning, a_itemFirst, a_itemEnd, a_itemSort, a_itemDepth, a_itemBlock, a_itemUses, a_itemKnown, a_itemValue, a_blockEnd, a_openBlocks, a_levelCompares, a_levelLeft, a_levelSum, a_levelProduct) (nI i) := by
  have hp2 := hp
  obtain ⟨h1, h2, h3, h4, h5, h6, h7, h8, h9, h10, h11, h12, h13⟩ := hp
  have hN := it_N h6
  have hle : mn_es k T i ≤ it_ie k (T + 1) i := (ex_so_ex (it_E hi).1 hso).2
  unfold wpX_namesAreKnown
  refine xm_start (by omega) (h13 i hi) (ex_so_le _ _ _) (h11 i hi) ⟨it_ie k (T + 1) i - mn_es k T i + 1, ?_⟩
  exact xv_names hp2 hi hTM hf hK (it_ie k (T + 1) i - mn_es k T i) (mn_es k T i) (by omega) (Nat.le_refl _) _ (by omega) hP
theorem xv_value {post : Int32 → SX → Prop} {c st en k : Nat → Nat} {T n i : Nat} {f : Nat → Option Nat} {tb : Nat → Bool × Int32} (hp : xp_P c st en k T n a_text a_tokenKind a_tokenStart a_tokenEnd a_itemFirst a_itemEnd a_itemSort) (hi : i < it_cn k (T + 1)) (hso : mn_so k T i ≠ 0)
    (hTM : ∀ t, mn_es k T i ≤ t → t < it_ie k (T + 1) i → k t = 0 → a_tokenMeaning t = ed_oI (f t)) (hf : ∀ t d, f t = some d → d < i) (hV : ∀ d, d < i → a_itemValue d = (tb d).2)
    (hP : ∀ a_levelCompares a_levelLeft a_levelSum a_levelProduct : Nat → Int32, post (ev_r k (mn_tv k (fun t => mn_nv c (en t - st t) (st t) 0) f tb) (it_ie k (T + 1) i - mn_es k T i) (mn_es k T i) [(none, none, none)] none) (f_size, f_tokenCount, nI (it_cn k (T + 1)), f_blockCount, f_openCount, f_looseCount, a_text, a_characterToken, a_tokenKind, a_tokenStart, a_tokenEnd, a_tokenItem, a_tokenMeaning, a_itemFirst, a_itemEnd, a_itemSort, a_itemDepth, a_itemBlock, a_itemUses, a_itemKnown, a_itemValue, a_blockEnd, a_openBlocks, a_levelCompares, a_levelLeft, a_levelSum, a_levelProduct)) :
    wpX_expressionValue post (f_size, f_tokenCount, nI (it_cn k (T + 1)), f_blockCount, f_openCount, f_looseCount, a_text, a_characterToken, a_tokenKind, a_tokenStart, a_tokenEnd, a_tokenItem, a_tokenMeaning, a_itemFirst, a_itemEnd, a_itemSort, a_itemDepth, a_itemBlock, a_itemUses, a_itemKnown, a_itemValue, a_blockEnd, a_openBlocks, a_levelCompares, a_levelLeft, a_levelSum, a_levelProduct) (nI i) := by
  have hp2 := hp
  obtain ⟨h1, h2, h3, h4, h5, h6, h7, h8, h9, h10, h11, h12, h13⟩ := hp
  have hN := it_N h6
  obtain ⟨hex, hle⟩ := ex_so_ex (it_E hi).1 hso
  have hle : mn_es k T i ≤ it_ie k (T + 1) i := hle
  unfold wpX_expressionValue
  refine ⟨pk_in 0 81 (by omega), ed_nuv 0 0 ed_nb0 ⟨pk_in 0 81 (by omega), ed_nu 0 ⟨pk_in 0 81 (by omega), ed_nu 0 ?_⟩⟩⟩
  refine xm_start (by omega) (h13 i hi) (ex_so_le _ _ _) (h11 i hi) ⟨it_ie k (T + 1) i - mn_es k T i + 1, ?_⟩
  exact xv_loop hp2 hi hTM hf hV (it_ie k (T + 1) i - mn_es k T i) (mn_es k T i) (by omega) (Nat.le_refl _) _ (by omega) (none, none, none) [] none _ _ _ _ (Nat.zero_le _) hex ⟨pk_us, (fun x hx => by cases hx), pk_us, pk_us, trivial⟩ hP
theorem xv_items {post : SX → Prop} {c st en k : Nat → Nat} {T n : Nat} (hp : xp_P c st en k T n a_text a_tokenKind a_tokenStart a_tokenEnd a_itemFirst a_itemEnd a_itemSort) (hM : ed_ao a_tokenMeaning (mn_mt k T (mn_nm c st en) (it_cn k (T + 1))) T)
    (hP : ∀ a_itemKnown a_itemValue a_levelCompares a_levelLeft a_levelSum a_levelProduct : Nat → Int32, ed_ab a_itemKnown (fun j => (mn_kv k T (mn_nm c st en) (fun t => mn_nv c (en t - st t) (st t) 0) (it_cn k (T + 1)) j).1) (it_cn k (T + 1)) → ed_av a_itemValue (fun j => (mn_kv k T (mn_nm c st en) (fun t => mn_nv c (en t - st t) (st t) 0) (it_cn k (T + 1)) j).2) (it_cn k (T + 1)) → post (f_size, f_tokenCount, nI (it_cn k (T + 1)), f_blockCount, f_openCount, f_looseCount, a_text, a_characterToken, a_tokenKind, a_tokenStart, a_tokenEnd, a_tokenItem, a_tokenMeaning, a_itemFirst, a_itemEnd, a_itemSort, a_itemDepth, a_itemBlock, a_itemUses, a_itemKnown, a_itemValue, a_blockEnd, a_openBlocks, a_levelCompares, a_levelLeft, a_levelSum, a_levelProduct)) :
    ∀ d i, i + d = it_cn k (T + 1) → ∀ fu, d < fu → ∀ a_itemKnown a_itemValue a_levelCompares a_levelLeft a_levelSum a_levelProduct : Nat → Int32, ed_ab a_itemKnown (fun j => (mn_kv k T (mn_nm c st en) (fun t => mn_nv c (en t - st t) (st t) 0) i j).1) i → ed_av a_itemValue (fun j => (mn_kv k T (mn_nm c st en) (fun t => mn_nv c (en t - st t) (st t) 0) i j).2) i →
      (wX_findValues_2 post fu (nI i) f_size f_tokenCount (nI (it_cn k (T + 1))) f_blockCount f_openCount f_looseCount a_text a_characterToken a_tokenKind a_tokenStart a_tokenEnd a_tokenItem a_tokenMeaning a_itemFirst a_itemEnd a_itemSort a_itemDepth a_itemBlock a_itemUses a_itemKnown a_itemValue a_blockEnd a_openBlocks a_levelCompares a_levelLeft a_levelSum a_levelProduct) := by
  have hN := it_N hp.2.2.2.2.2.1
  have hT := hp.2.1
  intro d
  induction d with
  | zero =>
    intro i hi fu hfu KN VA CM LF SM PR g1 g2
    obtain ⟨fu, rfl⟩ : ∃ g, fu = g + 1 := ⟨fu - 1, by omega⟩
    have e : i = it_cn k (T + 1) := by omega
    rw [e] at g1 g2
    rw [e]
    exact br_t (nI_le (Nat.le_refl _) (by omega)) (hP KN VA CM LF SM PR g1 g2)
  | succ d ih =>
    intro i hi fu hfu KN VA CM LF SM PR g1 g2
    obtain ⟨fu, rfl⟩ : ∃ g, fu = g + 1 := ⟨fu - 1, by omega⟩
    have ih := ih (i + 1) (by omega) fu (by omega)
    have hs2 : mn_so k T i ≤ 2 := ex_so_le _ _ _
    have hiN : i < it_cn k (T + 1) := by omega
    have hkv : mn_kv k T (mn_nm c st en) (fun t => mn_nv c (en t - st t) (st t) 0) (i + 1) = ed_fu (mn_kv k T (mn_nm c st en) (fun t => mn_nv c (en t - st t) (st t) 0) i) i (mn_iv k T (mn_nm c st en) (fun t => mn_nv c (en t - st t) (st t) 0) (mn_kv k T (mn_nm c st en) (fun t => mn_nv c (en t - st t) (st t) 0) i) i) := rfl
    have hn1 : ∀ b : Bool, (mn_iv k T (mn_nm c st en) (fun t => mn_nv c (en t - st t) (st t) 0) (mn_kv k T (mn_nm c st en) (fun t => mn_nv c (en t - st t) (st t) 0) i) i).1 = b → ed_ab (upd KN i (ed_bI b)) (fun j => (mn_kv k T (mn_nm c st en) (fun t => mn_nv c (en t - st t) (st t) 0) (i + 1) j).1) (i + 1) := by
      intro b hb j hj
      dsimp only
      rw [hkv]
      by_cases z : j = i
      · subst z; rw [pk_us, ed_fs, hb]
      · rw [pk_un z, ed_fn z]; exact g1 j (by omega)
    have hn2 : ∀ x : Int32, (mn_iv k T (mn_nm c st en) (fun t => mn_nv c (en t - st t) (st t) 0) (mn_kv k T (mn_nm c st en) (fun t => mn_nv c (en t - st t) (st t) 0) i) i).2 = x → ed_av (upd VA i x) (fun j => (mn_kv k T (mn_nm c st en) (fun t => mn_nv c (en t - st t) (st t) 0) (i + 1) j).2) (i + 1) := by
      intro b hb j hj
      dsimp only
      rw [hkv]
      by_cases z : j = i
      · subst z; rw [pk_us, ed_fs, hb]
      · rw [pk_un z, ed_fn z]; exact g2 j (by omega)
    have h36 : mn_iv k T (mn_nm c st en) (fun t => mn_nv c (en t - st t) (st t) 0) (mn_kv k T (mn_nm c st en) (fun t => mn_nv c (en t - st t) (st t) 0) i) i = (false, 0) → (wX_findValues_36 post (wX_findValues_2 post fu) (nI i) (nI i) f_size f_tokenCount (nI (it_cn k (T + 1))) f_blockCount f_openCount f_looseCount a_text a_characterToken a_tokenKind a_tokenStart a_tokenEnd a_tokenItem a_tokenMeaning a_itemFirst a_itemEnd a_itemSort a_itemDepth a_itemBlock a_itemUses KN VA a_blockEnd a_openBlocks CM LF SM PR) := by
      intro hiv
      refine ⟨pk_in i 80 (by omega), ed_nuv i (ed_bI false) ed_nb0 ⟨pk_in i 80 (by omega), br_t (ed_rt i pk_us) ⟨pk_in i 80 (by omega), ed_nu i (nm_r (nI_1 i) ?_)⟩⟩⟩
      exact ih _ _ CM LF SM PR (hn1 false (by rw [hiv])) (hn2 0 (by rw [hiv]))
    have hTM : mn_so k T i ≠ 0 → ∀ t, mn_es k T i ≤ t → t < it_ie k (T + 1) i → k t = 0 → a_tokenMeaning t = ed_oI (mn_sr k T (mn_nm c st en) i t i) := by
      intro hso t q1 q2 q3
      have := (it_E hiN).2
      rw [hM t (by omega), mn_mt_in hso q1 q2 q3 hiN (Nat.le_refl _)]
    refine br_f (nI_ge (by omega) (by omega)) ⟨pk_in i 80 (by omega), pk_eq (mn_so k T i) 0 (fun h0 => ?_) (fun h0 => ?_) (ed_rt i (hp.2.2.2.2.2.2.2.2.2.2.2.2 i hiN))⟩
    · refine h36 ?_
      unfold mn_iv; rw [if_neg (fun z => z.1 h0)]
    · refine xv_known (f := fun t => mn_sr k T (mn_nm c st en) i t i) (tb := mn_kv k T (mn_nm c st en) (fun t => mn_nv c (en t - st t) (st t) 0) i) hp hiN h0 (hTM h0) (fun t d hd => mn_sr_lt hd) g1 ?_
      cases hak : mn_ak k (fun t => mn_sr k T (mn_nm c st en) i t i) (mn_kv k T (mn_nm c st en) (fun t => mn_nv c (en t - st t) (st t) 0) i) (it_ie k (T + 1) i - mn_es k T i) (mn_es k T i) with
      | false =>
        refine br_t rfl (h36 ?_)
        unfold mn_iv; rw [if_neg (fun z => by rw [hak] at z; exact absurd z.2 (by decide))]
      | true =>
        have hiv : mn_iv k T (mn_nm c st en) (fun t => mn_nv c (en t - st t) (st t) 0) (mn_kv k T (mn_nm c st en) (fun t => mn_nv c (en t - st t) (st t) 0) i) i = (true, ev_r k (mn_tv k (fun t => mn_nv c (en t - st t) (st t) 0) (fun t => mn_sr k T (mn_nm c st en) i t i) (mn_kv k T (mn_nm c st en) (fun t => mn_nv c (en t - st t) (st t) 0) i)) (it_ie k (T + 1) i - mn_es k T i) (mn_es k T i) [(none, none, none)] none) := by
          unfold mn_iv; rw [if_pos ⟨h0, hak⟩]
        refine br_f (by decide) ⟨pk_in i 80 (by omega), ed_nuv i (ed_bI true) ed_nb1 ⟨pk_in i 80 (by omega), br_f (by rw [ed_rt (w := ed_bI true) i pk_us]; decide) ?_⟩⟩
        refine xv_value (f := fun t => mn_sr k T (mn_nm c st en) i t i) (tb := mn_kv k T (mn_nm c st en) (fun t => mn_nv c (en t - st t) (st t) 0) i) hp hiN h0 (hTM h0) (fun t d hd => mn_sr_lt hd) g2 (fun CM LF SM PR => ?_)
        refine ⟨pk_in i 80 (by omega), ed_nu i (nm_r (nI_1 i) (ih _ _ CM LF SM PR (hn1 true (by rw [hiv])) (hn2 _ (by rw [hiv]))))⟩
def pq_T (c : Nat → Nat) (n : Nat) : Nat := (tk_r c n).1
def pq_K (c : Nat → Nat) (n : Nat) : Nat → Nat := fun t => if t < pq_T c n then (tk_r c n).2.1 t else 11
def pq_S (c : Nat → Nat) (n : Nat) : Nat → Nat := (tk_r c n).2.2.1
def pq_E (c : Nat → Nat) (n : Nat) : Nat → Nat := (tk_r c n).2.2.2.1
def pq_A (c : Nat → Nat) (n : Nat) : Nat → Option Nat := (tk_r c n).2.2.2.2
def pq_N (c : Nat → Nat) (n : Nat) : Nat := it_cn (pq_K c n) (pq_T c n + 1)
def pq_M (c : Nat → Nat) (n : Nat) : Nat → Option Nat := mn_mt (pq_K c n) (pq_T c n) (mn_nm c (pq_S c n) (pq_E c n)) (pq_N c n)
def pq_V (c : Nat → Nat) (n : Nat) : Nat → Bool × Int32 := mn_kv (pq_K c n) (pq_T c n) (mn_nm c (pq_S c n) (pq_E c n)) (fun t => mn_nv c (pq_E c n t - pq_S c n t) (pq_S c n t) 0) (pq_N c n)
def pq_L (c : Nat → Nat) (n : Nat) : Nat := it_lo (pq_K c n) (pq_T c n + 1) + (it_bs (pq_K c n) (pq_T c n + 1)).length
def xd_D (c : Nat → Nat) (n : Nat) (f_tokenCount f_itemCount f_looseCount : Int32) (a_characterToken a_tokenKind a_tokenStart a_tokenItem a_tokenMeaning a_itemFirst a_itemSort a_itemDepth a_itemUses a_itemKnown a_itemValue : Nat → Int32) : Prop :=
  f_tokenCount = nI (pq_T c n) ∧ f_itemCount = nI (pq_N c n) ∧ f_looseCount = nI (pq_L c n)
  ∧ ed_ao a_characterToken (pq_A c n) n ∧ ed_ag a_tokenKind (pq_K c n) (pq_T c n) ∧ ed_ag a_tokenStart (pq_S c n) (pq_T c n) ∧ ed_ao a_tokenItem (it_ow (pq_K c n)) (pq_T c n) ∧ ed_ao a_tokenMeaning (pq_M c n) (pq_T c n)
  ∧ ed_ag a_itemFirst (it_fi (pq_K c n) (pq_T c n + 1)) (pq_N c n) ∧ ed_ag a_itemSort (mn_so (pq_K c n) (pq_T c n)) (pq_N c n) ∧ ed_ag a_itemDepth (fun i => (it_ik (pq_K c n) (pq_T c n + 1) i).length) (pq_N c n)
  ∧ ed_ag a_itemUses (fun d => mn_ct (pq_M c n) d (pq_T c n)) (pq_N c n) ∧ ed_ab a_itemKnown (fun i => (pq_V c n i).1) (pq_N c n) ∧ ed_av a_itemValue (fun i => (pq_V c n i).2) (pq_N c n)
theorem pq_f {c : Nat → Nat} {n : Nat} (hn : n ≤ 80) (hc : ∀ j, j < n → c j ≤ 18) : pq_T c n ≤ 80 ∧ (∀ q, q < pq_T c n → pq_S c n q < pq_E c n q ∧ pq_E c n q ≤ n) ∧ (∀ t, t < pq_T c n → pq_K c n t ≤ 10) ∧ pq_K c n (pq_T c n) = 11 := by
  obtain ⟨i1, i2, i3, i4, i5, i6, i7⟩ := tk_Ir hc n (Nat.le_refl _)
  refine ⟨Nat.le_trans i1 hn, i4, fun t ht => ?_, ?_⟩
  · unfold pq_K; rw [if_pos ht]; exact i6 t ht
  · unfold pq_K; rw [if_neg (Nat.lt_irrefl _)]
theorem pq_k {a : Nat → Int32} {c : Nat → Nat} {n : Nat} (h : ed_ag a (tk_r c n).2.1 (tk_r c n).1) : ed_ag a (pq_K c n) (pq_T c n) := by
  intro j hj
  unfold pq_K; rw [if_pos hj]; exact h j hj
theorem xr_read {post : SX → Prop} {c : Nat → Nat} {n : Nat} (hn : n ≤ 80) (hc : ∀ j, j < n → c j ≤ 18) (hX : ed_ag a_text c n)
    (hP : ∀ (f_tokenCount f_itemCount f_blockCount f_openCount f_looseCount : Int32) (a_characterToken a_tokenKind a_tokenStart a_tokenEnd a_tokenItem a_tokenMeaning a_itemFirst a_itemEnd a_itemSort a_itemDepth a_itemBlock a_itemUses a_itemKnown a_itemValue a_blockEnd a_openBlocks a_levelCompares a_levelLeft a_levelSum a_levelProduct : Nat → Int32),
      xd_D c n f_tokenCount f_itemCount f_looseCount a_characterToken a_tokenKind a_tokenStart a_tokenItem a_tokenMeaning a_itemFirst a_itemSort a_itemDepth a_itemUses a_itemKnown a_itemValue → post (nI n, f_tokenCount, f_itemCount, f_blockCount, f_openCount, f_looseCount, a_text, a_characterToken, a_tokenKind, a_tokenStart, a_tokenEnd, a_tokenItem, a_tokenMeaning, a_itemFirst, a_itemEnd, a_itemSort, a_itemDepth, a_itemBlock, a_itemUses, a_itemKnown, a_itemValue, a_blockEnd, a_openBlocks, a_levelCompares, a_levelLeft, a_levelSum, a_levelProduct)) : wpX_readText post (nI n, f_tokenCount, f_itemCount, f_blockCount, f_openCount, f_looseCount, a_text, a_characterToken, a_tokenKind, a_tokenStart, a_tokenEnd, a_tokenItem, a_tokenMeaning, a_itemFirst, a_itemEnd, a_itemSort, a_itemDepth, a_itemBlock, a_itemUses, a_itemKnown, a_itemValue, a_blockEnd, a_openBlocks, a_levelCompares, a_levelLeft, a_levelSum, a_levelProduct) := by
  obtain ⟨p1, p2, p3, p4⟩ := pq_f hn hc
  have hN : pq_N c n ≤ pq_T c n := it_N p4
  unfold wpX_readText
  refine xt_read hn hc hX (fun CT TK TS TE g1 g2 g3 g4 => ?_)
  have g2 := pq_k g2
  refine xi_read (k := pq_K c n) (T := pq_T c n) p1 g2 p3 p4 (fun BC OC TI IF IE ID IB BE OB q1 q2 q3 q4 q5 q6 => ?_)
  refine ⟨pq_N c n + 1, ?_⟩
  refine xe_sorts (k := pq_K c n) (T := pq_T c n) (N := pq_N c n) p1 (by omega) g2 (fun t ht => by have := p3 t ht; omega) p4 q2 q3 (fun i hi => it_E hi) (fun IS LC s1 => ?_) (pq_N c n) 0 (by omega) _ (by omega) _ _ (fun j hj => absurd hj (Nat.not_lt_zero _))
  have hp : xp_P c (pq_S c n) (pq_E c n) (pq_K c n) (pq_T c n) n a_text TK TS TE IF IE IS := ⟨hn, p1, p2, hc, p3, p4, hX, g2, g3, g4, q2, q3, s1⟩
  refine xm_find hp ⟨q5, q6⟩ (fun TM US m1 m2 => ?_)
  refine ⟨pq_N c n + 1, ?_⟩
  refine xv_items hp m1 (fun KN VA CM LF SM PR v1 v2 => ?_) (pq_N c n) 0 (Nat.zero_add _) _ (by omega) _ _ _ _ _ _ (fun j hj => absurd hj (Nat.not_lt_zero _)) (fun j hj => absurd hj (Nat.not_lt_zero _))
  exact hP _ _ _ _ _ _ _ _ _ _ _ _ _ _ _ _ _ _ _ _ _ _ _ _ _ ⟨rfl, rfl, rfl, g1, g2, g3, q1, m1, q2, s1, q4, m2, v1, v2⟩
end
end
section
section
/-! Y: names, blocks, numbers, the two stacks -/
def ev_rd (q : Nat) (x y : Int32) : Int32 := if q = 4 then x + y else if q = 5 then x * y else if x = y then 1 else 0
def ev_R (r : List ev_L) : List Int32 := match r with | [] => [] | _ :: _ => 0 :: ev_O r
theorem ev_OR (L : ev_L) (r : List ev_L) : ev_O (L :: r) = ev_op L ++ ev_R r := rfl
theorem mn_nv_y (v x : Int32) : 10 * v + x - 5 = v * 10 + (x - 5) := by
  rw [Int32.mul_comm, Int32.sub_eq_add_neg, Int32.sub_eq_add_neg, Int32.add_assoc]
variable {f_length f_tokenCount f_itemCount f_blockCount f_looseCount f_numberCount f_operatorCount : Int32} {a_text a_kinds a_starts a_ends a_owners a_meant a_firsts a_lasts a_sorts a_blocks a_knowns a_values a_around a_depths a_compared a_numbers a_operators : Nat → Int32}
theorem ym_sl {post : Int32 → Prop} {c st en : Nat → Nat} {T n t u : Nat} (hn : n ≤ 80) (hT : T ≤ 80) (hS : ed_ag a_starts st T) (hE : ed_ag a_ends en T) (hX : ed_ag a_text c n) (hse : ∀ q, q < T → st q < en q ∧ en q ≤ n) (hc : ∀ j, j < n → c j ≤ 18) (ht : t < T) (hu : u < T) (hw : en t - st t = en u - st u)
    (h1 : mn_nm c st en t u = true → post 1) (h0 : mn_nm c st en t u = false → post 0) :
    ∀ d j, j + d = en t - st t → (∀ i, i < j → c (st t + i) = c (st u + i)) → ∀ f, d < f → (wY_isSameName_33 post (nI t) (nI u) f_length f_tokenCount f_itemCount f_blockCount f_looseCount f_numberCount f_operatorCount a_text a_kinds a_starts a_ends a_owners a_meant a_firsts a_lasts a_sorts a_blocks a_knowns a_values a_around a_depths a_compared a_numbers a_operators f (nI j)) := by
  intro d
  have ht2 := hse t ht
  have hu2 := hse u hu
  have e0 : a_ends (nI t).toNatClampNeg - a_starts (nI t).toNatClampNeg = nI (en t - st t) := by rw [ed_rt t (hS t ht), ed_rt t (hE t ht), pk_sub (by omega)]
  induction d with
  | zero =>
    intro j hj hi f hf
    obtain ⟨f, rfl⟩ : ∃ g, f = g + 1 := ⟨f - 1, by omega⟩
    refine ⟨pk_in t 80 (by omega), pk_in t 80 (by omega), pk_le (en t - st t) j (fun _ => h1 ?_) (fun z => by omega) e0⟩
    unfold mn_nm
    exact decide_eq_true ⟨hw, fun i hi2 => hi i (by omega)⟩
  | succ d ih =>
    intro j hj hi f hf
    obtain ⟨f, rfl⟩ : ∃ g, f = g + 1 := ⟨f - 1, by omega⟩
    have e1 : a_starts (nI t).toNatClampNeg + nI j = nI (st t + j) := by rw [ed_rt t (hS t ht), nI_add]
    have e2 : a_starts (nI u).toNatClampNeg + nI j = nI (st u + j) := by rw [ed_rt u (hS u hu), nI_add]
    have c1 := hc (st t + j) (by omega)
    have c2 := hc (st u + j) (by omega)
    refine ⟨pk_in t 80 (by omega), pk_in t 80 (by omega), pk_le (en t - st t) j (fun z => by omega) (fun _ => ⟨pk_in t 80 (by omega), ?_⟩) e0⟩
    rw [e1, e2]
    refine ⟨pk_in (st t + j) 81 (by omega), pk_in u 80 (by omega), pk_in (st u + j) 81 (by omega), pk_eq (c (st t + j)) (c (st u + j)) (fun e => ?_) (fun e => ?_) (ed_rt _ (hX _ (by omega))) (ed_rt _ (hX _ (by omega)))⟩
    · refine nm_r (nI_1 j) (ih (j + 1) (by omega) (fun i hi2 => ?_) f (by omega))
      by_cases z : i = j
      · subst z; exact e
      · exact hi i (by omega)
    · refine h0 ?_
      unfold mn_nm
      exact decide_eq_false (fun z => e (z.2 j (by omega)))
theorem ym_same {post : Int32 → Prop} {c st en : Nat → Nat} {T n t u : Nat} (hn : n ≤ 80) (hT : T ≤ 80) (hS : ed_ag a_starts st T) (hE : ed_ag a_ends en T) (hX : ed_ag a_text c n) (hse : ∀ q, q < T → st q < en q ∧ en q ≤ n) (hc : ∀ j, j < n → c j ≤ 18) (ht : t < T) (hu : u < T)
    (h1 : mn_nm c st en t u = true → post 1) (h0 : mn_nm c st en t u = false → post 0) : wpY_isSameName post (f_length, f_tokenCount, f_itemCount, f_blockCount, f_looseCount, f_numberCount, f_operatorCount, a_text, a_kinds, a_starts, a_ends, a_owners, a_meant, a_firsts, a_lasts, a_sorts, a_blocks, a_knowns, a_values, a_around, a_depths, a_compared, a_numbers, a_operators) (nI t) (nI u) := by
  have ht2 := hse t ht
  have hu2 := hse u hu
  have e1 : a_ends (nI t).toNatClampNeg - a_starts (nI t).toNatClampNeg = nI (en t - st t) := by rw [ed_rt t (hS t ht), ed_rt t (hE t ht), pk_sub (by omega)]
  have e2 : a_ends (nI u).toNatClampNeg - a_starts (nI u).toNatClampNeg = nI (en u - st u) := by rw [ed_rt u (hS u hu), ed_rt u (hE u hu), pk_sub (by omega)]
  refine ⟨pk_in t 80 (by omega), pk_in t 80 (by omega), pk_in u 80 (by omega), pk_in u 80 (by omega), pk_eq (en t - st t) (en u - st u) (fun hw => ⟨en t - st t + 1, ?_⟩) (fun hw => h0 ?_) e1 e2⟩
  · exact ym_sl hn hT hS hE hX hse hc ht hu hw h1 h0 (en t - st t) 0 (by omega) (fun i hi => by omega) _ (by omega)
  · unfold mn_nm
    exact decide_eq_false (fun z => hw z.1)
theorem ym_within {post : Int32 → Prop} {m : List Nat} (hm : ∀ b, b ∈ m → 1 ≤ b ∧ b ≤ 80) :
    ∀ l : List Nat, (∀ b, b ∈ l → b ≤ 80) → yc_I a_around a_depths l → (mn_rl l m = true → post 1) → (mn_rl l m = false → post 0) → ∀ f, l.length < f → (wY_isWithin_2 post (yc_h m) f_length f_tokenCount f_itemCount f_blockCount f_looseCount f_numberCount f_operatorCount a_text a_kinds a_starts a_ends a_owners a_meant a_firsts a_lasts a_sorts a_blocks a_knowns a_values a_around a_depths a_compared a_numbers a_operators f (yc_h l)) := by
  intro l
  induction l with
  | nil =>
    intro _ _ h1 h0 f hf
    obtain ⟨f, rfl⟩ : ∃ g, f = g + 1 := ⟨f - 1, by omega⟩
    refine br_t (show (-1 : Int32) < 0 by decide) ?_
    cases m with
    | nil => exact br_t rfl (h1 rfl)
    | cons b m =>
      have hb := hm b List.mem_cons_self
      refine br_f (fun z => ?_) (h0 (show decide (b ∈ ([] : List Nat)) = false from decide_eq_false (by intro y; cases y)))
      have z2 : (-1 : Int32) = nI (b - 1) := z
      have := nI_pos' (n := b - 1) (by omega)
      rw [← z2] at this
      exact absurd this (by decide)
  | cons a r ih =>
    intro hl hy h1 h0 f hf
    obtain ⟨f, rfl⟩ : ∃ g, f = g + 1 := ⟨f - 1, by omega⟩
    obtain ⟨y1, y2, y3, y4⟩ := hy
    have ha := hl a List.mem_cons_self
    have hlen : r.length + 1 < f + 1 := hf
    have ih := ih (fun b hb => hl b (List.mem_cons_of_mem _ hb)) y4
    refine br_f (show ¬ nI (a - 1) < 0 from nI_pos (by omega)) ?_
    cases m with
    | nil =>
      refine br_f (fun z => ?_) ⟨pk_in (a - 1) 80 (by omega), ed_rd (a - 1) y2 (ih (fun _ => h1 rfl) (fun z => by cases z) f (by omega))⟩
      have z2 : nI (a - 1) = (-1 : Int32) := z
      have := nI_pos' (n := a - 1) (by omega)
      rw [z2] at this
      exact absurd this (by decide)
    | cons b m =>
      have hb := hm b List.mem_cons_self
      refine pk_eq (a - 1) (b - 1) (fun e => ?_) (fun e => ?_)
      · have e2 : a = b := by omega
        refine br_t (show nI (a - 1) = nI (b - 1) by rw [e2]) (h1 (show decide (b ∈ a :: r) = true from decide_eq_true ?_))
        rw [e2]; exact List.mem_cons_self
      · refine ⟨pk_in (a - 1) 80 (by omega), ed_rd (a - 1) y2 (ih (fun z => h1 ?_) (fun z => h0 ?_) f (by omega))⟩
        · exact decide_eq_true (List.mem_cons_of_mem _ (of_decide_eq_true z))
        · refine decide_eq_false (fun y => ?_)
          cases List.mem_cons.mp y with
          | inl q => omega
          | inr q => exact of_decide_eq_false z q
theorem ym_find {post : Int32 → Prop} {c st en k : Nat → Nat} {T n t i : Nat} (hn : n ≤ 80) (hT : T ≤ 80) (hS : ed_ag a_starts st T) (hE : ed_ag a_ends en T) (hX : ed_ag a_text c n) (hse : ∀ q, q < T → st q < en q ∧ en q ≤ n) (hc : ∀ j, j < n → c j ≤ 18) (h11 : k T = 11)
    (hi : i < it_cn k (T + 1)) (ht : t < T) (hFI : ed_ag a_firsts (it_fi k (T + 1)) (it_cn k (T + 1))) (hSO : ed_ag a_sorts (mn_so k T) (it_cn k (T + 1))) (hBL : ∀ i, i < it_cn k (T + 1) → a_blocks i = yc_h (it_ik k (T + 1) i)) (hCH : ∀ i, i < it_cn k (T + 1) → yc_I a_around a_depths (it_ik k (T + 1) i)) :
    ∀ D, D ≤ i → ∀ x3 : Int32, x3 = nI D - 1 → ∀ f, D < f → post (ed_oI (mn_sr k T (mn_nm c st en) i t D)) → (wY_find_4 post (nI t) (nI i) f_length f_tokenCount f_itemCount f_blockCount f_looseCount f_numberCount f_operatorCount a_text a_kinds a_starts a_ends a_owners a_meant a_firsts a_lasts a_sorts a_blocks a_knowns a_values a_around a_depths a_compared a_numbers a_operators f x3) := by
  have hN := it_N h11
  have hM := it_M h11
  have hel : ∀ j, j < it_cn k (T + 1) → ∀ b, b ∈ it_ik k (T + 1) j → 1 ≤ b ∧ b ≤ 80 := by
    intro j hj b hb
    have h1 := (it_Cp k (T + 1)).2.1 j hj b hb
    have h2 := (it_Cp k (T + 1)).2.2.1 j hj
    omega
  intro D
  induction D with
  | zero =>
    intro _ x3 hx f hf hP
    obtain ⟨f, rfl⟩ : ∃ g, f = g + 1 := ⟨f - 1, by omega⟩
    subst hx
    exact br_t (by decide) hP
  | succ D ih =>
    intro hD x3 hx f hf hP
    obtain ⟨f, rfl⟩ : ∃ g, f = g + 1 := ⟨f - 1, by omega⟩
    rw [nI_pred] at hx
    subst hx
    have hdi := it_E (k := k) (T := T) (show D < it_cn k (T + 1) by omega)
    have hso : mn_so k T D ≤ 2 := ex_so_le _ _ _
    have eso : a_sorts (nI D).toNatClampNeg = nI (mn_so k T D) := ed_rt D (hSO D (by omega))
    have efi : a_firsts (nI D).toNatClampNeg = nI (it_fi k (T + 1) D) := ed_rt D (hFI D (by omega))
    have ebi : a_blocks (nI i).toNatClampNeg = yc_h (it_ik k (T + 1) i) := ed_rt i (hBL i hi)
    have ebD : a_blocks (nI D).toNatClampNeg = yc_h (it_ik k (T + 1) D) := ed_rt D (hBL D (by omega))
    have hskip : ¬ (mn_so k T D = 2 ∧ mn_rc k T i D = true ∧ mn_nm c st en (it_fi k (T + 1) D) t = true) → (wY_find_4 post (nI t) (nI i) f_length f_tokenCount f_itemCount f_blockCount f_looseCount f_numberCount f_operatorCount a_text a_kinds a_starts a_ends a_owners a_meant a_firsts a_lasts a_sorts a_blocks a_knowns a_values a_around a_depths a_compared a_numbers a_operators f (nI D + (-1))) := by
      intro hno
      refine ih (by omega) _ (Int32.sub_eq_add_neg _ _).symm f (by omega) ?_
      have e1 : mn_sr k T (mn_nm c st en) i t (D + 1) = mn_sr k T (mn_nm c st en) i t D := by
        show (if _ then _ else _) = _
        rw [if_neg hno]
      rw [e1] at hP; exact hP
    refine br_f (nI_pos (by omega)) ⟨pk_in D 80 (by omega), pk_eq (mn_so k T D) 2 (fun h2 => ⟨pk_in D 80 (by omega), ?_⟩) (fun h2 => nm_e (hskip (fun z => h2 z.1))) eso⟩
    rw [efi]
    refine ym_same hn hT hS hE hX hse hc ht (by omega) (fun hy => br_f (by decide) ⟨pk_in i 80 (by omega), pk_in D 80 (by omega), ?_⟩) (fun hy => br_t rfl (nm_e (hskip (fun z => by rw [mn_nm_c, hy] at z; exact absurd z.2.2 (by decide)))))
    rw [ebi, ebD]
    refine ⟨(it_ik k (T + 1) i).length + 1, ?_⟩
    refine ym_within (hel D (by omega)) _ (fun b hb => (hel i hi b hb).2) (hCH i hi) (fun hw => br_f (by decide) ?_) (fun hw => br_t rfl (nm_e (hskip (fun z => ?_)))) _ (by omega)
    · have e1 : mn_sr k T (mn_nm c st en) i t (D + 1) = some D := by
        show (if _ then _ else _) = _
        rw [if_pos ⟨h2, hw, by rw [mn_nm_c]; exact hy⟩]
      rw [e1] at hP; exact hP
    · have := z.2.1
      unfold mn_rc at this
      rw [hw] at this; cases this
theorem ym_num {post : Int32 → Prop} {c en : Nat → Nat} {T n t : Nat} (hn : n ≤ 80) (hT : T ≤ 80) (hE : ed_ag a_ends en T) (hX : ed_ag a_text c n) (ht : t < T) (hen : en t ≤ n) :
    ∀ d p v, p + d = en t → post (mn_nv c d p v) → ∀ f, d < f → (wY_numberAt_9 post (nI t) f_length f_tokenCount f_itemCount f_blockCount f_looseCount f_numberCount f_operatorCount a_text a_kinds a_starts a_ends a_owners a_meant a_firsts a_lasts a_sorts a_blocks a_knowns a_values a_around a_depths a_compared a_numbers a_operators f v (nI p)) := by
  have ee : a_ends (nI t).toNatClampNeg = nI (en t) := ed_rt t (hE t ht)
  intro d
  induction d with
  | zero =>
    intro p v hp h f hf
    obtain ⟨f, rfl⟩ : ∃ g, f = g + 1 := ⟨f - 1, by omega⟩
    exact ⟨pk_in t 80 (by omega), pk_le (en t) p (fun _ => h) (fun z => by omega) ee⟩
  | succ d ih =>
    intro p v hp h f hf
    obtain ⟨f, rfl⟩ : ∃ g, f = g + 1 := ⟨f - 1, by omega⟩
    refine ⟨pk_in t 80 (by omega), pk_le (en t) p (fun z => by omega) (fun _ => ⟨pk_in p 81 (by omega), nm_r (e' := v * 10 + (nI (c p) - 5)) ?_ (nm_r (nI_1 p) (ih (p + 1) _ (by omega) h f (by omega)))⟩) ee⟩
    rw [ed_rt p (hX p (by omega))]; exact mn_nv_y _ _
theorem ym_number {post : Int32 → Prop} {c st en : Nat → Nat} {T n t : Nat} (hn : n ≤ 80) (hT : T ≤ 80) (hS : ed_ag a_starts st T) (hE : ed_ag a_ends en T) (hX : ed_ag a_text c n) (ht : t < T) (hse : st t < en t ∧ en t ≤ n)
    (h : post (mn_nv c (en t - st t) (st t) 0)) : wpY_numberAt post (f_length, f_tokenCount, f_itemCount, f_blockCount, f_looseCount, f_numberCount, f_operatorCount, a_text, a_kinds, a_starts, a_ends, a_owners, a_meant, a_firsts, a_lasts, a_sorts, a_blocks, a_knowns, a_values, a_around, a_depths, a_compared, a_numbers, a_operators) (nI t) :=
  ⟨pk_in t 80 (by omega), ed_rd t (hS t ht) ⟨en t - st t + 1, ym_num hn hT hE hX ht hse.2 (en t - st t) (st t) 0 (by omega) h _ (by omega)⟩⟩
def yl_W (post : SY → Prop) (x1 : Int32) (f_length f_tokenCount f_itemCount f_blockCount f_looseCount f_numberCount f_operatorCount : Int32) (a_text a_kinds a_starts a_ends a_owners a_meant a_firsts a_lasts a_sorts a_blocks a_knowns a_values a_around a_depths a_compared a_numbers a_operators : Nat → Int32) (k : Nat) (O N : List Int32) : Prop :=
  ∀ f, k ≤ f → ∀ a_numbers : Nat → Int32, ed_sk a_numbers N → (wY_close_0 post x1 f_length f_tokenCount f_itemCount f_blockCount f_looseCount f (nI N.length) (nI O.length) a_text a_kinds a_starts a_ends a_owners a_meant a_firsts a_lasts a_sorts a_blocks a_knowns a_values a_around a_depths a_compared a_numbers a_operators)
theorem yl_up {post : SY → Prop} {x1 : Int32} {k : Nat} {O N : List Int32} (h : yl_W post x1 f_length f_tokenCount f_itemCount f_blockCount f_looseCount f_numberCount f_operatorCount a_text a_kinds a_starts a_ends a_owners a_meant a_firsts a_lasts a_sorts a_blocks a_knowns a_values a_around a_depths a_compared a_numbers a_operators k O N) : yl_W post x1 f_length f_tokenCount f_itemCount f_blockCount f_looseCount f_numberCount f_operatorCount a_text a_kinds a_starts a_ends a_owners a_meant a_firsts a_lasts a_sorts a_blocks a_knowns a_values a_around a_depths a_compared a_numbers a_operators (k + 1) O N := fun f hf => h f (by omega)
theorem yl_A {post : SY → Prop} {s q k : Nat} {y x : Int32} {O N : List Int32} (hO : O.length < 81) (hN : N.length + 1 < 81) (hs : s ≤ q) (hq : q ≤ 5) (hq3 : 3 ≤ q) (hsk : ed_sk a_operators (nI q :: O))
    (h : yl_W post (nI s) f_length f_tokenCount f_itemCount f_blockCount f_looseCount f_numberCount f_operatorCount a_text a_kinds a_starts a_ends a_owners a_meant a_firsts a_lasts a_sorts a_blocks a_knowns a_values a_around a_depths a_compared a_numbers a_operators k O (ev_rd q x y :: N)) : yl_W post (nI s) f_length f_tokenCount f_itemCount f_blockCount f_looseCount f_numberCount f_operatorCount a_text a_kinds a_starts a_ends a_owners a_meant a_firsts a_lasts a_sorts a_blocks a_knowns a_values a_around a_depths a_compared a_numbers a_operators (k + 1) (nI q :: O) (y :: x :: N) := by
  intro f hf NU hN2
  obtain ⟨f, rfl⟩ : ∃ g, f = g + 1 := ⟨f - 1, by omega⟩
  have h := h f (by omega)
  have e1 : nI (nI q :: O).length - 1 = nI O.length := nI_pred _
  have e2 : nI (y :: x :: N).length - 1 = nI (N.length + 1) := nI_pred _
  have e3 : nI (N.length + 1) - 1 = nI N.length := nI_pred _
  have e4 : a_operators (nI O.length).toNatClampNeg = nI q := ed_rt O.length hsk.1
  have hy : NU (N.length + 1) = y := hN2.1
  have hx : NU N.length = x := hN2.2.1
  refine br_f (nI_nle (Nat.succ_pos _) (by rw [List.length_cons]; omega)) ?_
  rw [e1]
  refine ⟨pk_in O.length 81 hO, ?_⟩
  rw [e4]
  refine br_f (nI_nlt hs (by omega)) (nm_e (nm_r e2 ⟨pk_in (N.length + 1) 81 hN, ed_rd (N.length + 1) hy ?_⟩))
  rw [e3]
  refine ⟨pk_in N.length 81 (by omega), ed_rd N.length hx ⟨pk_in O.length 81 hO, ed_rd O.length hsk.1 ?_⟩⟩
  have hput : ∀ z : Int32, z = ev_rd q x y → ed_sk (upd NU N.length z) (ev_rd q x y :: N) := by
    intro z hz
    rw [hz]; exact ed_sk_p hN2.2.2
  refine pk_eq q 4 (fun h4 => ⟨pk_in N.length 81 (by omega), ed_nu N.length (h _ (hput _ ?_))⟩) (fun h4 => pk_eq q 5 (fun h5 => ⟨pk_in N.length 81 (by omega), ed_nu N.length (h _ (hput _ ?_))⟩) (fun h5 => ?_))
  · unfold ev_rd; rw [if_pos h4]
  · unfold ev_rd; rw [if_neg h4, if_pos h5]
  · by_cases e : x = y
    · refine br_t e ⟨pk_in N.length 81 (by omega), ed_nu N.length (h _ (hput _ ?_))⟩
      unfold ev_rd; rw [if_neg h4, if_neg h5, if_pos e]
    · refine br_f e ⟨pk_in N.length 81 (by omega), ed_nu N.length (h _ (hput _ ?_))⟩
      unfold ev_rd; rw [if_neg h4, if_neg h5, if_neg e]
theorem yl_stop {post : SY → Prop} {s : Nat} {O N : List Int32} (hO : O.length < 82) (hs : s ≤ 5) (hsk : ed_sk a_operators O) (ho : ∀ o r, O = o :: r → ∃ q, o = nI q ∧ q < s)
    (h : ∀ a_numbers : Nat → Int32, ed_sk a_numbers N → post (f_length, f_tokenCount, f_itemCount, f_blockCount, f_looseCount, nI N.length, nI O.length, a_text, a_kinds, a_starts, a_ends, a_owners, a_meant, a_firsts, a_lasts, a_sorts, a_blocks, a_knowns, a_values, a_around, a_depths, a_compared, a_numbers, a_operators)) : yl_W post (nI s) f_length f_tokenCount f_itemCount f_blockCount f_looseCount f_numberCount f_operatorCount a_text a_kinds a_starts a_ends a_owners a_meant a_firsts a_lasts a_sorts a_blocks a_knowns a_values a_around a_depths a_compared a_numbers a_operators 1 O N := by
  intro f hf NU hN
  obtain ⟨f, rfl⟩ : ∃ g, f = g + 1 := ⟨f - 1, by omega⟩
  cases O with
  | nil => exact br_t (by decide) (h NU hN)
  | cons o r =>
    obtain ⟨q, hq, hqs⟩ := ho o r rfl
    have e1 : nI (o :: r).length - 1 = nI r.length := nI_pred _
    have hl : r.length + 1 < 82 := hO
    have e4 : a_operators (nI r.length).toNatClampNeg = nI q := (ed_rt r.length hsk.1).trans hq
    refine br_f (nI_nle (Nat.succ_pos _) (by rw [List.length_cons]; omega)) ?_
    rw [e1]
    refine ⟨pk_in r.length 81 (by omega), ?_⟩
    rw [e4]
    exact br_t (nI_lt hqs (by omega)) (h NU hN)
end
end
section
section
/-! Y works on an item -/
theorem ed_nbb (b : Bool) : vp_nar .boolean (ed_bI b) = ed_bI b := by
  cases b with
  | true => exact ed_nb1
  | false => exact ed_nb0
def yw_b (o : Option Nat) (g : Nat → Bool) : Bool := match o with | none => false | some d => g d
theorem yl_R0 {r : List ev_L} : ∀ o l, ev_R r = o :: l → ∃ q, o = nI q ∧ q < 3 := by
  intro o l h
  cases r with
  | nil => cases h
  | cons M r =>
    have h2 : (0 : Int32) :: ev_O (M :: r) = o :: l := h
    cases h2
    exact ⟨0, rfl, by omega⟩
theorem yl_R3 {r : List ev_L} {c : Option Int32} : ∀ o l, ev_op (c, none, none) ++ ev_R r = o :: l → ∃ q, o = nI q ∧ q < 4 := by
  intro o l h
  cases c with
  | none =>
    obtain ⟨q, h1, h2⟩ := yl_R0 (r := r) o l h
    exact ⟨q, h1, by omega⟩
  | some x =>
    have h2 : (3 : Int32) :: ev_R r = o :: l := h
    cases h2
    exact ⟨3, rfl, by omega⟩
theorem yl_R4 {r : List ev_L} {c s : Option Int32} : ∀ o l, ev_op (c, s, none) ++ ev_R r = o :: l → ∃ q, o = nI q ∧ q < 5 := by
  intro o l h
  cases s with
  | none =>
    obtain ⟨q, h1, h2⟩ := yl_R3 (r := r) o l h
    exact ⟨q, h1, by omega⟩
  | some x =>
    have h2 : (4 : Int32) :: (ev_op (c, none, none) ++ ev_R r) = o :: l := h
    cases h2
    exact ⟨4, rfl, by omega⟩
theorem ed_sk_t {a : Nat → Int32} : ∀ {l m : List Int32}, ed_sk a (l ++ m) → ed_sk a m := by
  intro l
  induction l with
  | nil => intro m h; exact h
  | cons x l ih => intro m h; exact ih h.2
theorem ev_opl {c s p : Option Int32} {R : List Int32} : (ev_op (c, s, p) ++ R).length = ev_b c + ev_b s + ev_b p + R.length := by
  rw [List.length_append, ev_op_l]; rfl
theorem ev_nul {c s p : Option Int32} {R : List Int32} : (ev_nu (c, s, p) ++ R).length = ev_b c + ev_b s + ev_b p + R.length := by
  rw [List.length_append, ev_nu_l]; rfl
variable {f_length f_tokenCount f_itemCount f_blockCount f_looseCount f_numberCount f_operatorCount : Int32} {a_text a_kinds a_starts a_ends a_owners a_meant a_firsts a_lasts a_sorts a_blocks a_knowns a_values a_around a_depths a_compared a_numbers a_operators : Nat → Int32}
theorem yl_A5 {post : SY → Prop} {e k : Nat} {c s p : Option Int32} {v : Int32} {R N : List Int32} (he : e ≤ 5) (hO : (ev_op (c, s, p) ++ R).length ≤ 81) (hN : (ev_nu (c, s, p) ++ N).length ≤ 80) (hsk : ed_sk a_operators (ev_op (c, s, p) ++ R))
    (h : yl_W post (nI e) f_length f_tokenCount f_itemCount f_blockCount f_looseCount f_numberCount f_operatorCount a_text a_kinds a_starts a_ends a_owners a_meant a_firsts a_lasts a_sorts a_blocks a_knowns a_values a_around a_depths a_compared a_numbers a_operators k (ev_op (c, s, none) ++ R) (ev_p (c, s, p) v :: (ev_nu (c, s, none) ++ N))) : yl_W post (nI e) f_length f_tokenCount f_itemCount f_blockCount f_looseCount f_numberCount f_operatorCount a_text a_kinds a_starts a_ends a_owners a_meant a_firsts a_lasts a_sorts a_blocks a_knowns a_values a_around a_depths a_compared a_numbers a_operators (k + 1) (ev_op (c, s, p) ++ R) (v :: (ev_nu (c, s, p) ++ N)) := by
  cases p with
  | none => exact yl_up h
  | some p =>
    have e1 : ev_rd 5 p v = ev_p (c, s, some p) v := by unfold ev_rd; rw [if_neg (by omega), if_pos rfl]; rfl
    rw [← e1] at h
    rw [ev_opl] at hO
    rw [ev_nul] at hN
    have w1 : ev_b (some p) = 1 := rfl
    refine yl_A (q := 5) (O := ev_op (c, s, none) ++ R) (N := ev_nu (c, s, none) ++ N) ?_ ?_ he (by omega) (by omega) hsk h
    · rw [ev_opl]; have : ev_b none = 0 := rfl; omega
    · rw [ev_nul]; have : ev_b none = 0 := rfl; omega
theorem yl_A4 {post : SY → Prop} {e k : Nat} {c s : Option Int32} {v : Int32} {R N : List Int32} (he : e ≤ 4) (hO : (ev_op (c, s, none) ++ R).length ≤ 81) (hN : (ev_nu (c, s, none) ++ N).length ≤ 80) (hsk : ed_sk a_operators (ev_op (c, s, none) ++ R))
    (h : yl_W post (nI e) f_length f_tokenCount f_itemCount f_blockCount f_looseCount f_numberCount f_operatorCount a_text a_kinds a_starts a_ends a_owners a_meant a_firsts a_lasts a_sorts a_blocks a_knowns a_values a_around a_depths a_compared a_numbers a_operators k (ev_op (c, none, none) ++ R) (ev_s (c, s, none) v :: (ev_nu (c, none, none) ++ N))) : yl_W post (nI e) f_length f_tokenCount f_itemCount f_blockCount f_looseCount f_numberCount f_operatorCount a_text a_kinds a_starts a_ends a_owners a_meant a_firsts a_lasts a_sorts a_blocks a_knowns a_values a_around a_depths a_compared a_numbers a_operators (k + 1) (ev_op (c, s, none) ++ R) (v :: (ev_nu (c, s, none) ++ N)) := by
  cases s with
  | none => exact yl_up h
  | some s =>
    have e1 : ev_rd 4 s v = ev_s (c, some s, none) v := by unfold ev_rd; rw [if_pos rfl]; rfl
    rw [← e1] at h
    rw [ev_opl] at hO
    rw [ev_nul] at hN
    have w1 : ev_b (some s) = 1 := rfl
    refine yl_A (q := 4) (O := ev_op (c, none, none) ++ R) (N := ev_nu (c, none, none) ++ N) ?_ ?_ he (by omega) (by omega) hsk h
    · rw [ev_opl]; have : ev_b none = 0 := rfl; omega
    · rw [ev_nul]; have : ev_b none = 0 := rfl; omega
theorem yl_A3 {post : SY → Prop} {e k : Nat} {c : Option Int32} {v : Int32} {R N : List Int32} (he : e ≤ 3) (hO : (ev_op (c, none, none) ++ R).length ≤ 81) (hN : (ev_nu (c, none, none) ++ N).length ≤ 80) (hsk : ed_sk a_operators (ev_op (c, none, none) ++ R))
    (h : yl_W post (nI e) f_length f_tokenCount f_itemCount f_blockCount f_looseCount f_numberCount f_operatorCount a_text a_kinds a_starts a_ends a_owners a_meant a_firsts a_lasts a_sorts a_blocks a_knowns a_values a_around a_depths a_compared a_numbers a_operators k R (ev_v (c, none, none) v :: N)) : yl_W post (nI e) f_length f_tokenCount f_itemCount f_blockCount f_looseCount f_numberCount f_operatorCount a_text a_kinds a_starts a_ends a_owners a_meant a_firsts a_lasts a_sorts a_blocks a_knowns a_values a_around a_depths a_compared a_numbers a_operators (k + 1) (ev_op (c, none, none) ++ R) (v :: (ev_nu (c, none, none) ++ N)) := by
  cases c with
  | none => exact yl_up h
  | some c =>
    have e1 : ev_rd 3 c v = ev_v (some c, none, none) v := by unfold ev_rd; rw [if_neg (by omega), if_neg (by omega)]; rfl
    rw [← e1] at h
    rw [ev_opl] at hO
    rw [ev_nul] at hN
    have w1 : ev_b (some c) = 1 := rfl
    exact yl_A (q := 3) (O := R) (N := N) (by omega) (by omega) he (by omega) (by omega) hsk h
theorem yl_c5 {post : SY → Prop} {L : ev_L} {r : List ev_L} {v : Int32} {N : List Int32} (hO : (ev_op L ++ ev_R r).length ≤ 81) (hN : (ev_nu L ++ N).length ≤ 80) (hsk : ed_sk a_operators (ev_op L ++ ev_R r)) (hnu : ed_sk a_numbers (v :: (ev_nu L ++ N)))
    (h : ∀ a_numbers : Nat → Int32, ed_sk a_numbers (ev_p L v :: (ev_nu (L.1, L.2.1, none) ++ N)) → post (f_length, f_tokenCount, f_itemCount, f_blockCount, f_looseCount, nI (ev_p L v :: (ev_nu (L.1, L.2.1, none) ++ N)).length, nI (ev_op (L.1, L.2.1, none) ++ ev_R r).length, a_text, a_kinds, a_starts, a_ends, a_owners, a_meant, a_firsts, a_lasts, a_sorts, a_blocks, a_knowns, a_values, a_around, a_depths, a_compared, a_numbers, a_operators)) :
    wpY_close post (f_length, f_tokenCount, f_itemCount, f_blockCount, f_looseCount, nI (v :: (ev_nu L ++ N)).length, nI (ev_op L ++ ev_R r).length, a_text, a_kinds, a_starts, a_ends, a_owners, a_meant, a_firsts, a_lasts, a_sorts, a_blocks, a_knowns, a_values, a_around, a_depths, a_compared, a_numbers, a_operators) (nI 5) := by
  obtain ⟨c, s, p⟩ := L
  have hO2 := hO
  rw [ev_opl] at hO2
  have hs2 : ed_sk a_operators (ev_op (c, s, none) ++ ev_R r) := by
    cases p with
    | none => exact hsk
    | some p => exact hsk.2
  have W : yl_W post (nI 5) f_length f_tokenCount f_itemCount f_blockCount f_looseCount 0 0 a_text a_kinds a_starts a_ends a_owners a_meant a_firsts a_lasts a_sorts a_blocks a_knowns a_values a_around a_depths a_compared a_numbers a_operators 2 (ev_op (c, s, p) ++ ev_R r) (v :: (ev_nu (c, s, p) ++ N)) := yl_A5 (by omega) hO hN hsk (yl_stop (by rw [ev_opl]; have : ev_b none = 0 := rfl; omega) (by omega) hs2 yl_R4 h)
  exact ⟨2, W 2 (Nat.le_refl _) a_numbers hnu⟩
theorem yl_c4 {post : SY → Prop} {L : ev_L} {r : List ev_L} {v : Int32} {N : List Int32} (hO : (ev_op L ++ ev_R r).length ≤ 81) (hN : (ev_nu L ++ N).length ≤ 80) (hsk : ed_sk a_operators (ev_op L ++ ev_R r)) (hnu : ed_sk a_numbers (v :: (ev_nu L ++ N)))
    (h : ∀ a_numbers : Nat → Int32, ed_sk a_numbers (ev_s L v :: (ev_nu (L.1, none, none) ++ N)) → post (f_length, f_tokenCount, f_itemCount, f_blockCount, f_looseCount, nI (ev_s L v :: (ev_nu (L.1, none, none) ++ N)).length, nI (ev_op (L.1, none, none) ++ ev_R r).length, a_text, a_kinds, a_starts, a_ends, a_owners, a_meant, a_firsts, a_lasts, a_sorts, a_blocks, a_knowns, a_values, a_around, a_depths, a_compared, a_numbers, a_operators)) :
    wpY_close post (f_length, f_tokenCount, f_itemCount, f_blockCount, f_looseCount, nI (v :: (ev_nu L ++ N)).length, nI (ev_op L ++ ev_R r).length, a_text, a_kinds, a_starts, a_ends, a_owners, a_meant, a_firsts, a_lasts, a_sorts, a_blocks, a_knowns, a_values, a_around, a_depths, a_compared, a_numbers, a_operators) (nI 4) := by
  obtain ⟨c, s, p⟩ := L
  have hO2 := hO
  have hN2 := hN
  rw [ev_opl] at hO2
  rw [ev_nul] at hN2
  have b0 : ev_b none = 0 := rfl
  have hs2 : ed_sk a_operators (ev_op (c, s, none) ++ ev_R r) := by
    cases p with
    | none => exact hsk
    | some p => exact hsk.2
  have hs3 : ed_sk a_operators (ev_op (c, none, none) ++ ev_R r) := by
    cases s with
    | none => exact hs2
    | some s => exact hs2.2
  have W : yl_W post (nI 4) f_length f_tokenCount f_itemCount f_blockCount f_looseCount 0 0 a_text a_kinds a_starts a_ends a_owners a_meant a_firsts a_lasts a_sorts a_blocks a_knowns a_values a_around a_depths a_compared a_numbers a_operators 3 (ev_op (c, s, p) ++ ev_R r) (v :: (ev_nu (c, s, p) ++ N)) := yl_A5 (by omega) hO hN hsk (yl_A4 (by omega) (by rw [ev_opl]; omega) (by rw [ev_nul]; omega) hs2 (yl_stop (by rw [ev_opl]; omega) (by omega) hs3 yl_R3 h))
  exact ⟨3, W 3 (Nat.le_refl _) a_numbers hnu⟩
theorem yl_c3 {post : SY → Prop} {L : ev_L} {r : List ev_L} {v : Int32} {N : List Int32} (hO : (ev_op L ++ ev_R r).length ≤ 81) (hN : (ev_nu L ++ N).length ≤ 80) (hsk : ed_sk a_operators (ev_op L ++ ev_R r)) (hnu : ed_sk a_numbers (v :: (ev_nu L ++ N)))
    (h : ∀ a_numbers : Nat → Int32, ed_sk a_numbers (ev_v L v :: N) → post (f_length, f_tokenCount, f_itemCount, f_blockCount, f_looseCount, nI (ev_v L v :: N).length, nI (ev_R r).length, a_text, a_kinds, a_starts, a_ends, a_owners, a_meant, a_firsts, a_lasts, a_sorts, a_blocks, a_knowns, a_values, a_around, a_depths, a_compared, a_numbers, a_operators)) :
    wpY_close post (f_length, f_tokenCount, f_itemCount, f_blockCount, f_looseCount, nI (v :: (ev_nu L ++ N)).length, nI (ev_op L ++ ev_R r).length, a_text, a_kinds, a_starts, a_ends, a_owners, a_meant, a_firsts, a_lasts, a_sorts, a_blocks, a_knowns, a_values, a_around, a_depths, a_compared, a_numbers, a_operators) (nI 3) := by
  obtain ⟨c, s, p⟩ := L
  have hO2 := hO
  have hN2 := hN
  rw [ev_opl] at hO2
  rw [ev_nul] at hN2
  have b0 : ev_b none = 0 := rfl
  have hs2 : ed_sk a_operators (ev_op (c, s, none) ++ ev_R r) := by
    cases p with
    | none => exact hsk
    | some p => exact hsk.2
  have hs3 : ed_sk a_operators (ev_op (c, none, none) ++ ev_R r) := by
    cases s with
    | none => exact hs2
    | some s => exact hs2.2
  have hs4 : ed_sk a_operators (ev_R r) := ed_sk_t hsk
  have W : yl_W post (nI 3) f_length f_tokenCount f_itemCount f_blockCount f_looseCount 0 0 a_text a_kinds a_starts a_ends a_owners a_meant a_firsts a_lasts a_sorts a_blocks a_knowns a_values a_around a_depths a_compared a_numbers a_operators 4 (ev_op (c, s, p) ++ ev_R r) (v :: (ev_nu (c, s, p) ++ N)) := yl_A5 (by omega) hO hN hsk (yl_A4 (by omega) (by rw [ev_opl]; omega) (by rw [ev_nul]; omega) hs2 (yl_A3 (by omega) (by rw [ev_opl]; omega) (by rw [ev_nul]; omega) hs3 (yl_stop (by omega) (by omega) hs4 yl_R0 h)))
  exact ⟨4, W 4 (Nat.le_refl _) a_numbers hnu⟩
theorem yw_factor {post : SY → Prop} {J60 : Int32 → Int32 → Int32 → Int32 → Int32 → Int32 → Int32 → Int32 → (Nat → Int32) → (Nat → Int32) → (Nat → Int32) → (Nat → Int32) → (Nat → Int32) → (Nat → Int32) → (Nat → Int32) → (Nat → Int32) → (Nat → Int32) → (Nat → Int32) → (Nat → Int32) → (Nat → Int32) → (Nat → Int32) → (Nat → Int32) → (Nat → Int32) → (Nat → Int32) → (Nat → Int32) → Prop}
    {c st en k : Nat → Nat} {T n t i m : Nat} {f : Nat → Option Nat} {tb : Nat → Bool × Int32} {o : Option Nat} {acc : Bool} (hn : n ≤ 80) (hT : T ≤ 80) (hS : ed_ag a_starts st T) (hE : ed_ag a_ends en T) (hX : ed_ag a_text c n) (ht : t < T) (hse : st t < en t ∧ en t ≤ n) (hi : i < 80) (hm : m < 81)
    (hk : k t ≤ 1) (ho0 : k t = 0 → o = f t) (ho1 : k t = 1 → o = none) (hod : ∀ d, f t = some d → d < i) (hKi : a_knowns i = ed_bI acc) (hK : ∀ d, d < i → a_knowns d = ed_bI (tb d).1) (hV : ∀ d, d < i → a_values d = (tb d).2)
    (h : J60 (nI (t + 1)) f_length f_tokenCount f_itemCount f_blockCount f_looseCount (nI (m + 1)) f_operatorCount a_text a_kinds a_starts a_ends a_owners (upd a_meant t (ed_oI o)) a_firsts a_lasts a_sorts a_blocks (upd a_knowns i (ed_bI (acc && mn_k1 k f tb t))) a_values a_around a_depths a_compared (upd a_numbers m (mn_tv k (fun t => mn_nv c (en t - st t) (st t) 0) f tb t)) a_operators) :
    (wY_work_114 post J60 (nI i) (nI t) (nI (k t)) (ed_oI o) (nI t) f_length f_tokenCount f_itemCount f_blockCount f_looseCount (nI m) f_operatorCount a_text a_kinds a_starts a_ends a_owners a_meant a_firsts a_lasts a_sorts a_blocks a_knowns a_values a_around a_depths a_compared a_numbers a_operators) := by
  refine ⟨pk_in t 80 (by omega), ed_nu t ⟨pk_in t 80 (by omega), ed_rd t pk_us ⟨pk_in i 80 hi, ?_⟩⟩⟩
  have h202 : ∀ x : Int32, x = mn_tv k (fun t => mn_nv c (en t - st t) (st t) 0) f tb t → (wY_work_202 post J60 (nI i) (nI t) x (nI m) f_length f_tokenCount f_itemCount f_blockCount f_looseCount (nI m) f_operatorCount a_text a_kinds a_starts a_ends a_owners (upd a_meant t (ed_oI o)) a_firsts a_lasts a_sorts a_blocks (upd a_knowns i (ed_bI (acc && mn_k1 k f tb t))) a_values a_around a_depths a_compared a_numbers a_operators) := by
    intro x hx
    subst hx
    exact ⟨pk_in m 81 hm, ed_nu m (nm_r (nI_1 m) (nm_r (nI_1 t) h))⟩
  have h163 : ∀ b : Bool, b = (acc && mn_k1 k f tb t) → (wY_work_163 post J60 (nI i) (nI t) (nI (k t)) (ed_oI o) (ed_bI b) (nI i) f_length f_tokenCount f_itemCount f_blockCount f_looseCount (nI m) f_operatorCount a_text a_kinds a_starts a_ends a_owners (upd a_meant t (ed_oI o)) a_firsts a_lasts a_sorts a_blocks a_knowns a_values a_around a_depths a_compared a_numbers a_operators) := by
    intro b hb
    subst hb
    refine ⟨pk_in i 80 hi, ed_nuv i _ (ed_nbb _) (pk_eq (k t) 1 (fun h1 => ?_) (fun h1 => ?_))⟩
    · refine ym_number hn hT hS hE hX ht hse (h202 _ ?_)
      unfold mn_tv; rw [if_pos h1]
    · have h0 := ho0 (by omega)
      have htv : mn_tv k (fun t => mn_nv c (en t - st t) (st t) 0) f tb t = xv_o o (fun d => (tb d).2) := by
        unfold mn_tv; rw [if_neg h1, ← h0]; rfl
      cases o with
      | none => exact br_t (by decide) (h202 0 (by rw [htv]; rfl))
      | some d =>
        have hd := hod d h0.symm
        refine br_f (show ¬ nI d < 0 from nI_pos (by omega)) ⟨pk_in d 80 (by omega), h202 _ ?_⟩
        rw [htv]; exact ed_rt (x := ed_oI (some d)) d (hV d hd)
  have eKi : a_knowns (nI i).toNatClampNeg = ed_bI acc := ed_rt i hKi
  cases acc with
  | false => exact br_t eKi (h163 false rfl)
  | true =>
    refine br_f (by show ¬ a_knowns (nI i).toNatClampNeg = 0; rw [eKi]; decide) (pk_eq (k t) 1 (fun h1 => h163 true ?_) (fun h1 => ?_))
    · have : mn_k1 k f tb t = true := by unfold mn_k1; rw [if_neg (by omega)]
      rw [this]; rfl
    · have h0 := ho0 (by omega)
      have hk1 : mn_k1 k f tb t = yw_b o (fun d => (tb d).1) := by unfold mn_k1; rw [if_pos (by omega), ← h0]; rfl
      cases o with
      | none => exact br_t (by decide) (h163 false (by rw [hk1]; rfl))
      | some d =>
        have hd := hod d h0.symm
        have eKd : a_knowns (nI d).toNatClampNeg = ed_bI (tb d).1 := ed_rt d (hK d hd)
        refine br_f (show ¬ nI d < 0 from nI_pos (by omega)) ⟨pk_in d 80 (by omega), ?_⟩
        cases hb : (tb d).1 with
        | false => exact br_t (by show a_knowns (nI d).toNatClampNeg = 0; rw [eKd, hb]; rfl) (h163 false (by rw [hk1]; show false = (true && (tb d).1); rw [hb]; rfl))
        | true => exact br_f (by show ¬ a_knowns (nI d).toNatClampNeg = 0; rw [eKd, hb]; decide) (h163 true (by rw [hk1]; show true = (true && (tb d).1); rw [hb]; rfl))
end
end
section
section
/-! Y's whole reading of the text -/
theorem ev_r6 {k : Nat → Nat} {tv : Nat → Int32} {m t : Nat} {L : ev_L} {r : List ev_L} (h : k t = 6) : ev_r k tv (m + 1) t (L :: r) none = ev_r k tv m (t + 1) ((none, none, none) :: L :: r) none := by
  show (if _ then _ else _) = _
  rw [if_pos h]
theorem ev_rf {k : Nat → Nat} {tv : Nat → Int32} {m t : Nat} {L : ev_L} {r : List ev_L} (h : ¬ k t = 6) : ev_r k tv (m + 1) t (L :: r) none = ev_r k tv m (t + 1) (L :: r) (some (tv t)) := by
  show (if _ then _ else _) = _
  rw [if_neg h]
theorem ev_r7 {k : Nat → Nat} {tv : Nat → Int32} {m t : Nat} {L : ev_L} {r : List ev_L} {v : Int32} (h : k t = 7) : ev_r k tv (m + 1) t (L :: r) (some v) = ev_r k tv m (t + 1) r (some (ev_v L v)) := by
  show (if _ then _ else _) = _
  rw [if_pos h]
theorem ev_r5 {k : Nat → Nat} {tv : Nat → Int32} {m t : Nat} {L : ev_L} {r : List ev_L} {v : Int32} (h : k t = 5) : ev_r k tv (m + 1) t (L :: r) (some v) = ev_r k tv m (t + 1) ((L.1, L.2.1, some (ev_p L v)) :: r) none := by
  show (if _ then _ else _) = _
  rw [if_neg (by omega), if_pos h]
theorem ev_r4 {k : Nat → Nat} {tv : Nat → Int32} {m t : Nat} {L : ev_L} {r : List ev_L} {v : Int32} (h : k t = 4) : ev_r k tv (m + 1) t (L :: r) (some v) = ev_r k tv m (t + 1) ((L.1, some (ev_s L v), none) :: r) none := by
  show (if _ then _ else _) = _
  rw [if_neg (by omega), if_neg (by omega), if_pos h]
theorem ev_r3 {k : Nat → Nat} {tv : Nat → Int32} {m t : Nat} {L : ev_L} {r : List ev_L} {v : Int32} (h : k t = 3) : ev_r k tv (m + 1) t (L :: r) (some v) = ev_r k tv m (t + 1) ((some (ev_s L v), none, none) :: r) none := by
  show (if _ then _ else _) = _
  rw [if_neg (by omega), if_neg (by omega), if_neg (by omega)]
def yp_P (c st en k : Nat → Nat) (T n : Nat) (a_text a_kinds a_starts a_ends a_firsts a_lasts a_sorts a_blocks a_around a_depths : Nat → Int32) : Prop :=
  n ≤ 80 ∧ T ≤ 80 ∧ (∀ q, q < T → st q < en q ∧ en q ≤ n) ∧ (∀ j, j < n → c j ≤ 18) ∧ (∀ t, t < T → k t ≤ 10) ∧ k T = 11
  ∧ ed_ag a_text c n ∧ ed_ag a_kinds k T ∧ ed_ag a_starts st T ∧ ed_ag a_ends en T
  ∧ ed_ag a_firsts (it_fi k (T + 1)) (it_cn k (T + 1)) ∧ ed_ag a_lasts (it_ie k (T + 1)) (it_cn k (T + 1)) ∧ ed_ag a_sorts (mn_so k T) (it_cn k (T + 1))
  ∧ (∀ i, i < it_cn k (T + 1) → a_blocks i = yc_h (it_ik k (T + 1) i)) ∧ (∀ i, i < it_cn k (T + 1) → yc_I a_around a_depths (it_ik k (T + 1) i))
variable {f_length f_tokenCount f_itemCount f_blockCount f_looseCount f_numberCount f_operatorCount : Int32} {a_text a_kinds a_starts a_ends a_owners a_meant a_firsts a_lasts a_sorts a_blocks a_knowns a_values a_around a_depths a_compared a_numbers a_operators : Nat → Int32}
theorem yw_end {post : SY → Prop} {i : Nat} {K : Bool} {x : Int32} (hi : i < 80) (hK : a_knowns i = ed_bI K) (hx : K = true → a_numbers 0 = x) (h : post (f_length, f_tokenCount, f_itemCount, f_blockCount, f_looseCount, f_numberCount, f_operatorCount, a_text, a_kinds, a_starts, a_ends, a_owners, a_meant, a_firsts, a_lasts, a_sorts, a_blocks, a_knowns, upd a_values i (if K then x else 0), a_around, a_depths, a_compared, a_numbers, a_operators)) :
    vp_in (nI i) 80 ∧ ((a_knowns (nI i).toNatClampNeg = 0 → (vp_in (nI i) 80 ∧ ∀ a_values_39, a_values_39 = upd a_values (nI i).toNatClampNeg 0 → post (f_length, f_tokenCount, f_itemCount, f_blockCount, f_looseCount, f_numberCount, f_operatorCount, a_text, a_kinds, a_starts, a_ends, a_owners, a_meant, a_firsts, a_lasts, a_sorts, a_blocks, a_knowns, a_values_39, a_around, a_depths, a_compared, a_numbers, a_operators))) ∧ (¬ a_knowns (nI i).toNatClampNeg = 0 → (vp_in (nI i) 80 ∧ ∀ a_values_41, a_values_41 = upd a_values (nI i).toNatClampNeg (a_numbers 0) → post (f_length, f_tokenCount, f_itemCount, f_blockCount, f_looseCount, f_numberCount, f_operatorCount, a_text, a_kinds, a_starts, a_ends, a_owners, a_meant, a_firsts, a_lasts, a_sorts, a_blocks, a_knowns, a_values_41, a_around, a_depths, a_compared, a_numbers, a_operators)))) := by
  have eK : a_knowns (nI i).toNatClampNeg = ed_bI K := ed_rt i hK
  refine ⟨pk_in i 80 hi, ?_⟩
  cases K with
  | false => exact br_t eK ⟨pk_in i 80 hi, ed_nu i h⟩
  | true => exact br_f (by rw [eK]; decide) ⟨pk_in i 80 hi, ed_nuv i x (hx rfl) h⟩
theorem yw_loop {post : SY → Prop} {c st en k : Nat → Nat} {T n i : Nat} {tb : Nat → Bool × Int32} {K : Bool} (hp : yp_P c st en k T n a_text a_kinds a_starts a_ends a_firsts a_lasts a_sorts a_blocks a_around a_depths) (hi : i < it_cn k (T + 1)) (hso : mn_so k T i ≠ 0) (hV : ∀ d, d < i → a_values d = (tb d).2) :
    ∀ d t, t + d = it_ie k (T + 1) i → mn_es k T i ≤ t → ∀ fu, d < fu → ∀ (L : ev_L) (r : List ev_L) (o : Option Int32) (acc : Bool) (a_meant a_knowns a_numbers a_operators : Nat → Int32),
      2 * ev_t (L :: r) + r.length + ev_b o ≤ t → ex_r k d t o.isNone (ev_cs (L :: r)) = true → ed_sk a_numbers (o.toList ++ ev_N (L :: r)) → ed_sk a_operators (ev_O (L :: r)) →
      ed_ao a_meant (mm_f k T (mn_nm c st en) i t) T → (∀ d, d < i → a_knowns d = ed_bI (tb d).1) → a_knowns i = ed_bI acc → (acc && mn_ak k (fun t => mn_sr k T (mn_nm c st en) i t i) tb d t) = K →
      (∀ (f_numberCount f_operatorCount : Int32) (a_meant a_knowns a_numbers a_operators : Nat → Int32), ed_ao a_meant (mn_mt k T (mn_nm c st en) (i + 1)) T → (∀ d, d < i → a_knowns d = ed_bI (tb d).1) → a_knowns i = ed_bI K →
        post (f_length, f_tokenCount, f_itemCount, f_blockCount, f_looseCount, f_numberCount, f_operatorCount, a_text, a_kinds, a_starts, a_ends, a_owners, a_meant, a_firsts, a_lasts, a_sorts, a_blocks, a_knowns, upd a_values i (if K then ev_r k (mn_tv k (fun t => mn_nv c (en t - st t) (st t) 0) (fun t => mn_sr k T (mn_nm c st en) i t i) tb) d t (L :: r) o else 0), a_around, a_depths, a_compared, a_numbers, a_operators)) →
      (wY_work_60 post (nI i) fu (nI t) f_length f_tokenCount f_itemCount f_blockCount f_looseCount (nI (o.toList ++ ev_N (L :: r)).length) (nI (ev_O (L :: r)).length) a_text a_kinds a_starts a_ends a_owners a_meant a_firsts a_lasts a_sorts a_blocks a_knowns a_values a_around a_depths a_compared a_numbers a_operators) := by
  obtain ⟨h1, h2, h3, h4, h5, h6, h7, h8, h9, h10, h11, h12, h13, h14, h15⟩ := hp
  have hN := it_N h6
  have hE := it_E hi
  have hes := mn_es_ge k T i
  have hs2 : mn_so k T i ≤ 2 := ex_so_le _ _ _
  have eie : a_lasts (nI i).toNatClampNeg = nI (it_ie k (T + 1) i) := ed_rt i (h12 i hi)
  have eso : a_sorts (nI i).toNatClampNeg = nI (mn_so k T i) := ed_rt i (h13 i hi)
  intro d
  induction d with
  | zero =>
    intro t ht hge fu hfu L r o acc ME KN NU OP hinv hex hnu hop hme hK hKi hacc hP
    obtain ⟨fu, rfl⟩ : ∃ g, fu = g + 1 := ⟨fu - 1, by omega⟩
    obtain ⟨q1, q2⟩ := ex_i0 hex
    cases o with
    | none => cases q1
    | some v =>
      cases r with
      | cons M r => unfold ev_cs at q2; rw [List.length_map] at q2; cases q2
      | nil =>
        have hKK : acc = K := by rw [← hacc]; exact (Bool.and_true acc).symm
        have ht2 : t = it_ie k (T + 1) i := by omega
        rw [ht2, mm_e] at hme
        have hO := ev_O_l [L]
        have hNl := ev_N_l [L]
        have hl1 : [L].length = 1 := rfl
        have hl2 : (ev_N [L]).length = (ev_nu L ++ []).length := rfl
        refine ⟨pk_in i 80 (by omega), pk_le (it_ie k (T + 1) i) t (fun _ => ?_) (fun z => by omega) eie⟩
        unfold wY_work_292
        refine yl_c3 (L := L) (r := []) (v := v) (N := []) (by rw [ev_OR] at hO; omega) (by omega) hop hnu (fun NU hn2 => ?_)
        refine yw_end (K := K) (x := ev_v L v) (by omega) (by rw [← hKK]; exact hKi) (fun _ => hn2.1) ?_
        exact hP _ _ ME KN NU OP hme hK (by rw [← hKK]; exact hKi)
  | succ d ih =>
    intro t ht hge fu hfu L r o acc ME KN NU OP hinv hex hnu hop hme hK hKi hacc hP
    obtain ⟨fu, rfl⟩ : ∃ g, fu = g + 1 := ⟨fu - 1, by omega⟩
    have ih := ih (t + 1) (by omega) (by omega) fu (by omega)
    have hkt := h5 t (by omega)
    have hO := ev_O_l (L :: r)
    have hNl := ev_N_l (L :: r)
    rw [List.length_cons] at hO
    have hl2 : (ev_N (L :: r)).length = (ev_nu L ++ ev_N r).length := rfl
    have hO1 : (ev_op L ++ ev_R r).length ≤ 81 := by rw [ev_OR] at hO; omega
    have tL : ev_t (L :: r) = ev_b L.1 + ev_b L.2.1 + ev_b L.2.2 + ev_t r := rfl
    have hb1 := ev_b_le L.1
    have hb2 := ev_b_le L.2.1
    have hb3 := ev_b_le L.2.2
    refine ⟨pk_in i 80 (by omega), pk_le (it_ie k (T + 1) i) t (fun z => by omega) (fun _ => ⟨pk_in i 80 (by omega), pk_le (mn_so k T i) 0 (fun z => by omega) (fun _ => ⟨pk_in t 80 (by omega), ed_rd t (h8 t (by omega)) ?_⟩) eso⟩) eie⟩
    have hakn : ¬ k t = 0 → mn_ak k (fun t => mn_sr k T (mn_nm c st en) i t i) tb (d + 1) t = mn_ak k (fun t => mn_sr k T (mn_nm c st en) i t i) tb d (t + 1) := by
      intro z
      show (mn_k1 k _ tb t && _) = _
      unfold mn_k1; rw [if_neg z, Bool.true_and]
    cases o with
    | none =>
      have hw : ex_r k (d + 1) t true (ev_cs (L :: r)) = true := hex
      have hk := ex_iw hw
      have hbo : ev_b none = 0 := rfl
      refine pk_le 2 (k t) (fun hk2 => ?_) (fun hk2 => ?_)
      · have h6' : k t = 6 := by omega
        rw [ex_w6 h6'] at hw
        rw [hakn (by omega)] at hacc
        have hmm := mm_n (T := T) (nm := mn_nm c st en) (i := i) (show ¬ k t = 0 by omega)
        rw [hmm] at ih
        refine pk_eq (k t) 7 (fun z => by omega) (fun _ => pk_eq (k t) 6 (fun _ => ?_) (fun z => absurd h6' z))
        refine pk_eq (k t) 6 (fun _ => ?_) (fun z => absurd h6' z)
        refine ⟨pk_in (ev_O (L :: r)).length 81 (by omega), ed_nu (ev_O (L :: r)).length (nm_r (nI_1 _) (nm_r (nI_1 t) ?_))⟩
        refine ih (none, none, none) (L :: r) none acc ME KN NU _ ?_ hw hnu (ed_sk_p hop) hme hK hKi hacc (fun NC OC ME KN NU OP m1 m2 m3 => ?_)
        · have t0 : ev_t ((none, none, none) :: L :: r) = 0 + ev_t (L :: r) := rfl
          rw [t0, List.length_cons]; omega
        · have := hP NC OC ME KN NU OP m1 m2 m3
          rw [ev_r6 h6'] at this
          exact this
      · have hk1 : k t ≤ 1 := by omega
        rw [ex_w1 hk1] at hw
        have hfin : ∀ o : Option Nat, (k t = 0 → o = mn_sr k T (mn_nm c st en) i t i) → (k t = 1 → o = none) → (wY_work_114 post (wY_work_60 post (nI i) fu) (nI i) (nI t) (nI (k t)) (ed_oI o) (nI t) f_length f_tokenCount f_itemCount f_blockCount f_looseCount (nI (ev_N (L :: r)).length) (nI (ev_O (L :: r)).length) a_text a_kinds a_starts a_ends a_owners ME a_firsts a_lasts a_sorts a_blocks KN a_values a_around a_depths a_compared NU OP) := by
          intro o ho0 ho1
          have hmt : mn_mt k T (mn_nm c st en) (i + 1) t = o := by
            show (if _ then _ else _) = _
            by_cases z : k t = 0
            · rw [if_pos ⟨hso, hge, by omega, z⟩, ho0 z]
            · rw [if_neg (fun y => z y.2.2.2), ho1 (by omega)]
              exact mn_mt_out hi (by omega)
          refine yw_factor (f := fun t => mn_sr k T (mn_nm c st en) i t i) (tb := tb) (acc := acc) h1 h2 h9 h10 h7 (by omega) (h3 t (by omega)) (by omega) (by omega) hk1 ho0 ho1 (fun x hx => mn_sr_lt hx) hKi hK hV ?_
          refine ih L r (some _) (acc && mn_k1 k (fun t => mn_sr k T (mn_nm c st en) i t i) tb t) _ _ _ OP ?_ hw (ed_sk_p hnu) hop ?_ ?_ pk_us ?_ (fun NC OC ME KN NU OP m1 m2 m3 => ?_)
          · have hbs : ev_b (some (mn_tv k (fun t => mn_nv c (en t - st t) (st t) 0) (fun t => mn_sr k T (mn_nm c st en) i t i) tb t)) = 1 := rfl
            omega
          · rw [mm_s, hmt]
            intro j hj
            by_cases z : j = t
            · subst z; rw [pk_us, ed_fs]
            · rw [pk_un z, ed_fn z]; exact hme j hj
          · intro x hx
            rw [pk_un (by omega)]; exact hK x hx
          · rw [Bool.and_assoc]; exact hacc
          · have := hP NC OC ME KN NU OP m1 m2 m3
            rw [ev_rf (by omega)] at this
            exact this
        refine pk_eq (k t) 0 (fun h0 => ?_) (fun h0 => ?_)
        · refine nm_e ⟨i + 1, ?_⟩
          exact ym_find h1 h2 h9 h10 h7 h3 h4 h6 hi (by omega) h11 h13 h14 h15 i (Nat.le_refl _) _ rfl (i + 1) (by omega) (hfin _ (fun _ => rfl) (fun z => by omega))
        · exact hfin none (fun z => absurd z h0) (fun _ => rfl)
    | some v =>
      have hw : ex_r k (d + 1) t false (L.1.isSome :: ev_cs r) = true := hex
      have hk := ex_if hw
      have hbo : ev_b (some v) = 1 := rfl
      rw [hakn (by omega)] at hacc
      have hmm := mm_n (T := T) (nm := mn_nm c st en) (i := i) (show ¬ k t = 0 by omega)
      rw [hmm] at ih
      refine pk_le 2 (k t) (fun hk2 => ?_) (fun hk2 => by omega)
      refine pk_eq (k t) 7 (fun h7' => ?_) (fun h7' => pk_eq (k t) 6 (fun z => by omega) (fun _ => ?_))
      · cases r with
        | nil =>
          rcases hk with z | z | z | z
          · exact absurd rfl z.2
          · omega
          · omega
          · omega
        | cons M r =>
          have hw2 : ex_r k (d + 1) t false (L.1.isSome :: M.1.isSome :: ev_cs r) = true := hw
          rw [ex_f7 h7'] at hw2
          refine yl_c3 (L := L) (r := M :: r) (v := v) (N := ev_N (M :: r)) hO1 (by omega) hop hnu (fun NU hn2 => ?_)
          refine nm_r (show nI (ev_R (M :: r)).length - 1 = nI (ev_O (M :: r)).length from nI_pred _) (nm_r (nI_1 t) ?_)
          refine ih M r (some (ev_v L v)) acc ME KN NU OP ?_ hw2 hn2 (ed_sk_t (l := ev_op L) hop).2 hme hK hKi hacc (fun NC OC ME KN NU OP m1 m2 m3 => ?_)
          · rw [List.length_cons] at hinv
            have : ev_b (some (ev_v L v)) = 1 := rfl
            omega
          · have := hP NC OC ME KN NU OP m1 m2 m3
            rw [ev_r7 h7'] at this
            exact this
      · have hgo : ∀ (L2 : ev_L) (Q : List Int32) (NU : Nat → Int32), ev_w L2 ≤ ev_w L + 1 → 1 ≤ ev_w L2 → ev_op L2 ++ ev_R r = nI (k t) :: Q → ed_sk OP Q → ed_sk NU (ev_N (L2 :: r)) → ex_r k d (t + 1) true (ev_cs (L2 :: r)) = true →
            (∀ (f_numberCount f_operatorCount : Int32) (a_meant a_knowns a_numbers a_operators : Nat → Int32), ed_ao a_meant (mn_mt k T (mn_nm c st en) (i + 1)) T → (∀ d, d < i → a_knowns d = ed_bI (tb d).1) → a_knowns i = ed_bI K →
              post (f_length, f_tokenCount, f_itemCount, f_blockCount, f_looseCount, f_numberCount, f_operatorCount, a_text, a_kinds, a_starts, a_ends, a_owners, a_meant, a_firsts, a_lasts, a_sorts, a_blocks, a_knowns, upd a_values i (if K then ev_r k (mn_tv k (fun t => mn_nv c (en t - st t) (st t) 0) (fun t => mn_sr k T (mn_nm c st en) i t i) tb) d (t + 1) (L2 :: r) none else 0), a_around, a_depths, a_compared, a_numbers, a_operators)) →
            (wY_work_254 post (wY_work_60 post (nI i) fu) (nI i) (nI t) (nI (k t)) f_length f_tokenCount f_itemCount f_blockCount f_looseCount (nI (ev_N (L2 :: r)).length) (nI Q.length) a_text a_kinds a_starts a_ends a_owners ME a_firsts a_lasts a_sorts a_blocks KN a_values a_around a_depths a_compared NU OP) := by
          intro L2 Q NU w1 w2 hQ hs hnu2 hex2 hP2
          have t2 : ev_t (L2 :: r) = ev_w L2 + ev_t r := rfl
          have wL : ev_t (L :: r) = ev_w L + ev_t r := rfl
          have hO2 := ev_O_l (L2 :: r)
          rw [ev_OR, hQ, List.length_cons, List.length_cons] at hO2
          refine pk_eq (k t) 6 (fun z => by omega) (fun _ => ?_)
          refine ⟨pk_in Q.length 81 (by omega), ed_nu Q.length (nm_r (nI_1 _) (nm_r (nI_1 t) ?_))⟩
          have hop2 : ed_sk (upd OP Q.length (nI (k t))) (ev_O (L2 :: r)) := by rw [ev_OR, hQ]; exact ed_sk_p hs
          have res := ih L2 r none acc ME KN NU (upd OP Q.length (nI (k t))) (by have : ev_b none = 0 := rfl; omega) hex2 hnu2 hop2 hme hK hKi hacc hP2
          rw [ev_OR, hQ, List.length_cons] at res
          exact res
        by_cases h5' : k t = 5
        · rw [ex_f4 (by omega)] at hw
          rw [h5']
          refine yl_c5 (L := L) (r := r) (v := v) (N := ev_N r) hO1 (by omega) hop hnu (fun NU hn2 => ?_)
          have g := hgo (L.1, L.2.1, some (ev_p L v)) (ev_op (L.1, L.2.1, none) ++ ev_R r) NU ?_ ?_ (by rw [h5']; rfl) ?_ hn2 hw (fun NC OC ME KN NU OP m1 m2 m3 => ?_)
          · rw [h5'] at g; exact g
          · show ev_b L.1 + ev_b L.2.1 + 1 ≤ ev_b L.1 + ev_b L.2.1 + ev_b L.2.2 + 1; omega
          · show 1 ≤ ev_b L.1 + ev_b L.2.1 + 1; omega
          · obtain ⟨x1, x2, x3⟩ := L
            cases x3 with
            | none => exact hop
            | some x3 => exact hop.2
          · have := hP NC OC ME KN NU OP m1 m2 m3
            rw [ev_r5 h5'] at this
            exact this
        · by_cases h4' : k t = 4
          · rw [ex_f4 (by omega)] at hw
            rw [h4']
            refine yl_c4 (L := L) (r := r) (v := v) (N := ev_N r) hO1 (by omega) hop hnu (fun NU hn2 => ?_)
            have g := hgo (L.1, some (ev_s L v), none) (ev_op (L.1, none, none) ++ ev_R r) NU ?_ ?_ (by rw [h4']; rfl) ?_ hn2 hw (fun NC OC ME KN NU OP m1 m2 m3 => ?_)
            · rw [h4'] at g; exact g
            · show ev_b L.1 + 1 + 0 ≤ ev_b L.1 + ev_b L.2.1 + ev_b L.2.2 + 1; omega
            · show 1 ≤ ev_b L.1 + 1 + 0; omega
            · obtain ⟨x1, x2, x3⟩ := L
              cases x3 with
              | none =>
                cases x2 with
                | none => exact hop
                | some x2 => exact hop.2
              | some x3 =>
                cases x2 with
                | none => exact hop.2
                | some x2 => exact hop.2.2
            · have := hP NC OC ME KN NU OP m1 m2 m3
              rw [ev_r4 h4'] at this
              exact this
          · have h3' : k t = 3 := by omega
            have hLn : L.1.isSome = false := by
              rcases hk with z | z | z | z
              · omega
              · omega
              · omega
              · exact z.2
            have hL1 : L.1 = none := by
              cases hx : L.1 with
              | none => rfl
              | some x => rw [hx] at hLn; cases hLn
            have hvs : ev_v L v = ev_s L v := by unfold ev_v; rw [hL1]
            rw [hLn, ex_f3 h3'] at hw
            rw [h3']
            refine yl_c3 (L := L) (r := r) (v := v) (N := ev_N r) hO1 (by omega) hop hnu (fun NU hn2 => ?_)
            have g := hgo (some (ev_v L v), none, none) (ev_R r) NU ?_ ?_ (by rw [h3']; rfl) (ed_sk_t hop) hn2 hw (fun NC OC ME KN NU OP m1 m2 m3 => ?_)
            · rw [h3'] at g; exact g
            · show 1 + 0 + 0 ≤ ev_b L.1 + ev_b L.2.1 + ev_b L.2.2 + 1; omega
            · show 1 ≤ 1 + 0 + 0; omega
            · have := hP NC OC ME KN NU OP m1 m2 m3
              rw [ev_r3 h3'] at this
              rw [hvs]; exact this
end
end
section
section
/-! Y's whole reading, put together -/
variable {f_length f_tokenCount f_itemCount f_blockCount f_looseCount f_numberCount f_operatorCount : Int32} {a_text a_kinds a_starts a_ends a_owners a_meant a_firsts a_lasts a_sorts a_blocks a_knowns a_values a_around a_depths a_compared a_numbers a_operators : Nat → Int32}
theorem yw_work {post : SY → Prop} {c st en k : Nat → Nat} {T n i : Nat} (hp : yp_P c st en k T n a_text a_kinds a_starts a_ends a_firsts a_lasts a_sorts a_blocks a_around a_depths) (hi : i < it_cn k (T + 1))
    (hM : ed_ao a_meant (mn_mt k T (mn_nm c st en) i) T)
    (hK : ed_ab a_knowns (fun j => (mn_kv k T (mn_nm c st en) (fun t => mn_nv c (en t - st t) (st t) 0) i j).1) i) (hV : ed_av a_values (fun j => (mn_kv k T (mn_nm c st en) (fun t => mn_nv c (en t - st t) (st t) 0) i j).2) i)
    (hP : ∀ (f_numberCount f_operatorCount : Int32) (a_meant a_knowns a_values a_numbers a_operators : Nat → Int32), ed_ao a_meant (mn_mt k T (mn_nm c st en) (i + 1)) T → ed_ab a_knowns (fun j => (mn_kv k T (mn_nm c st en) (fun t => mn_nv c (en t - st t) (st t) 0) (i + 1) j).1) (i + 1) → ed_av a_values (fun j => (mn_kv k T (mn_nm c st en) (fun t => mn_nv c (en t - st t) (st t) 0) (i + 1) j).2) (i + 1) → post (f_length, f_tokenCount, f_itemCount, f_blockCount, f_looseCount, f_numberCount, f_operatorCount, a_text, a_kinds, a_starts, a_ends, a_owners, a_meant, a_firsts, a_lasts, a_sorts, a_blocks, a_knowns, a_values, a_around, a_depths, a_compared, a_numbers, a_operators)) :
    wpY_work post (f_length, f_tokenCount, f_itemCount, f_blockCount, f_looseCount, f_numberCount, f_operatorCount, a_text, a_kinds, a_starts, a_ends, a_owners, a_meant, a_firsts, a_lasts, a_sorts, a_blocks, a_knowns, a_values, a_around, a_depths, a_compared, a_numbers, a_operators) (nI i) := by
  have hp2 := hp
  obtain ⟨h1, h2, h3, h4, h5, h6, h7, h8, h9, h10, h11, h12, h13, h14, h15⟩ := hp
  have hN := it_N h6
  have hE := it_E hi
  have hs2 : mn_so k T i ≤ 2 := ex_so_le _ _ _
  have eso : a_sorts (nI i).toNatClampNeg = nI (mn_so k T i) := ed_rt i (h13 i hi)
  have hfin : ∀ (f_numberCount f_operatorCount : Int32) (a_meant a_knowns a_numbers a_operators : Nat → Int32) (b : Bool) (x : Int32), mn_iv k T (mn_nm c st en) (fun t => mn_nv c (en t - st t) (st t) 0) (mn_kv k T (mn_nm c st en) (fun t => mn_nv c (en t - st t) (st t) 0) i) i = (b, x) → ed_ao a_meant (mn_mt k T (mn_nm c st en) (i + 1)) T → (∀ d, d < i → a_knowns d = ed_bI (mn_kv k T (mn_nm c st en) (fun t => mn_nv c (en t - st t) (st t) 0) i d).1) → a_knowns i = ed_bI b → post (f_length, f_tokenCount, f_itemCount, f_blockCount, f_looseCount, f_numberCount, f_operatorCount, a_text, a_kinds, a_starts, a_ends, a_owners, a_meant, a_firsts, a_lasts, a_sorts, a_blocks, a_knowns, upd a_values i x, a_around, a_depths, a_compared, a_numbers, a_operators) := by
    intro NC OC ME KN NU OP b x hiv m1 m2 m3
    refine hP NC OC ME KN _ NU OP m1 ?_ ?_
    · intro j hj
      show KN j = ed_bI (ed_fu (mn_kv k T (mn_nm c st en) (fun t => mn_nv c (en t - st t) (st t) 0) i) i (mn_iv k T (mn_nm c st en) (fun t => mn_nv c (en t - st t) (st t) 0) (mn_kv k T (mn_nm c st en) (fun t => mn_nv c (en t - st t) (st t) 0) i) i) j).1
      by_cases z : j = i
      · subst z; rw [ed_fs, hiv]; exact m3
      · rw [ed_fn z]; exact m2 j (by omega)
    · intro j hj
      show upd a_values i x j = (ed_fu (mn_kv k T (mn_nm c st en) (fun t => mn_nv c (en t - st t) (st t) 0) i) i (mn_iv k T (mn_nm c st en) (fun t => mn_nv c (en t - st t) (st t) 0) (mn_kv k T (mn_nm c st en) (fun t => mn_nv c (en t - st t) (st t) 0) i) i) j).2
      by_cases z : j = i
      · subst z; rw [ed_fs, hiv, pk_us]
      · rw [ed_fn z, pk_un z]; exact hV j (by omega)
  refine ⟨pk_in i 80 (by omega), pk_le (mn_so k T i) 0 (fun h0 => ?_) (fun h0 => ?_) eso⟩
  · have hso0 : mn_so k T i = 0 := by omega
    refine ⟨pk_in i 80 (by omega), ed_nuv i (ed_bI false) ed_nb0 ⟨pk_in i 80 (by omega), br_f (by rw [eso, hso0]; decide) ⟨pk_in i 80 (by omega), ed_rd i (h11 i hi) ⟨1, ?_⟩⟩⟩⟩
    have e12 : a_lasts (nI i).toNatClampNeg = nI (it_ie k (T + 1) i) := ed_rt i (h12 i hi)
    refine ⟨pk_in i 80 (by omega), pk_le (it_ie k (T + 1) i) (it_fi k (T + 1) i) (fun z => by omega) (fun _ => ⟨pk_in i 80 (by omega), br_t (by rw [eso, hso0]; decide) ?_⟩) e12⟩
    unfold wY_work_292
    refine ⟨1, br_t (by decide) ?_⟩
    refine yw_end (K := false) (x := 0) (by omega) pk_us (fun z => by cases z) ?_
    refine hfin _ _ _ _ _ _ false 0 ?_ ?_ (fun x hx => ?_) pk_us
    · unfold mn_iv; rw [if_neg (fun z => z.1 hso0)]
    · rw [mm_w hso0]; exact hM
    · rw [pk_un (by omega)]; exact hK x hx
  · have hso : mn_so k T i ≠ 0 := by omega
    obtain ⟨hex, hle⟩ := ex_so_ex hE.1 hso
    have hle : mn_es k T i ≤ it_ie k (T + 1) i := hle
    have hes := mn_es_ge k T i
    have hgo : ∃ n60 : Nat, (wY_work_60 post (nI i) n60 (nI (mn_es k T i)) f_length f_tokenCount f_itemCount f_blockCount f_looseCount 0 0 a_text a_kinds a_starts a_ends a_owners a_meant a_firsts a_lasts a_sorts a_blocks (upd a_knowns i (ed_bI true)) a_values a_around a_depths a_compared a_numbers a_operators) := by
      refine ⟨it_ie k (T + 1) i - mn_es k T i + 1, ?_⟩
      refine yw_loop (tb := mn_kv k T (mn_nm c st en) (fun t => mn_nv c (en t - st t) (st t) 0) i) (K := mn_ak k (fun t => mn_sr k T (mn_nm c st en) i t i) (mn_kv k T (mn_nm c st en) (fun t => mn_nv c (en t - st t) (st t) 0) i) (it_ie k (T + 1) i - mn_es k T i) (mn_es k T i)) hp2 hi hso hV (it_ie k (T + 1) i - mn_es k T i) (mn_es k T i) (by omega) (Nat.le_refl _) _ (by omega) (none, none, none) [] none true a_meant _ a_numbers a_operators ?_ hex trivial trivial ?_ (fun x hx => ?_) pk_us (Bool.true_and _) (fun NC OC ME KN NU OP m1 m2 m3 => ?_)
      · exact Nat.zero_le _
      · rw [mm_0]; exact hM
      · rw [pk_un (by omega)]; exact hK x hx
      · refine hfin NC OC ME KN NU OP _ _ ?_ m1 m2 m3
        unfold mn_iv
        cases hak : mn_ak k (fun t => mn_sr k T (mn_nm c st en) i t i) (mn_kv k T (mn_nm c st en) (fun t => mn_nv c (en t - st t) (st t) 0) i) (it_ie k (T + 1) i - mn_es k T i) (mn_es k T i) with
        | true => rw [if_pos ⟨hso, rfl⟩]; rfl
        | false => rw [if_neg (fun z => by cases z.2)]; rfl
    refine ⟨pk_in i 80 (by omega), ed_nuv i (ed_bI true) ed_nb1 ⟨pk_in i 80 (by omega), pk_eq (mn_so k T i) 2 (fun z2 => ⟨pk_in i 80 (by omega), ?_⟩) (fun z2 => ⟨pk_in i 80 (by omega), ?_⟩) eso⟩⟩
    · have e : mn_es k T i = it_fi k (T + 1) i + 2 := by unfold mn_es ex_es; rw [if_pos z2]
      rw [e] at hgo
      refine nm_r (e' := nI (it_fi k (T + 1) i + 2)) ?_ hgo
      rw [ed_rt i (h11 i hi)]; exact nI_add _ 2
    · have e : mn_es k T i = it_fi k (T + 1) i := by unfold mn_es ex_es; rw [if_neg z2]
      rw [e] at hgo
      exact ed_rd i (h11 i hi) hgo
theorem yr_items {post : SY → Prop} {c st en k : Nat → Nat} {T n : Nat} (hp : yp_P c st en k T n a_text a_kinds a_starts a_ends a_firsts a_lasts a_sorts a_blocks a_around a_depths)
    (hP : ∀ (f_numberCount f_operatorCount : Int32) (a_meant a_knowns a_values a_numbers a_operators : Nat → Int32), ed_ao a_meant (mn_mt k T (mn_nm c st en) (it_cn k (T + 1))) T → ed_ab a_knowns (fun j => (mn_kv k T (mn_nm c st en) (fun t => mn_nv c (en t - st t) (st t) 0) (it_cn k (T + 1)) j).1) (it_cn k (T + 1)) → ed_av a_values (fun j => (mn_kv k T (mn_nm c st en) (fun t => mn_nv c (en t - st t) (st t) 0) (it_cn k (T + 1)) j).2) (it_cn k (T + 1)) → post (f_length, f_tokenCount, nI (it_cn k (T + 1)), f_blockCount, f_looseCount, f_numberCount, f_operatorCount, a_text, a_kinds, a_starts, a_ends, a_owners, a_meant, a_firsts, a_lasts, a_sorts, a_blocks, a_knowns, a_values, a_around, a_depths, a_compared, a_numbers, a_operators)) :
    ∀ d i, i + d = it_cn k (T + 1) → ∀ fu, d < fu → ∀ (f_numberCount f_operatorCount : Int32) (a_meant a_knowns a_values a_numbers a_operators : Nat → Int32), ed_ao a_meant (mn_mt k T (mn_nm c st en) i) T → ed_ab a_knowns (fun j => (mn_kv k T (mn_nm c st en) (fun t => mn_nv c (en t - st t) (st t) 0) i j).1) i → ed_av a_values (fun j => (mn_kv k T (mn_nm c st en) (fun t => mn_nv c (en t - st t) (st t) 0) i j).2) i →
      (wY_read_10 post fu (nI i) f_length f_tokenCount (nI (it_cn k (T + 1))) f_blockCount f_looseCount f_numberCount f_operatorCount a_text a_kinds a_starts a_ends a_owners a_meant a_firsts a_lasts a_sorts a_blocks a_knowns a_values a_around a_depths a_compared a_numbers a_operators) := by
  have hN := it_N hp.2.2.2.2.2.1
  have hT := hp.2.1
  intro d
  induction d with
  | zero =>
    intro i hi fu hfu NC OC ME KN VA NU OP g1 g2 g3
    obtain ⟨fu, rfl⟩ : ∃ g, fu = g + 1 := ⟨fu - 1, by omega⟩
    have e : i = it_cn k (T + 1) := by omega
    rw [e] at g1 g2 g3
    rw [e]
    exact br_t (nI_le (Nat.le_refl _) (by omega)) (hP NC OC ME KN VA NU OP g1 g2 g3)
  | succ d ih =>
    intro i hi fu hfu NC OC ME KN VA NU OP g1 g2 g3
    obtain ⟨fu, rfl⟩ : ∃ g, fu = g + 1 := ⟨fu - 1, by omega⟩
    refine br_f (nI_ge (by omega) (by omega)) ?_
    refine yw_work hp (by omega) g1 g2 g3 (fun NC OC ME KN VA NU OP m1 m2 m3 => ?_)
    exact nm_r (nI_1 i) (ih (i + 1) (by omega) fu (by omega) NC OC ME KN VA NU OP m1 m2 m3)
def yd_D (c : Nat → Nat) (n : Nat) (f_tokenCount f_itemCount f_looseCount : Int32) (a_kinds a_starts a_ends a_owners a_meant a_firsts a_sorts a_blocks a_knowns a_values a_around a_depths : Nat → Int32) : Prop :=
  f_tokenCount = nI (pq_T c n) ∧ f_itemCount = nI (pq_N c n) ∧ f_looseCount = nI (pq_L c n)
  ∧ ed_ag a_kinds (pq_K c n) (pq_T c n) ∧ ed_ag a_starts (pq_S c n) (pq_T c n) ∧ ed_ag a_ends (pq_E c n) (pq_T c n) ∧ ed_ao a_owners (it_ow (pq_K c n)) (pq_T c n) ∧ ed_ao a_meant (pq_M c n) (pq_T c n)
  ∧ ed_ag a_firsts (it_fi (pq_K c n) (pq_T c n + 1)) (pq_N c n) ∧ ed_ag a_sorts (mn_so (pq_K c n) (pq_T c n)) (pq_N c n)
  ∧ (∀ i, i < pq_N c n → a_blocks i = yc_h (it_ik (pq_K c n) (pq_T c n + 1) i)) ∧ (∀ i, i < pq_N c n → yc_I a_around a_depths (it_ik (pq_K c n) (pq_T c n + 1) i))
  ∧ ed_ab a_knowns (fun i => (pq_V c n i).1) (pq_N c n) ∧ ed_av a_values (fun i => (pq_V c n i).2) (pq_N c n)
theorem yr_read {post : SY → Prop} {c : Nat → Nat} {n : Nat} (hn : n ≤ 80) (hc : ∀ j, j < n → c j ≤ 18) (hX : ed_ag a_text c n)
    (hP : ∀ (f_tokenCount f_itemCount f_blockCount f_looseCount f_numberCount f_operatorCount : Int32) (a_kinds a_starts a_ends a_owners a_meant a_firsts a_lasts a_sorts a_blocks a_knowns a_values a_around a_depths a_compared a_numbers a_operators : Nat → Int32),
      yd_D c n f_tokenCount f_itemCount f_looseCount a_kinds a_starts a_ends a_owners a_meant a_firsts a_sorts a_blocks a_knowns a_values a_around a_depths → post (nI n, f_tokenCount, f_itemCount, f_blockCount, f_looseCount, f_numberCount, f_operatorCount, a_text, a_kinds, a_starts, a_ends, a_owners, a_meant, a_firsts, a_lasts, a_sorts, a_blocks, a_knowns, a_values, a_around, a_depths, a_compared, a_numbers, a_operators)) : wpY_read post (nI n, f_tokenCount, f_itemCount, f_blockCount, f_looseCount, f_numberCount, f_operatorCount, a_text, a_kinds, a_starts, a_ends, a_owners, a_meant, a_firsts, a_lasts, a_sorts, a_blocks, a_knowns, a_values, a_around, a_depths, a_compared, a_numbers, a_operators) := by
  obtain ⟨p1, p2, p3, p4⟩ := pq_f hn hc
  have hN : pq_N c n ≤ pq_T c n := it_N p4
  unfold wpY_read
  refine yt_read hn hc hX (fun KI ST EN OW ME g1 g2 g3 g4 g5 => ?_)
  have g1 := pq_k g1
  have hkk : ∀ t, t < pq_T c n + 1 → pq_K c n t < 100 := by
    intro t ht
    by_cases z : t = pq_T c n
    · rw [z, p4]; omega
    · have := p3 t (by omega); omega
  refine yi_read (k := pq_K c n) (T := pq_T c n) p1 g1 hkk p4 g4 (fun BC LC OW FI LA SO BL AR DE CO q1 q2 => ?_)
  obtain ⟨r1, r2, r3, r4, r5, r6, r7, r8, r9⟩ := q2
  have hp : yp_P c (pq_S c n) (pq_E c n) (pq_K c n) (pq_T c n) n a_text KI ST EN FI LA SO BL AR DE := ⟨hn, p1, p2, hc, p3, p4, hX, g1, g2, g3, r4, r5, r6, r7, r8⟩
  refine ⟨pq_N c n + 1, ?_⟩
  refine yr_items hp (fun NC OC ME KN VA NU OP m1 m2 m3 => ?_) (pq_N c n) 0 (Nat.zero_add _) _ (by omega) _ _ _ _ _ _ _ (fun t ht => g5 t ht) (fun j hj => absurd hj (Nat.not_lt_zero _)) (fun j hj => absurd hj (Nat.not_lt_zero _))
  exact hP _ _ _ _ _ _ _ _ _ _ _ _ _ _ _ _ _ _ _ _ _ _ ⟨rfl, rfl, rfl, g1, g2, g3, q1, m1, r4, r6, r7, r8, m2, m3⟩
end
end
section
section
/-! the relation, and what the questions answer -/
def ed_RX (c : Nat → Nat) (n : Nat) (u : SX) : Prop := match u with
  | (f_size, f_tokenCount, f_itemCount, f_blockCount, f_openCount, f_looseCount, a_text, a_characterToken, a_tokenKind, a_tokenStart, a_tokenEnd, a_tokenItem, a_tokenMeaning, a_itemFirst, a_itemEnd, a_itemSort, a_itemDepth, a_itemBlock, a_itemUses, a_itemKnown, a_itemValue, a_blockEnd, a_openBlocks, a_levelCompares, a_levelLeft, a_levelSum, a_levelProduct) => f_size = nI n ∧ ed_ag a_text c n ∧ xd_D c n f_tokenCount f_itemCount f_looseCount a_characterToken a_tokenKind a_tokenStart a_tokenItem a_tokenMeaning a_itemFirst a_itemSort a_itemDepth a_itemUses a_itemKnown a_itemValue
def ed_RY (c : Nat → Nat) (n : Nat) (v : SY) : Prop := match v with
  | (f_length, f_tokenCount, f_itemCount, f_blockCount, f_looseCount, f_numberCount, f_operatorCount, a_text, a_kinds, a_starts, a_ends, a_owners, a_meant, a_firsts, a_lasts, a_sorts, a_blocks, a_knowns, a_values, a_around, a_depths, a_compared, a_numbers, a_operators) => f_length = nI n ∧ ed_ag a_text c n
/-- X holds the text and what reading it gives, Y the same text -/
def i_Rel (k : Nat) (u : SX) (v : SY) : Prop := ∃ (c : Nat → Nat) (n : Nat), n ≤ 80 ∧ (∀ j, j < n → c j ≤ 18) ∧ ed_RX c n u ∧ ed_RY c n v
theorem i_up {k : Nat} {u : SX} {v : SY} (h : i_Rel k u v) : i_Rel (k + 5) u v := h
def qa (T : Nat) (f : Nat → Int32) (d : Int32) (x : Int32) : Int32 := if x < 0 ∨ nI T ≤ x then d else f x.toNatClampNeg
theorem qa_lo {T : Nat} {f : Nat → Int32} {d x : Int32} (h : x < 0 ∨ nI T ≤ x) : qa T f d x = d := by unfold qa; rw [if_pos h]
theorem qa_hi {T j : Nat} {f : Nat → Int32} {d : Int32} (hT : T ≤ 80) (h : j < T) : qa T f d (nI j) = f j := by
  unfold qa
  rw [if_neg, nI_clamp (by omega)]
  intro z
  cases z with
  | inl z => exact nI_pos (by omega) z
  | inr z => exact nI_ge h (by omega) z
theorem ed_ix (x : Int32) {n : Nat} (hn : n ≤ 80) : x < 0 ∨ (¬ x < 0 ∧ nI n ≤ x) ∨ ∃ j : Nat, j < n ∧ x = nI j := by
  by_cases h : x < 0
  · exact Or.inl h
  · rcases pk_ix x (n := n) (by omega) with z | z | z
    · exact absurd z h
    · exact Or.inr (Or.inl ⟨h, z⟩)
    · exact Or.inr (Or.inr z)
theorem mn_kv_0 {k : Nat → Nat} {T : Nat} {nm : Nat → Nat → Bool} {nu : Nat → Int32} {i : Nat} : ∀ {j : Nat}, (mn_kv k T nm nu j i).1 = false → (mn_kv k T nm nu j i).2 = 0 := by
  intro j
  induction j with
  | zero => intro _; rfl
  | succ j ih =>
    show (ed_fu (mn_kv k T nm nu j) j (mn_iv k T nm nu (mn_kv k T nm nu j) j) i).1 = false → (ed_fu (mn_kv k T nm nu j) j (mn_iv k T nm nu (mn_kv k T nm nu j) j) i).2 = 0
    by_cases z : i = j
    · subst z
      rw [ed_fs]
      unfold mn_iv
      split
      · intro h; cases h
      · intro _; rfl
    · rw [ed_fn z]; exact ih
theorem pq_V0 {c : Nat → Nat} {n i : Nat} (h : (pq_V c n i).1 = false) : (pq_V c n i).2 = 0 := mn_kv_0 h
theorem pq_b {c : Nat → Nat} {n : Nat} (hn : n ≤ 80) (hc : ∀ j, j < n → c j ≤ 18) : pq_T c n ≤ 80 ∧ pq_N c n ≤ 80 := by
  obtain ⟨p1, p2, p3, p4⟩ := pq_f hn hc
  have hN : pq_N c n ≤ pq_T c n := it_N p4
  exact ⟨p1, by omega⟩
end
section
theorem xq_kind {post : Int32 → Prop} {c : Nat → Nat} {n : Nat} {u : SX} {x : Int32} (hn : n ≤ 80) (hc : ∀ j, j < n → c j ≤ 18) (hX : ed_RX c n u) (h : post (qa (pq_T c n) (fun j => nI (pq_K c n j)) (-3) x)) : wpX_kind post u x := by
  obtain ⟨f_size, f_tokenCount, f_itemCount, f_blockCount, f_openCount, f_looseCount, a_text, a_characterToken, a_tokenKind, a_tokenStart, a_tokenEnd, a_tokenItem, a_tokenMeaning, a_itemFirst, a_itemEnd, a_itemSort, a_itemDepth, a_itemBlock, a_itemUses, a_itemKnown, a_itemValue, a_blockEnd, a_openBlocks, a_levelCompares, a_levelLeft, a_levelSum, a_levelProduct⟩ := u
  obtain ⟨rfl, hT, hD⟩ := hX
  obtain ⟨rfl, rfl, rfl, d4, d5, d6, d7, d8, d9, d10, d11, d12, d13, d14⟩ := hD
  obtain ⟨hTT, hNN⟩ := pq_b hn hc
  unfold wpX_kind
  rcases ed_ix x (n := (pq_T c n)) (by omega) with z | z | ⟨j, hj, rfl⟩
  · rw [qa_lo (Or.inl z)] at h
    exact br_t z (br_t rfl h)
  · rw [qa_lo (Or.inr z.2)] at h
    exact br_f z.1 (br_t z.2 (br_t rfl h))
  · rw [qa_hi (by omega) hj] at h
    refine br_f (nI_pos (by omega)) (br_f (nI_ge hj (by omega)) (br_f (by decide) ⟨pk_in j 80 (by omega), ?_⟩))
    rw [ed_rt j (d5 j hj)]; exact h
theorem yq_kind {post : Int32 → SY → Prop} {c : Nat → Nat} {n : Nat} {v : SY} {x : Int32} (hn : n ≤ 80) (hc : ∀ j, j < n → c j ≤ 18) (hY : ed_RY c n v) (h : ∀ v', ed_RY c n v' → post (qa (pq_T c n) (fun j => nI (pq_K c n j)) (-3) x) v') : wpY_kind post v x := by
  obtain ⟨f_length, f_tokenCount, f_itemCount, f_blockCount, f_looseCount, f_numberCount, f_operatorCount, a_text, a_kinds, a_starts, a_ends, a_owners, a_meant, a_firsts, a_lasts, a_sorts, a_blocks, a_knowns, a_values, a_around, a_depths, a_compared, a_numbers, a_operators⟩ := v
  obtain ⟨rfl, hT⟩ := hY
  obtain ⟨hTT, hNN⟩ := pq_b hn hc
  unfold wpY_kind wpY_isToken
  dsimp only
  refine yr_read hn hc hT (fun f_tokenCount f_itemCount f_blockCount f_looseCount f_numberCount f_operatorCount a_kinds a_starts a_ends a_owners a_meant a_firsts a_lasts a_sorts a_blocks a_knowns a_values a_around a_depths a_compared a_numbers a_operators hD => ?_)
  obtain ⟨rfl, rfl, rfl, e4, e5, e6, e7, e8, e9, e10, e11, e12, e13, e14⟩ := hD
  have h := h (nI n, nI (pq_T c n), nI (pq_N c n), f_blockCount, nI (pq_L c n), f_numberCount, f_operatorCount, a_text, a_kinds, a_starts, a_ends, a_owners, a_meant, a_firsts, a_lasts, a_sorts, a_blocks, a_knowns, a_values, a_around, a_depths, a_compared, a_numbers, a_operators) ⟨rfl, hT⟩
  rcases ed_ix x (n := (pq_T c n)) (by omega) with z | z | ⟨j, hj, rfl⟩
  · rw [qa_lo (Or.inl z)] at h
    exact br_t z (br_t rfl h)
  · rw [qa_lo (Or.inr z.2)] at h
    exact br_f z.1 (br_t z.2 (br_t rfl h))
  · rw [qa_hi (by omega) hj] at h
    have h2 : post (a_kinds (nI j).toNatClampNeg) (nI n, nI (pq_T c n), nI (pq_N c n), f_blockCount, nI (pq_L c n), f_numberCount, f_operatorCount, a_text, a_kinds, a_starts, a_ends, a_owners, a_meant, a_firsts, a_lasts, a_sorts, a_blocks, a_knowns, a_values, a_around, a_depths, a_compared, a_numbers, a_operators) := by
      rw [ed_rt j (e4 j hj)]; exact h
    exact br_f (nI_pos (by omega)) (br_f (nI_ge hj (by omega)) (br_f (by decide) ⟨pk_in j 80 (by omega), h2⟩))
theorem xq_start {post : Int32 → Prop} {c : Nat → Nat} {n : Nat} {u : SX} {x : Int32} (hn : n ≤ 80) (hc : ∀ j, j < n → c j ≤ 18) (hX : ed_RX c n u) (h : post (qa (pq_T c n) (fun j => nI (pq_S c n j)) (-3) x)) : wpX_start post u x := by
  obtain ⟨f_size, f_tokenCount, f_itemCount, f_blockCount, f_openCount, f_looseCount, a_text, a_characterToken, a_tokenKind, a_tokenStart, a_tokenEnd, a_tokenItem, a_tokenMeaning, a_itemFirst, a_itemEnd, a_itemSort, a_itemDepth, a_itemBlock, a_itemUses, a_itemKnown, a_itemValue, a_blockEnd, a_openBlocks, a_levelCompares, a_levelLeft, a_levelSum, a_levelProduct⟩ := u
  obtain ⟨rfl, hT, hD⟩ := hX
  obtain ⟨rfl, rfl, rfl, d4, d5, d6, d7, d8, d9, d10, d11, d12, d13, d14⟩ := hD
  obtain ⟨hTT, hNN⟩ := pq_b hn hc
  unfold wpX_start
  rcases ed_ix x (n := (pq_T c n)) (by omega) with z | z | ⟨j, hj, rfl⟩
  · rw [qa_lo (Or.inl z)] at h
    exact br_t z (br_t rfl h)
  · rw [qa_lo (Or.inr z.2)] at h
    exact br_f z.1 (br_t z.2 (br_t rfl h))
  · rw [qa_hi (by omega) hj] at h
    refine br_f (nI_pos (by omega)) (br_f (nI_ge hj (by omega)) (br_f (by decide) ⟨pk_in j 80 (by omega), ?_⟩))
    rw [ed_rt j (d6 j hj)]; exact h
theorem yq_start {post : Int32 → SY → Prop} {c : Nat → Nat} {n : Nat} {v : SY} {x : Int32} (hn : n ≤ 80) (hc : ∀ j, j < n → c j ≤ 18) (hY : ed_RY c n v) (h : ∀ v', ed_RY c n v' → post (qa (pq_T c n) (fun j => nI (pq_S c n j)) (-3) x) v') : wpY_start post v x := by
  obtain ⟨f_length, f_tokenCount, f_itemCount, f_blockCount, f_looseCount, f_numberCount, f_operatorCount, a_text, a_kinds, a_starts, a_ends, a_owners, a_meant, a_firsts, a_lasts, a_sorts, a_blocks, a_knowns, a_values, a_around, a_depths, a_compared, a_numbers, a_operators⟩ := v
  obtain ⟨rfl, hT⟩ := hY
  obtain ⟨hTT, hNN⟩ := pq_b hn hc
  unfold wpY_start wpY_isToken
  dsimp only
  refine yr_read hn hc hT (fun f_tokenCount f_itemCount f_blockCount f_looseCount f_numberCount f_operatorCount a_kinds a_starts a_ends a_owners a_meant a_firsts a_lasts a_sorts a_blocks a_knowns a_values a_around a_depths a_compared a_numbers a_operators hD => ?_)
  obtain ⟨rfl, rfl, rfl, e4, e5, e6, e7, e8, e9, e10, e11, e12, e13, e14⟩ := hD
  have h := h (nI n, nI (pq_T c n), nI (pq_N c n), f_blockCount, nI (pq_L c n), f_numberCount, f_operatorCount, a_text, a_kinds, a_starts, a_ends, a_owners, a_meant, a_firsts, a_lasts, a_sorts, a_blocks, a_knowns, a_values, a_around, a_depths, a_compared, a_numbers, a_operators) ⟨rfl, hT⟩
  rcases ed_ix x (n := (pq_T c n)) (by omega) with z | z | ⟨j, hj, rfl⟩
  · rw [qa_lo (Or.inl z)] at h
    exact br_t z (br_t rfl h)
  · rw [qa_lo (Or.inr z.2)] at h
    exact br_f z.1 (br_t z.2 (br_t rfl h))
  · rw [qa_hi (by omega) hj] at h
    have h2 : post (a_starts (nI j).toNatClampNeg) (nI n, nI (pq_T c n), nI (pq_N c n), f_blockCount, nI (pq_L c n), f_numberCount, f_operatorCount, a_text, a_kinds, a_starts, a_ends, a_owners, a_meant, a_firsts, a_lasts, a_sorts, a_blocks, a_knowns, a_values, a_around, a_depths, a_compared, a_numbers, a_operators) := by
      rw [ed_rt j (e5 j hj)]; exact h
    exact br_f (nI_pos (by omega)) (br_f (nI_ge hj (by omega)) (br_f (by decide) ⟨pk_in j 80 (by omega), h2⟩))
theorem xq_itemOf {post : Int32 → Prop} {c : Nat → Nat} {n : Nat} {u : SX} {x : Int32} (hn : n ≤ 80) (hc : ∀ j, j < n → c j ≤ 18) (hX : ed_RX c n u) (h : post (qa (pq_T c n) (fun j => ed_oI (it_ow (pq_K c n) j)) (-3) x)) : wpX_itemOf post u x := by
  obtain ⟨f_size, f_tokenCount, f_itemCount, f_blockCount, f_openCount, f_looseCount, a_text, a_characterToken, a_tokenKind, a_tokenStart, a_tokenEnd, a_tokenItem, a_tokenMeaning, a_itemFirst, a_itemEnd, a_itemSort, a_itemDepth, a_itemBlock, a_itemUses, a_itemKnown, a_itemValue, a_blockEnd, a_openBlocks, a_levelCompares, a_levelLeft, a_levelSum, a_levelProduct⟩ := u
  obtain ⟨rfl, hT, hD⟩ := hX
  obtain ⟨rfl, rfl, rfl, d4, d5, d6, d7, d8, d9, d10, d11, d12, d13, d14⟩ := hD
  obtain ⟨hTT, hNN⟩ := pq_b hn hc
  unfold wpX_itemOf
  rcases ed_ix x (n := (pq_T c n)) (by omega) with z | z | ⟨j, hj, rfl⟩
  · rw [qa_lo (Or.inl z)] at h
    exact br_t z (br_t rfl h)
  · rw [qa_lo (Or.inr z.2)] at h
    exact br_f z.1 (br_t z.2 (br_t rfl h))
  · rw [qa_hi (by omega) hj] at h
    refine br_f (nI_pos (by omega)) (br_f (nI_ge hj (by omega)) (br_f (by decide) ⟨pk_in j 80 (by omega), ?_⟩))
    rw [ed_rt j (d7 j hj)]; exact h
theorem yq_itemOf {post : Int32 → SY → Prop} {c : Nat → Nat} {n : Nat} {v : SY} {x : Int32} (hn : n ≤ 80) (hc : ∀ j, j < n → c j ≤ 18) (hY : ed_RY c n v) (h : ∀ v', ed_RY c n v' → post (qa (pq_T c n) (fun j => ed_oI (it_ow (pq_K c n) j)) (-3) x) v') : wpY_itemOf post v x := by
  obtain ⟨f_length, f_tokenCount, f_itemCount, f_blockCount, f_looseCount, f_numberCount, f_operatorCount, a_text, a_kinds, a_starts, a_ends, a_owners, a_meant, a_firsts, a_lasts, a_sorts, a_blocks, a_knowns, a_values, a_around, a_depths, a_compared, a_numbers, a_operators⟩ := v
  obtain ⟨rfl, hT⟩ := hY
  obtain ⟨hTT, hNN⟩ := pq_b hn hc
  unfold wpY_itemOf wpY_isToken
  dsimp only
  refine yr_read hn hc hT (fun f_tokenCount f_itemCount f_blockCount f_looseCount f_numberCount f_operatorCount a_kinds a_starts a_ends a_owners a_meant a_firsts a_lasts a_sorts a_blocks a_knowns a_values a_around a_depths a_compared a_numbers a_operators hD => ?_)
  obtain ⟨rfl, rfl, rfl, e4, e5, e6, e7, e8, e9, e10, e11, e12, e13, e14⟩ := hD
  have h := h (nI n, nI (pq_T c n), nI (pq_N c n), f_blockCount, nI (pq_L c n), f_numberCount, f_operatorCount, a_text, a_kinds, a_starts, a_ends, a_owners, a_meant, a_firsts, a_lasts, a_sorts, a_blocks, a_knowns, a_values, a_around, a_depths, a_compared, a_numbers, a_operators) ⟨rfl, hT⟩
  rcases ed_ix x (n := (pq_T c n)) (by omega) with z | z | ⟨j, hj, rfl⟩
  · rw [qa_lo (Or.inl z)] at h
    exact br_t z (br_t rfl h)
  · rw [qa_lo (Or.inr z.2)] at h
    exact br_f z.1 (br_t z.2 (br_t rfl h))
  · rw [qa_hi (by omega) hj] at h
    have h2 : post (a_owners (nI j).toNatClampNeg) (nI n, nI (pq_T c n), nI (pq_N c n), f_blockCount, nI (pq_L c n), f_numberCount, f_operatorCount, a_text, a_kinds, a_starts, a_ends, a_owners, a_meant, a_firsts, a_lasts, a_sorts, a_blocks, a_knowns, a_values, a_around, a_depths, a_compared, a_numbers, a_operators) := by
      rw [ed_rt j (e7 j hj)]; exact h
    exact br_f (nI_pos (by omega)) (br_f (nI_ge hj (by omega)) (br_f (by decide) ⟨pk_in j 80 (by omega), h2⟩))
theorem xq_meaning {post : Int32 → Prop} {c : Nat → Nat} {n : Nat} {u : SX} {x : Int32} (hn : n ≤ 80) (hc : ∀ j, j < n → c j ≤ 18) (hX : ed_RX c n u) (h : post (qa (pq_T c n) (fun j => ed_oI (pq_M c n j)) (-3) x)) : wpX_meaning post u x := by
  obtain ⟨f_size, f_tokenCount, f_itemCount, f_blockCount, f_openCount, f_looseCount, a_text, a_characterToken, a_tokenKind, a_tokenStart, a_tokenEnd, a_tokenItem, a_tokenMeaning, a_itemFirst, a_itemEnd, a_itemSort, a_itemDepth, a_itemBlock, a_itemUses, a_itemKnown, a_itemValue, a_blockEnd, a_openBlocks, a_levelCompares, a_levelLeft, a_levelSum, a_levelProduct⟩ := u
  obtain ⟨rfl, hT, hD⟩ := hX
  obtain ⟨rfl, rfl, rfl, d4, d5, d6, d7, d8, d9, d10, d11, d12, d13, d14⟩ := hD
  obtain ⟨hTT, hNN⟩ := pq_b hn hc
  unfold wpX_meaning
  rcases ed_ix x (n := (pq_T c n)) (by omega) with z | z | ⟨j, hj, rfl⟩
  · rw [qa_lo (Or.inl z)] at h
    exact br_t z (br_t rfl h)
  · rw [qa_lo (Or.inr z.2)] at h
    exact br_f z.1 (br_t z.2 (br_t rfl h))
  · rw [qa_hi (by omega) hj] at h
    refine br_f (nI_pos (by omega)) (br_f (nI_ge hj (by omega)) (br_f (by decide) ⟨pk_in j 80 (by omega), ?_⟩))
    rw [ed_rt j (d8 j hj)]; exact h
theorem yq_meaning {post : Int32 → SY → Prop} {c : Nat → Nat} {n : Nat} {v : SY} {x : Int32} (hn : n ≤ 80) (hc : ∀ j, j < n → c j ≤ 18) (hY : ed_RY c n v) (h : ∀ v', ed_RY c n v' → post (qa (pq_T c n) (fun j => ed_oI (pq_M c n j)) (-3) x) v') : wpY_meaning post v x := by
  obtain ⟨f_length, f_tokenCount, f_itemCount, f_blockCount, f_looseCount, f_numberCount, f_operatorCount, a_text, a_kinds, a_starts, a_ends, a_owners, a_meant, a_firsts, a_lasts, a_sorts, a_blocks, a_knowns, a_values, a_around, a_depths, a_compared, a_numbers, a_operators⟩ := v
  obtain ⟨rfl, hT⟩ := hY
  obtain ⟨hTT, hNN⟩ := pq_b hn hc
  unfold wpY_meaning wpY_isToken
  dsimp only
  refine yr_read hn hc hT (fun f_tokenCount f_itemCount f_blockCount f_looseCount f_numberCount f_operatorCount a_kinds a_starts a_ends a_owners a_meant a_firsts a_lasts a_sorts a_blocks a_knowns a_values a_around a_depths a_compared a_numbers a_operators hD => ?_)
  obtain ⟨rfl, rfl, rfl, e4, e5, e6, e7, e8, e9, e10, e11, e12, e13, e14⟩ := hD
  have h := h (nI n, nI (pq_T c n), nI (pq_N c n), f_blockCount, nI (pq_L c n), f_numberCount, f_operatorCount, a_text, a_kinds, a_starts, a_ends, a_owners, a_meant, a_firsts, a_lasts, a_sorts, a_blocks, a_knowns, a_values, a_around, a_depths, a_compared, a_numbers, a_operators) ⟨rfl, hT⟩
  rcases ed_ix x (n := (pq_T c n)) (by omega) with z | z | ⟨j, hj, rfl⟩
  · rw [qa_lo (Or.inl z)] at h
    exact br_t z (br_t rfl h)
  · rw [qa_lo (Or.inr z.2)] at h
    exact br_f z.1 (br_t z.2 (br_t rfl h))
  · rw [qa_hi (by omega) hj] at h
    have h2 : post (a_meant (nI j).toNatClampNeg) (nI n, nI (pq_T c n), nI (pq_N c n), f_blockCount, nI (pq_L c n), f_numberCount, f_operatorCount, a_text, a_kinds, a_starts, a_ends, a_owners, a_meant, a_firsts, a_lasts, a_sorts, a_blocks, a_knowns, a_values, a_around, a_depths, a_compared, a_numbers, a_operators) := by
      rw [ed_rt j (e8 j hj)]; exact h
    exact br_f (nI_pos (by omega)) (br_f (nI_ge hj (by omega)) (br_f (by decide) ⟨pk_in j 80 (by omega), h2⟩))
theorem xq_sort {post : Int32 → Prop} {c : Nat → Nat} {n : Nat} {u : SX} {x : Int32} (hn : n ≤ 80) (hc : ∀ j, j < n → c j ≤ 18) (hX : ed_RX c n u) (h : post (qa (pq_N c n) (fun i => nI (mn_so (pq_K c n) (pq_T c n) i)) (-3) x)) : wpX_sort post u x := by
  obtain ⟨f_size, f_tokenCount, f_itemCount, f_blockCount, f_openCount, f_looseCount, a_text, a_characterToken, a_tokenKind, a_tokenStart, a_tokenEnd, a_tokenItem, a_tokenMeaning, a_itemFirst, a_itemEnd, a_itemSort, a_itemDepth, a_itemBlock, a_itemUses, a_itemKnown, a_itemValue, a_blockEnd, a_openBlocks, a_levelCompares, a_levelLeft, a_levelSum, a_levelProduct⟩ := u
  obtain ⟨rfl, hT, hD⟩ := hX
  obtain ⟨rfl, rfl, rfl, d4, d5, d6, d7, d8, d9, d10, d11, d12, d13, d14⟩ := hD
  obtain ⟨hTT, hNN⟩ := pq_b hn hc
  unfold wpX_sort
  rcases ed_ix x (n := (pq_N c n)) (by omega) with z | z | ⟨j, hj, rfl⟩
  · rw [qa_lo (Or.inl z)] at h
    exact br_t z (br_t rfl h)
  · rw [qa_lo (Or.inr z.2)] at h
    exact br_f z.1 (br_t z.2 (br_t rfl h))
  · rw [qa_hi (by omega) hj] at h
    refine br_f (nI_pos (by omega)) (br_f (nI_ge hj (by omega)) (br_f (by decide) ⟨pk_in j 80 (by omega), ?_⟩))
    rw [ed_rt j (d10 j hj)]; exact h
theorem yq_sort {post : Int32 → SY → Prop} {c : Nat → Nat} {n : Nat} {v : SY} {x : Int32} (hn : n ≤ 80) (hc : ∀ j, j < n → c j ≤ 18) (hY : ed_RY c n v) (h : ∀ v', ed_RY c n v' → post (qa (pq_N c n) (fun i => nI (mn_so (pq_K c n) (pq_T c n) i)) (-3) x) v') : wpY_sort post v x := by
  obtain ⟨f_length, f_tokenCount, f_itemCount, f_blockCount, f_looseCount, f_numberCount, f_operatorCount, a_text, a_kinds, a_starts, a_ends, a_owners, a_meant, a_firsts, a_lasts, a_sorts, a_blocks, a_knowns, a_values, a_around, a_depths, a_compared, a_numbers, a_operators⟩ := v
  obtain ⟨rfl, hT⟩ := hY
  obtain ⟨hTT, hNN⟩ := pq_b hn hc
  unfold wpY_sort wpY_isItem
  dsimp only
  refine yr_read hn hc hT (fun f_tokenCount f_itemCount f_blockCount f_looseCount f_numberCount f_operatorCount a_kinds a_starts a_ends a_owners a_meant a_firsts a_lasts a_sorts a_blocks a_knowns a_values a_around a_depths a_compared a_numbers a_operators hD => ?_)
  obtain ⟨rfl, rfl, rfl, e4, e5, e6, e7, e8, e9, e10, e11, e12, e13, e14⟩ := hD
  have h := h (nI n, nI (pq_T c n), nI (pq_N c n), f_blockCount, nI (pq_L c n), f_numberCount, f_operatorCount, a_text, a_kinds, a_starts, a_ends, a_owners, a_meant, a_firsts, a_lasts, a_sorts, a_blocks, a_knowns, a_values, a_around, a_depths, a_compared, a_numbers, a_operators) ⟨rfl, hT⟩
  rcases ed_ix x (n := (pq_N c n)) (by omega) with z | z | ⟨j, hj, rfl⟩
  · rw [qa_lo (Or.inl z)] at h
    exact br_t z (br_t rfl h)
  · rw [qa_lo (Or.inr z.2)] at h
    exact br_f z.1 (br_t z.2 (br_t rfl h))
  · rw [qa_hi (by omega) hj] at h
    have h2 : post (a_sorts (nI j).toNatClampNeg) (nI n, nI (pq_T c n), nI (pq_N c n), f_blockCount, nI (pq_L c n), f_numberCount, f_operatorCount, a_text, a_kinds, a_starts, a_ends, a_owners, a_meant, a_firsts, a_lasts, a_sorts, a_blocks, a_knowns, a_values, a_around, a_depths, a_compared, a_numbers, a_operators) := by
      rw [ed_rt j (e10 j hj)]; exact h
    exact br_f (nI_pos (by omega)) (br_f (nI_ge hj (by omega)) (br_f (by decide) ⟨pk_in j 80 (by omega), h2⟩))
theorem xq_depth {post : Int32 → Prop} {c : Nat → Nat} {n : Nat} {u : SX} {x : Int32} (hn : n ≤ 80) (hc : ∀ j, j < n → c j ≤ 18) (hX : ed_RX c n u) (h : post (qa (pq_N c n) (fun i => nI (it_ik (pq_K c n) (pq_T c n + 1) i).length) (-3) x)) : wpX_depth post u x := by
  obtain ⟨f_size, f_tokenCount, f_itemCount, f_blockCount, f_openCount, f_looseCount, a_text, a_characterToken, a_tokenKind, a_tokenStart, a_tokenEnd, a_tokenItem, a_tokenMeaning, a_itemFirst, a_itemEnd, a_itemSort, a_itemDepth, a_itemBlock, a_itemUses, a_itemKnown, a_itemValue, a_blockEnd, a_openBlocks, a_levelCompares, a_levelLeft, a_levelSum, a_levelProduct⟩ := u
  obtain ⟨rfl, hT, hD⟩ := hX
  obtain ⟨rfl, rfl, rfl, d4, d5, d6, d7, d8, d9, d10, d11, d12, d13, d14⟩ := hD
  obtain ⟨hTT, hNN⟩ := pq_b hn hc
  unfold wpX_depth
  rcases ed_ix x (n := (pq_N c n)) (by omega) with z | z | ⟨j, hj, rfl⟩
  · rw [qa_lo (Or.inl z)] at h
    exact br_t z (br_t rfl h)
  · rw [qa_lo (Or.inr z.2)] at h
    exact br_f z.1 (br_t z.2 (br_t rfl h))
  · rw [qa_hi (by omega) hj] at h
    refine br_f (nI_pos (by omega)) (br_f (nI_ge hj (by omega)) (br_f (by decide) ⟨pk_in j 80 (by omega), ?_⟩))
    rw [ed_rt j (d11 j hj)]; exact h
end
end
section
section
/-! the other questions -/
theorem yq_rd {post : SY → Prop} {c : Nat → Nat} {n : Nat} {v : SY} (hn : n ≤ 80) (hc : ∀ j, j < n → c j ≤ 18) (hY : ed_RY c n v) (h : ∀ (f_blockCount f_numberCount f_operatorCount : Int32) (a_kinds a_starts a_ends a_owners a_meant a_firsts a_lasts a_sorts a_blocks a_knowns a_values a_around a_depths a_compared a_numbers a_operators : Nat → Int32) (a_text : Nat → Int32), ed_ag a_text c n → yd_D c n (nI (pq_T c n)) (nI (pq_N c n)) (nI (pq_L c n)) a_kinds a_starts a_ends a_owners a_meant a_firsts a_sorts a_blocks a_knowns a_values a_around a_depths → post (nI n, nI (pq_T c n), nI (pq_N c n), f_blockCount, nI (pq_L c n), f_numberCount, f_operatorCount, a_text, a_kinds, a_starts, a_ends, a_owners, a_meant, a_firsts, a_lasts, a_sorts, a_blocks, a_knowns, a_values, a_around, a_depths, a_compared, a_numbers, a_operators)) : wpY_read post v := by
  obtain ⟨f_length, f_tokenCount, f_itemCount, f_blockCount, f_looseCount, f_numberCount, f_operatorCount, a_text, a_kinds, a_starts, a_ends, a_owners, a_meant, a_firsts, a_lasts, a_sorts, a_blocks, a_knowns, a_values, a_around, a_depths, a_compared, a_numbers, a_operators⟩ := v
  obtain ⟨rfl, hT⟩ := hY
  refine yr_read hn hc hT (fun f_tokenCount f_itemCount f_blockCount f_looseCount f_numberCount f_operatorCount a_kinds a_starts a_ends a_owners a_meant a_firsts a_lasts a_sorts a_blocks a_knowns a_values a_around a_depths a_compared a_numbers a_operators hD => ?_)
  have hD2 := hD
  obtain ⟨rfl, rfl, rfl, _⟩ := hD
  exact h f_blockCount f_numberCount f_operatorCount a_kinds a_starts a_ends a_owners a_meant a_firsts a_lasts a_sorts a_blocks a_knowns a_values a_around a_depths a_compared a_numbers a_operators a_text hT hD2
theorem yq_isItem {post : Int32 → SY → Prop} {c : Nat → Nat} {n : Nat} {v : SY} {x : Int32} (hn : n ≤ 80) (hc : ∀ j, j < n → c j ≤ 18) (hY : ed_RY c n v) (h0 : (x < 0 ∨ nI (pq_N c n) ≤ x) → ∀ (f_blockCount f_numberCount f_operatorCount : Int32) (a_kinds a_starts a_ends a_owners a_meant a_firsts a_lasts a_sorts a_blocks a_knowns a_values a_around a_depths a_compared a_numbers a_operators : Nat → Int32) (a_text : Nat → Int32), ed_ag a_text c n → yd_D c n (nI (pq_T c n)) (nI (pq_N c n)) (nI (pq_L c n)) a_kinds a_starts a_ends a_owners a_meant a_firsts a_sorts a_blocks a_knowns a_values a_around a_depths → post 0 (nI n, nI (pq_T c n), nI (pq_N c n), f_blockCount, nI (pq_L c n), f_numberCount, f_operatorCount, a_text, a_kinds, a_starts, a_ends, a_owners, a_meant, a_firsts, a_lasts, a_sorts, a_blocks, a_knowns, a_values, a_around, a_depths, a_compared, a_numbers, a_operators)) (h1 : ∀ j, j < pq_N c n → x = nI j → ∀ (f_blockCount f_numberCount f_operatorCount : Int32) (a_kinds a_starts a_ends a_owners a_meant a_firsts a_lasts a_sorts a_blocks a_knowns a_values a_around a_depths a_compared a_numbers a_operators : Nat → Int32) (a_text : Nat → Int32), ed_ag a_text c n → yd_D c n (nI (pq_T c n)) (nI (pq_N c n)) (nI (pq_L c n)) a_kinds a_starts a_ends a_owners a_meant a_firsts a_sorts a_blocks a_knowns a_values a_around a_depths → post 1 (nI n, nI (pq_T c n), nI (pq_N c n), f_blockCount, nI (pq_L c n), f_numberCount, f_operatorCount, a_text, a_kinds, a_starts, a_ends, a_owners, a_meant, a_firsts, a_lasts, a_sorts, a_blocks, a_knowns, a_values, a_around, a_depths, a_compared, a_numbers, a_operators)) : wpY_isItem post v x := by
  obtain ⟨f_length, f_tokenCount, f_itemCount, f_blockCount, f_looseCount, f_numberCount, f_operatorCount, a_text, a_kinds, a_starts, a_ends, a_owners, a_meant, a_firsts, a_lasts, a_sorts, a_blocks, a_knowns, a_values, a_around, a_depths, a_compared, a_numbers, a_operators⟩ := v
  obtain ⟨rfl, hT⟩ := hY
  obtain ⟨hTT, hNN⟩ := pq_b hn hc
  unfold wpY_isItem
  refine yr_read hn hc hT (fun f_tokenCount f_itemCount f_blockCount f_looseCount f_numberCount f_operatorCount a_kinds a_starts a_ends a_owners a_meant a_firsts a_lasts a_sorts a_blocks a_knowns a_values a_around a_depths a_compared a_numbers a_operators hD => ?_)
  have hD2 := hD
  obtain ⟨rfl, rfl, rfl, _⟩ := hD
  rcases ed_ix x (n := pq_N c n) (by omega) with z | z | ⟨j, hj, rfl⟩
  · exact br_t z (h0 (Or.inl z) f_blockCount f_numberCount f_operatorCount a_kinds a_starts a_ends a_owners a_meant a_firsts a_lasts a_sorts a_blocks a_knowns a_values a_around a_depths a_compared a_numbers a_operators a_text hT hD2)
  · exact br_f z.1 (br_t z.2 (h0 (Or.inr z.2) f_blockCount f_numberCount f_operatorCount a_kinds a_starts a_ends a_owners a_meant a_firsts a_lasts a_sorts a_blocks a_knowns a_values a_around a_depths a_compared a_numbers a_operators a_text hT hD2))
  · exact br_f (nI_pos (by omega)) (br_f (nI_ge hj (by omega)) (h1 j hj rfl f_blockCount f_numberCount f_operatorCount a_kinds a_starts a_ends a_owners a_meant a_firsts a_lasts a_sorts a_blocks a_knowns a_values a_around a_depths a_compared a_numbers a_operators a_text hT hD2))
theorem xq_isItem {post : Int32 → Prop} (f_size f_tokenCount f_blockCount f_openCount f_looseCount : Int32) (a_text a_characterToken a_tokenKind a_tokenStart a_tokenEnd a_tokenItem a_tokenMeaning a_itemFirst a_itemEnd a_itemSort a_itemDepth a_itemBlock a_itemUses a_itemKnown a_itemValue a_blockEnd a_openBlocks a_levelCompares a_levelLeft a_levelSum a_levelProduct : Nat → Int32) {N : Nat} {x : Int32} (hN : N ≤ 80) (h0 : (x < 0 ∨ nI N ≤ x) → post 0) (h1 : ∀ j, j < N → x = nI j → post 1) : wpX_isItem post (f_size, f_tokenCount, nI N, f_blockCount, f_openCount, f_looseCount, a_text, a_characterToken, a_tokenKind, a_tokenStart, a_tokenEnd, a_tokenItem, a_tokenMeaning, a_itemFirst, a_itemEnd, a_itemSort, a_itemDepth, a_itemBlock, a_itemUses, a_itemKnown, a_itemValue, a_blockEnd, a_openBlocks, a_levelCompares, a_levelLeft, a_levelSum, a_levelProduct) x := by
  rcases ed_ix x (n := N) (by omega) with z | z | ⟨j, hj, rfl⟩
  · exact br_t z (h0 (Or.inl z))
  · exact br_f z.1 (br_t z.2 (h0 (Or.inr z.2)))
  · exact br_f (nI_pos (by omega)) (br_f (nI_ge hj (by omega)) (h1 j hj rfl))
theorem yq_depth {post : Int32 → SY → Prop} {c : Nat → Nat} {n : Nat} {v : SY} {x : Int32} (hn : n ≤ 80) (hc : ∀ j, j < n → c j ≤ 18) (hY : ed_RY c n v) (h : ∀ v', ed_RY c n v' → post (qa (pq_N c n) (fun i => nI (it_ik (pq_K c n) (pq_T c n + 1) i).length) (-3) x) v') : wpY_depth post v x := by
  obtain ⟨hTT, hNN⟩ := pq_b hn hc
  obtain ⟨p1, p2, p3, p4⟩ := pq_f hn hc
  have hM := it_M p4
  obtain ⟨f_length, f_tokenCount, f_itemCount, f_blockCount, f_looseCount, f_numberCount, f_operatorCount, a_text, a_kinds, a_starts, a_ends, a_owners, a_meant, a_firsts, a_lasts, a_sorts, a_blocks, a_knowns, a_values, a_around, a_depths, a_compared, a_numbers, a_operators⟩ := v
  unfold wpY_depth
  refine yq_isItem hn hc hY (fun z f_blockCount f_numberCount f_operatorCount a_kinds a_starts a_ends a_owners a_meant a_firsts a_lasts a_sorts a_blocks a_knowns a_values a_around a_depths a_compared a_numbers a_operators a_text hT hD => ?_) (fun j hj hx f_blockCount f_numberCount f_operatorCount a_kinds a_starts a_ends a_owners a_meant a_firsts a_lasts a_sorts a_blocks a_knowns a_values a_around a_depths a_compared a_numbers a_operators a_text hT hD => ?_)
  · have h := h (nI n, nI (pq_T c n), nI (pq_N c n), f_blockCount, nI (pq_L c n), f_numberCount, f_operatorCount, a_text, a_kinds, a_starts, a_ends, a_owners, a_meant, a_firsts, a_lasts, a_sorts, a_blocks, a_knowns, a_values, a_around, a_depths, a_compared, a_numbers, a_operators) ⟨rfl, hT⟩
    rw [qa_lo z] at h
    exact br_t rfl h
  · have h := h (nI n, nI (pq_T c n), nI (pq_N c n), f_blockCount, nI (pq_L c n), f_numberCount, f_operatorCount, a_text, a_kinds, a_starts, a_ends, a_owners, a_meant, a_firsts, a_lasts, a_sorts, a_blocks, a_knowns, a_values, a_around, a_depths, a_compared, a_numbers, a_operators) ⟨rfl, hT⟩
    subst hx
    rw [qa_hi (by omega) hj] at h
    obtain ⟨e1, e2, e3, e4, e5, e6, e7, e8, e9, e10, e11, e12, e13, e14⟩ := hD
    refine br_f (by decide) ⟨pk_in j 80 (by omega), ?_⟩
    have e : a_blocks (nI j).toNatClampNeg = yc_h (it_ik (pq_K c n) (pq_T c n + 1) j) := ed_rt j (e11 j hj)
    rw [e]
    have hb := (it_Cp (pq_K c n) (pq_T c n + 1)).2.1 j hj
    have hb2 := (it_Cp (pq_K c n) (pq_T c n + 1)).2.2.1 j hj
    have e12 := e12 j hj
    cases hl : it_ik (pq_K c n) (pq_T c n + 1) j with
    | nil =>
      rw [hl] at h
      exact br_f (show ¬ (0 : Int32) ≤ -1 by decide) h
    | cons b r =>
      rw [hl] at h e12 hb
      have hb3 := hb b List.mem_cons_self
      have e2' : a_depths (nI (b - 1)).toNatClampNeg = nI (r.length + 1) := ed_rt (b - 1) e12.2.2.1
      refine br_t (show (0 : Int32) ≤ nI (b - 1) from nI_pos' (by omega)) ⟨pk_in j 80 (by omega), pk_in (b - 1) 80 (by omega), ?_⟩
      show post (a_depths (nI (b - 1)).toNatClampNeg) _
      rw [e2']; exact h
theorem xq_known {post : Int32 → Prop} {c : Nat → Nat} {n : Nat} {u : SX} {x : Int32} (hn : n ≤ 80) (hc : ∀ j, j < n → c j ≤ 18) (hX : ed_RX c n u) (h : post (qa (pq_N c n) (fun i => ed_bI (pq_V c n i).1) 0 x)) : wpX_known post u x := by
  obtain ⟨f_size, f_tokenCount, f_itemCount, f_blockCount, f_openCount, f_looseCount, a_text, a_characterToken, a_tokenKind, a_tokenStart, a_tokenEnd, a_tokenItem, a_tokenMeaning, a_itemFirst, a_itemEnd, a_itemSort, a_itemDepth, a_itemBlock, a_itemUses, a_itemKnown, a_itemValue, a_blockEnd, a_openBlocks, a_levelCompares, a_levelLeft, a_levelSum, a_levelProduct⟩ := u
  obtain ⟨rfl, hT, hD⟩ := hX
  obtain ⟨rfl, rfl, rfl, d4, d5, d6, d7, d8, d9, d10, d11, d12, d13, d14⟩ := hD
  obtain ⟨hTT, hNN⟩ := pq_b hn hc
  unfold wpX_known
  refine xq_isItem _ _ _ _ _ _ _ _ _ _ _ _ _ _ _ _ _ _ _ _ _ _ _ _ _ _ hNN (fun z => ?_) (fun j hj hx => ?_)
  · rw [qa_lo z] at h; exact br_t rfl h
  · subst hx
    rw [qa_hi (by omega) hj] at h
    have e : a_itemKnown (nI j).toNatClampNeg = ed_bI (pq_V c n j).1 := ed_rt j (d13 j hj)
    refine br_f (by decide) ⟨pk_in j 80 (by omega), ?_⟩
    cases hb : (pq_V c n j).1 with
    | false => rw [hb] at h e; exact br_t e h
    | true => rw [hb] at h e; exact br_f (by rw [e]; decide) h
theorem yq_known {post : Int32 → SY → Prop} {c : Nat → Nat} {n : Nat} {v : SY} {x : Int32} (hn : n ≤ 80) (hc : ∀ j, j < n → c j ≤ 18) (hY : ed_RY c n v) (h : ∀ v', ed_RY c n v' → post (qa (pq_N c n) (fun i => ed_bI (pq_V c n i).1) 0 x) v') : wpY_known post v x := by
  obtain ⟨hTT, hNN⟩ := pq_b hn hc
  obtain ⟨f_length, f_tokenCount, f_itemCount, f_blockCount, f_looseCount, f_numberCount, f_operatorCount, a_text, a_kinds, a_starts, a_ends, a_owners, a_meant, a_firsts, a_lasts, a_sorts, a_blocks, a_knowns, a_values, a_around, a_depths, a_compared, a_numbers, a_operators⟩ := v
  unfold wpY_known
  refine yq_isItem hn hc hY (fun z f_blockCount f_numberCount f_operatorCount a_kinds a_starts a_ends a_owners a_meant a_firsts a_lasts a_sorts a_blocks a_knowns a_values a_around a_depths a_compared a_numbers a_operators a_text hT hD => ?_) (fun j hj hx f_blockCount f_numberCount f_operatorCount a_kinds a_starts a_ends a_owners a_meant a_firsts a_lasts a_sorts a_blocks a_knowns a_values a_around a_depths a_compared a_numbers a_operators a_text hT hD => ?_)
  · have h := h (nI n, nI (pq_T c n), nI (pq_N c n), f_blockCount, nI (pq_L c n), f_numberCount, f_operatorCount, a_text, a_kinds, a_starts, a_ends, a_owners, a_meant, a_firsts, a_lasts, a_sorts, a_blocks, a_knowns, a_values, a_around, a_depths, a_compared, a_numbers, a_operators) ⟨rfl, hT⟩
    rw [qa_lo z] at h
    exact br_t rfl h
  · have h := h (nI n, nI (pq_T c n), nI (pq_N c n), f_blockCount, nI (pq_L c n), f_numberCount, f_operatorCount, a_text, a_kinds, a_starts, a_ends, a_owners, a_meant, a_firsts, a_lasts, a_sorts, a_blocks, a_knowns, a_values, a_around, a_depths, a_compared, a_numbers, a_operators) ⟨rfl, hT⟩
    subst hx
    rw [qa_hi (by omega) hj] at h
    obtain ⟨e1, e2, e3, e4, e5, e6, e7, e8, e9, e10, e11, e12, e13, e14⟩ := hD
    have e : a_knowns (nI j).toNatClampNeg = ed_bI (pq_V c n j).1 := ed_rt j (e13 j hj)
    refine br_f (by decide) ⟨pk_in j 80 (by omega), ?_⟩
    cases hb : (pq_V c n j).1 with
    | false => rw [hb] at h e; exact br_t e h
    | true => rw [hb] at h e; exact br_f (by rw [e]; decide) h
theorem xq_value {post : Int32 → Prop} {c : Nat → Nat} {n : Nat} {u : SX} {x : Int32} (hn : n ≤ 80) (hc : ∀ j, j < n → c j ≤ 18) (hX : ed_RX c n u) (h : post (qa (pq_N c n) (fun i => (pq_V c n i).2) 0 x)) : wpX_value post u x := by
  obtain ⟨f_size, f_tokenCount, f_itemCount, f_blockCount, f_openCount, f_looseCount, a_text, a_characterToken, a_tokenKind, a_tokenStart, a_tokenEnd, a_tokenItem, a_tokenMeaning, a_itemFirst, a_itemEnd, a_itemSort, a_itemDepth, a_itemBlock, a_itemUses, a_itemKnown, a_itemValue, a_blockEnd, a_openBlocks, a_levelCompares, a_levelLeft, a_levelSum, a_levelProduct⟩ := u
  obtain ⟨rfl, hT, hD⟩ := hX
  obtain ⟨rfl, rfl, rfl, d4, d5, d6, d7, d8, d9, d10, d11, d12, d13, d14⟩ := hD
  obtain ⟨hTT, hNN⟩ := pq_b hn hc
  unfold wpX_value
  refine xq_isItem _ _ _ _ _ _ _ _ _ _ _ _ _ _ _ _ _ _ _ _ _ _ _ _ _ _ hNN (fun z => ?_) (fun j hj hx => ?_)
  · rw [qa_lo z] at h; exact br_t rfl h
  · subst hx
    rw [qa_hi (by omega) hj] at h
    have e : a_itemKnown (nI j).toNatClampNeg = ed_bI (pq_V c n j).1 := ed_rt j (d13 j hj)
    have e2 : a_itemValue (nI j).toNatClampNeg = (pq_V c n j).2 := ed_rt j (d14 j hj)
    refine br_f (by decide) ⟨pk_in j 80 (by omega), ?_⟩
    cases hb : (pq_V c n j).1 with
    | false => rw [pq_V0 hb] at h; rw [hb] at e; exact br_t e h
    | true => rw [hb] at e; exact br_f (by rw [e]; decide) ⟨pk_in j 80 (by omega), by rw [e2]; exact h⟩
theorem yq_value {post : Int32 → SY → Prop} {c : Nat → Nat} {n : Nat} {v : SY} {x : Int32} (hn : n ≤ 80) (hc : ∀ j, j < n → c j ≤ 18) (hY : ed_RY c n v) (h : ∀ v', ed_RY c n v' → post (qa (pq_N c n) (fun i => (pq_V c n i).2) 0 x) v') : wpY_value post v x := by
  obtain ⟨hTT, hNN⟩ := pq_b hn hc
  obtain ⟨f_length, f_tokenCount, f_itemCount, f_blockCount, f_looseCount, f_numberCount, f_operatorCount, a_text, a_kinds, a_starts, a_ends, a_owners, a_meant, a_firsts, a_lasts, a_sorts, a_blocks, a_knowns, a_values, a_around, a_depths, a_compared, a_numbers, a_operators⟩ := v
  unfold wpY_value
  refine yq_isItem hn hc hY (fun z f_blockCount f_numberCount f_operatorCount a_kinds a_starts a_ends a_owners a_meant a_firsts a_lasts a_sorts a_blocks a_knowns a_values a_around a_depths a_compared a_numbers a_operators a_text hT hD => ?_) (fun j hj hx f_blockCount f_numberCount f_operatorCount a_kinds a_starts a_ends a_owners a_meant a_firsts a_lasts a_sorts a_blocks a_knowns a_values a_around a_depths a_compared a_numbers a_operators a_text hT hD => ?_)
  · have h := h (nI n, nI (pq_T c n), nI (pq_N c n), f_blockCount, nI (pq_L c n), f_numberCount, f_operatorCount, a_text, a_kinds, a_starts, a_ends, a_owners, a_meant, a_firsts, a_lasts, a_sorts, a_blocks, a_knowns, a_values, a_around, a_depths, a_compared, a_numbers, a_operators) ⟨rfl, hT⟩
    rw [qa_lo z] at h
    exact br_t rfl h
  · have h := h (nI n, nI (pq_T c n), nI (pq_N c n), f_blockCount, nI (pq_L c n), f_numberCount, f_operatorCount, a_text, a_kinds, a_starts, a_ends, a_owners, a_meant, a_firsts, a_lasts, a_sorts, a_blocks, a_knowns, a_values, a_around, a_depths, a_compared, a_numbers, a_operators) ⟨rfl, hT⟩
    subst hx
    rw [qa_hi (by omega) hj] at h
    obtain ⟨e1, e2, e3, e4, e5, e6, e7, e8, e9, e10, e11, e12, e13, e14⟩ := hD
    have e : a_values (nI j).toNatClampNeg = (pq_V c n j).2 := ed_rt j (e14 j hj)
    refine br_f (by decide) ⟨pk_in j 80 (by omega), ?_⟩
    rw [e]; exact h
end
end
section
section
/-! positions, uses, counts -/
theorem xq_pos {post : Int32 → Prop} (f_tokenCount f_itemCount f_blockCount f_openCount f_looseCount : Int32) (a_text a_characterToken a_tokenKind a_tokenStart a_tokenEnd a_tokenItem a_tokenMeaning a_itemFirst a_itemEnd a_itemSort a_itemDepth a_itemBlock a_itemUses a_itemKnown a_itemValue a_blockEnd a_openBlocks a_levelCompares a_levelLeft a_levelSum a_levelProduct : Nat → Int32) {N : Nat} {x : Int32} (hN : N ≤ 80) (h0 : (x < 0 ∨ nI N ≤ x) → post 0) (h1 : ∀ j, j < N → x = nI j → post 1) : wpX_isPosition post (nI N, f_tokenCount, f_itemCount, f_blockCount, f_openCount, f_looseCount, a_text, a_characterToken, a_tokenKind, a_tokenStart, a_tokenEnd, a_tokenItem, a_tokenMeaning, a_itemFirst, a_itemEnd, a_itemSort, a_itemDepth, a_itemBlock, a_itemUses, a_itemKnown, a_itemValue, a_blockEnd, a_openBlocks, a_levelCompares, a_levelLeft, a_levelSum, a_levelProduct) x := by
  rcases ed_ix x (n := N) (by omega) with z | z | ⟨j, hj, rfl⟩
  · exact br_t z (h0 (Or.inl z))
  · exact br_f z.1 (br_t z.2 (h0 (Or.inr z.2)))
  · exact br_f (nI_pos (by omega)) (br_f (nI_ge hj (by omega)) (h1 j hj rfl))
theorem xq_character {post : Int32 → Prop} {c : Nat → Nat} {n : Nat} {u : SX} {x : Int32} (hn : n ≤ 80) (hc : ∀ j, j < n → c j ≤ 18) (hX : ed_RX c n u) (h : post (qa n (fun j => nI (c j)) (-3) x)) : wpX_character post u x := by
  obtain ⟨f_size, f_tokenCount, f_itemCount, f_blockCount, f_openCount, f_looseCount, a_text, a_characterToken, a_tokenKind, a_tokenStart, a_tokenEnd, a_tokenItem, a_tokenMeaning, a_itemFirst, a_itemEnd, a_itemSort, a_itemDepth, a_itemBlock, a_itemUses, a_itemKnown, a_itemValue, a_blockEnd, a_openBlocks, a_levelCompares, a_levelLeft, a_levelSum, a_levelProduct⟩ := u
  obtain ⟨rfl, hT, hD⟩ := hX
  obtain ⟨rfl, rfl, rfl, d4, d5, d6, d7, d8, d9, d10, d11, d12, d13, d14⟩ := hD
  obtain ⟨hTT, hNN⟩ := pq_b hn hc
  unfold wpX_character
  refine xq_pos _ _ _ _ _ _ _ _ _ _ _ _ _ _ _ _ _ _ _ _ _ _ _ _ _ _ hn (fun z => ?_) (fun j hj hx => ?_)
  · rw [qa_lo z] at h; exact br_t rfl h
  · subst hx
    rw [qa_hi (by omega) hj] at h
    refine br_f (by decide) ⟨pk_in j 80 (by omega), ?_⟩
    rw [ed_rt j (hT j hj)]; exact h
theorem yq_character {post : Int32 → Prop} {c : Nat → Nat} {n : Nat} {v : SY} {x : Int32} (hn : n ≤ 80) (hc : ∀ j, j < n → c j ≤ 18) (hY : ed_RY c n v) (h : post (qa n (fun j => nI (c j)) (-3) x)) : wpY_character post v x := by
  obtain ⟨f_length, f_tokenCount, f_itemCount, f_blockCount, f_looseCount, f_numberCount, f_operatorCount, a_text, a_kinds, a_starts, a_ends, a_owners, a_meant, a_firsts, a_lasts, a_sorts, a_blocks, a_knowns, a_values, a_around, a_depths, a_compared, a_numbers, a_operators⟩ := v
  obtain ⟨rfl, hT⟩ := hY
  rcases ed_ix x (n := n) (by omega) with z | z | ⟨j, hj, rfl⟩
  · rw [qa_lo (Or.inl z)] at h
    exact br_t z h
  · rw [qa_lo (Or.inr z.2)] at h
    exact br_f z.1 (br_t z.2 h)
  · rw [qa_hi (by omega) hj] at h
    refine br_f (nI_pos (by omega)) (br_f (nI_ge hj (by omega)) ⟨pk_in j 81 (by omega), ?_⟩)
    rw [ed_rt j (hT j hj)]; exact h
theorem xq_tokenAt {post : Int32 → Prop} {c : Nat → Nat} {n : Nat} {u : SX} {x : Int32} (hn : n ≤ 80) (hc : ∀ j, j < n → c j ≤ 18) (hX : ed_RX c n u) (h : post (qa n (fun j => ed_oI (pq_A c n j)) (-3) x)) : wpX_tokenAt post u x := by
  obtain ⟨f_size, f_tokenCount, f_itemCount, f_blockCount, f_openCount, f_looseCount, a_text, a_characterToken, a_tokenKind, a_tokenStart, a_tokenEnd, a_tokenItem, a_tokenMeaning, a_itemFirst, a_itemEnd, a_itemSort, a_itemDepth, a_itemBlock, a_itemUses, a_itemKnown, a_itemValue, a_blockEnd, a_openBlocks, a_levelCompares, a_levelLeft, a_levelSum, a_levelProduct⟩ := u
  obtain ⟨rfl, hT, hD⟩ := hX
  obtain ⟨rfl, rfl, rfl, d4, d5, d6, d7, d8, d9, d10, d11, d12, d13, d14⟩ := hD
  obtain ⟨hTT, hNN⟩ := pq_b hn hc
  unfold wpX_tokenAt
  refine xq_pos _ _ _ _ _ _ _ _ _ _ _ _ _ _ _ _ _ _ _ _ _ _ _ _ _ _ hn (fun z => ?_) (fun j hj hx => ?_)
  · rw [qa_lo z] at h; exact br_t rfl h
  · subst hx
    rw [qa_hi (by omega) hj] at h
    refine br_f (by decide) ⟨pk_in j 80 (by omega), ?_⟩
    rw [ed_rt j (d4 j hj)]; exact h
theorem yq_tl {post : Int32 → SY → Prop} (f_length f_itemCount f_blockCount f_looseCount f_numberCount f_operatorCount : Int32) (a_text a_kinds a_starts a_ends a_owners a_meant a_firsts a_lasts a_sorts a_blocks a_knowns a_values a_around a_depths a_compared a_numbers a_operators : Nat → Int32) {st en : Nat → Nat} {T : Nat} {x : Int32} (hTT : T ≤ 80) (hS : ed_ag a_starts st T) (hE : ed_ag a_ends en T) (h0 : (∀ t, t < T → ¬ (¬ x < nI (st t) ∧ ¬ nI (en t) ≤ x)) → post (-3) (f_length, nI T, f_itemCount, f_blockCount, f_looseCount, f_numberCount, f_operatorCount, a_text, a_kinds, a_starts, a_ends, a_owners, a_meant, a_firsts, a_lasts, a_sorts, a_blocks, a_knowns, a_values, a_around, a_depths, a_compared, a_numbers, a_operators)) (h1 : ∀ t, t < T → ¬ x < nI (st t) → ¬ nI (en t) ≤ x → post (nI t) (f_length, nI T, f_itemCount, f_blockCount, f_looseCount, f_numberCount, f_operatorCount, a_text, a_kinds, a_starts, a_ends, a_owners, a_meant, a_firsts, a_lasts, a_sorts, a_blocks, a_knowns, a_values, a_around, a_depths, a_compared, a_numbers, a_operators)) :
    ∀ d t, t + d = T → (∀ s, s < t → ¬ (¬ x < nI (st s) ∧ ¬ nI (en s) ≤ x)) → ∀ f, d < f → (wY_tokenAt_6 post x f_length (nI T) f_itemCount f_blockCount f_looseCount f_numberCount f_operatorCount a_text a_kinds a_starts a_ends a_owners a_meant a_firsts a_lasts a_sorts a_blocks a_knowns a_values a_around a_depths a_compared a_numbers a_operators f (nI t)) := by
  intro d
  induction d with
  | zero =>
    intro t ht hs f hf
    obtain ⟨f, rfl⟩ : ∃ g, f = g + 1 := ⟨f - 1, by omega⟩
    have e : t = T := by omega
    subst e
    exact br_t (nI_le (Nat.le_refl _) (by omega)) (h0 hs)
  | succ d ih =>
    intro t ht hs f hf
    obtain ⟨f, rfl⟩ : ∃ g, f = g + 1 := ⟨f - 1, by omega⟩
    have es : a_starts (nI t).toNatClampNeg = nI (st t) := ed_rt t (hS t (by omega))
    have ee : a_ends (nI t).toNatClampNeg = nI (en t) := ed_rt t (hE t (by omega))
    have hgo : ¬ (¬ x < nI (st t) ∧ ¬ nI (en t) ≤ x) → (wY_tokenAt_6 post x f_length (nI T) f_itemCount f_blockCount f_looseCount f_numberCount f_operatorCount a_text a_kinds a_starts a_ends a_owners a_meant a_firsts a_lasts a_sorts a_blocks a_knowns a_values a_around a_depths a_compared a_numbers a_operators f (nI (t + 1))) := by
      intro hno
      refine ih (t + 1) (by omega) (fun s hs2 => ?_) f (by omega)
      by_cases z : s = t
      · rw [z]; exact hno
      · exact hs s (by omega)
    refine br_f (nI_ge (by omega) (by omega)) ⟨pk_in t 80 (by omega), ?_⟩
    rw [es]
    refine br_c (fun z => nm_r (nI_1 t) (hgo (fun y => y.1 z))) (fun z => ⟨pk_in t 80 (by omega), ?_⟩)
    rw [ee]
    exact br_c (fun y => nm_r (nI_1 t) (hgo (fun q => q.2 y))) (fun y => h1 t (by omega) z y)
theorem yq_tokenAt {post : Int32 → SY → Prop} {c : Nat → Nat} {n : Nat} {v : SY} {x : Int32} (hn : n ≤ 80) (hc : ∀ j, j < n → c j ≤ 18) (hY : ed_RY c n v) (h : ∀ v', ed_RY c n v' → post (qa n (fun j => ed_oI (pq_A c n j)) (-3) x) v') : wpY_tokenAt post v x := by
  obtain ⟨hTT, hNN⟩ := pq_b hn hc
  obtain ⟨p1, p2, p3, p4⟩ := pq_f hn hc
  obtain ⟨i1, i2, i3, i4, i5, i6, i7⟩ := tk_Ir hc n (Nat.le_refl _)
  obtain ⟨f_length, f_tokenCount, f_itemCount, f_blockCount, f_looseCount, f_numberCount, f_operatorCount, a_text, a_kinds, a_starts, a_ends, a_owners, a_meant, a_firsts, a_lasts, a_sorts, a_blocks, a_knowns, a_values, a_around, a_depths, a_compared, a_numbers, a_operators⟩ := v
  unfold wpY_tokenAt
  refine yq_rd hn hc hY (fun f_blockCount f_numberCount f_operatorCount a_kinds a_starts a_ends a_owners a_meant a_firsts a_lasts a_sorts a_blocks a_knowns a_values a_around a_depths a_compared a_numbers a_operators a_text hT hD => ?_)
  have h := h (nI n, nI (pq_T c n), nI (pq_N c n), f_blockCount, nI (pq_L c n), f_numberCount, f_operatorCount, a_text, a_kinds, a_starts, a_ends, a_owners, a_meant, a_firsts, a_lasts, a_sorts, a_blocks, a_knowns, a_values, a_around, a_depths, a_compared, a_numbers, a_operators) ⟨rfl, hT⟩
  obtain ⟨e1, e2, e3, e4, e5, e6, e7, e8, e9, e10, e11, e12, e13, e14⟩ := hD
  refine ⟨pq_T c n + 1, ?_⟩
  refine yq_tl _ _ _ _ _ _ _ _ _ _ _ _ _ _ _ _ _ _ _ _ _ _ _ hTT e5 e6 (fun hno => ?_) (fun t ht z1 z2 => ?_) (pq_T c n) 0 (by omega) (fun s hs => by omega) _ (by omega)
  · rcases ed_ix x (n := n) (by omega) with z | z | ⟨j, hj, rfl⟩
    · rw [qa_lo (Or.inl z)] at h; exact h
    · rw [qa_lo (Or.inr z.2)] at h; exact h
    · rw [qa_hi (by omega) hj] at h
      cases ha : pq_A c n j with
      | none => rw [ha] at h; exact h
      | some t =>
        have ht := i2 j t hj ha
        have hst := (i5 j t hj ht).mp ha
        refine absurd ⟨?_, ?_⟩ (hno t ht)
        · exact nI_nlt hst.1 (by omega)
        · exact nI_ge hst.2 (by have := (i4 t ht).2; unfold pq_E; omega)
  · have q := p2 t ht
    rcases ed_ix x (n := n) (by omega) with z | z | ⟨j, hj, rfl⟩
    · refine absurd ?_ z1
      have := nI_pos' (n := pq_S c n t) (by omega)
      exact Int32.lt_of_lt_of_le z this
    · refine absurd ?_ z2
      exact Int32.le_trans (nI_le q.2 (by omega)) z.2
    · rw [qa_hi (by omega) hj] at h
      have z1' : pq_S c n t ≤ j := by
        by_cases y : pq_S c n t ≤ j
        · exact y
        · exact absurd (nI_lt (by omega) (by omega)) z1
      have z2' : j < pq_E c n t := by
        by_cases y : j < pq_E c n t
        · exact y
        · exact absurd (nI_le (by omega) (by omega)) z2
      have ha : pq_A c n j = some t := (i5 j t hj ht).mpr ⟨z1', z2'⟩
      rw [ha] at h; exact h
theorem xq_uses {post : Int32 → Prop} {c : Nat → Nat} {n : Nat} {u : SX} {x : Int32} (hn : n ≤ 80) (hc : ∀ j, j < n → c j ≤ 18) (hX : ed_RX c n u) (h : post (qa (pq_N c n) (fun i => if mn_so (pq_K c n) (pq_T c n) i = 2 then nI (mn_ct (pq_M c n) i (pq_T c n)) else -3) (-3) x)) : wpX_uses post u x := by
  obtain ⟨f_size, f_tokenCount, f_itemCount, f_blockCount, f_openCount, f_looseCount, a_text, a_characterToken, a_tokenKind, a_tokenStart, a_tokenEnd, a_tokenItem, a_tokenMeaning, a_itemFirst, a_itemEnd, a_itemSort, a_itemDepth, a_itemBlock, a_itemUses, a_itemKnown, a_itemValue, a_blockEnd, a_openBlocks, a_levelCompares, a_levelLeft, a_levelSum, a_levelProduct⟩ := u
  obtain ⟨rfl, hT, hD⟩ := hX
  obtain ⟨rfl, rfl, rfl, d4, d5, d6, d7, d8, d9, d10, d11, d12, d13, d14⟩ := hD
  obtain ⟨hTT, hNN⟩ := pq_b hn hc
  unfold wpX_uses wpX_isDefinition
  refine xq_isItem _ _ _ _ _ _ _ _ _ _ _ _ _ _ _ _ _ _ _ _ _ _ _ _ _ _ hNN (fun z => ?_) (fun j hj hx => ?_)
  · rw [qa_lo z] at h; exact br_t rfl (br_t rfl h)
  · subst hx
    rw [qa_hi (by omega) hj] at h
    have hs2 : mn_so (pq_K c n) (pq_T c n) j ≤ 2 := ex_so_le _ _ _
    refine br_f (by decide) ⟨pk_in j 80 (by omega), pk_eq (mn_so (pq_K c n) (pq_T c n) j) 2 (fun z => br_f (by decide) ⟨pk_in j 80 (by omega), ?_⟩) (fun z => br_t rfl ?_) (ed_rt j (d10 j hj))⟩
    · rw [if_pos z] at h; rw [ed_rt j (d12 j hj)]; exact h
    · rw [if_neg z] at h; exact h
theorem yq_ul {post : Int32 → SY → Prop} (f_length f_itemCount f_blockCount f_looseCount f_numberCount f_operatorCount : Int32) (a_text a_kinds a_starts a_ends a_owners a_meant a_firsts a_lasts a_sorts a_blocks a_knowns a_values a_around a_depths a_compared a_numbers a_operators : Nat → Int32) {M : Nat → Option Nat} {T i : Nat} (hTT : T ≤ 80) (hi : i < 80) (hM : ed_ao a_meant M T) (hMl : ∀ t d, M t = some d → d < 80) (h : post (nI (mn_ct M i T)) (f_length, nI T, f_itemCount, f_blockCount, f_looseCount, f_numberCount, f_operatorCount, a_text, a_kinds, a_starts, a_ends, a_owners, a_meant, a_firsts, a_lasts, a_sorts, a_blocks, a_knowns, a_values, a_around, a_depths, a_compared, a_numbers, a_operators)) :
    ∀ d t, t + d = T → ∀ f, d < f → (wY_uses_25 post (nI i) f_length (nI T) f_itemCount f_blockCount f_looseCount f_numberCount f_operatorCount a_text a_kinds a_starts a_ends a_owners a_meant a_firsts a_lasts a_sorts a_blocks a_knowns a_values a_around a_depths a_compared a_numbers a_operators f (nI (mn_ct M i t)) (nI t)) := by
  intro d
  induction d with
  | zero =>
    intro t ht f hf
    obtain ⟨f, rfl⟩ : ∃ g, f = g + 1 := ⟨f - 1, by omega⟩
    have e : t = T := by omega
    subst e
    exact br_t (nI_le (Nat.le_refl _) (by omega)) h
  | succ d ih =>
    intro t ht f hf
    obtain ⟨f, rfl⟩ : ∃ g, f = g + 1 := ⟨f - 1, by omega⟩
    have ih := ih (t + 1) (by omega) f (by omega)
    have em : a_meant (nI t).toNatClampNeg = ed_oI (M t) := ed_rt t (hM t (by omega))
    have hiff := ed_oI_s (M t) (fun x hx => by have := hMl t x hx; omega) (u := i) (by omega)
    refine br_f (nI_ge (by omega) (by omega)) ⟨pk_in t 80 (by omega), ?_⟩
    rw [em]
    by_cases z : M t = some i
    · have e1 : mn_ct M i (t + 1) = mn_ct M i t + 1 := by show (if _ then _ else _) = _; rw [if_pos z]
      rw [e1] at ih
      exact br_t (hiff.mpr z) (nm_r (nI_1 _) (nm_r (nI_1 t) ih))
    · have e1 : mn_ct M i (t + 1) = mn_ct M i t := by show (if _ then _ else _) = _; rw [if_neg z]
      rw [e1] at ih
      exact br_f (fun y => z (hiff.mp y)) (nm_r (nI_1 t) ih)
theorem yq_uses {post : Int32 → SY → Prop} {c : Nat → Nat} {n : Nat} {v : SY} {x : Int32} (hn : n ≤ 80) (hc : ∀ j, j < n → c j ≤ 18) (hY : ed_RY c n v) (h : ∀ v', ed_RY c n v' → post (qa (pq_N c n) (fun i => if mn_so (pq_K c n) (pq_T c n) i = 2 then nI (mn_ct (pq_M c n) i (pq_T c n)) else -3) (-3) x) v') : wpY_uses post v x := by
  obtain ⟨hTT, hNN⟩ := pq_b hn hc
  obtain ⟨f_length, f_tokenCount, f_itemCount, f_blockCount, f_looseCount, f_numberCount, f_operatorCount, a_text, a_kinds, a_starts, a_ends, a_owners, a_meant, a_firsts, a_lasts, a_sorts, a_blocks, a_knowns, a_values, a_around, a_depths, a_compared, a_numbers, a_operators⟩ := v
  unfold wpY_uses
  refine yq_isItem hn hc hY (fun z f_blockCount f_numberCount f_operatorCount a_kinds a_starts a_ends a_owners a_meant a_firsts a_lasts a_sorts a_blocks a_knowns a_values a_around a_depths a_compared a_numbers a_operators a_text hT hD => ?_) (fun j hj hx f_blockCount f_numberCount f_operatorCount a_kinds a_starts a_ends a_owners a_meant a_firsts a_lasts a_sorts a_blocks a_knowns a_values a_around a_depths a_compared a_numbers a_operators a_text hT hD => ?_)
  · have h := h (nI n, nI (pq_T c n), nI (pq_N c n), f_blockCount, nI (pq_L c n), f_numberCount, f_operatorCount, a_text, a_kinds, a_starts, a_ends, a_owners, a_meant, a_firsts, a_lasts, a_sorts, a_blocks, a_knowns, a_values, a_around, a_depths, a_compared, a_numbers, a_operators) ⟨rfl, hT⟩
    rw [qa_lo z] at h
    exact br_t rfl h
  · have h := h (nI n, nI (pq_T c n), nI (pq_N c n), f_blockCount, nI (pq_L c n), f_numberCount, f_operatorCount, a_text, a_kinds, a_starts, a_ends, a_owners, a_meant, a_firsts, a_lasts, a_sorts, a_blocks, a_knowns, a_values, a_around, a_depths, a_compared, a_numbers, a_operators) ⟨rfl, hT⟩
    subst hx
    rw [qa_hi (by omega) hj] at h
    obtain ⟨e1, e2, e3, e4, e5, e6, e7, e8, e9, e10, e11, e12, e13, e14⟩ := hD
    have hs2 : mn_so (pq_K c n) (pq_T c n) j ≤ 2 := ex_so_le _ _ _
    refine br_f (by decide) ⟨pk_in j 80 (by omega), pk_eq (mn_so (pq_K c n) (pq_T c n) j) 2 (fun z => ?_) (fun z => ?_) (ed_rt j (e10 j hj))⟩
    · rw [if_pos z] at h
      refine ⟨pq_T c n + 1, ?_⟩
      exact yq_ul _ _ _ _ _ _ _ _ _ _ _ _ _ _ _ _ _ _ _ _ _ _ _ hTT (by omega) e8 (fun t d hd => by have := mn_mt_lt hd; omega) h (pq_T c n) 0 (by omega) _ (by omega)
    · rw [if_neg z] at h; exact h
def qw (so : Nat → Nat) : Nat → Nat → Int32 → Int32
  | 0, _, a => a
  | d + 1, i, a => qw so d (i + 1) (if so i = 0 then a + 1 else a)
def qd (V : Nat → Bool × Int32) : Nat → Nat → Int32 → Int32
  | 0, _, a => a
  | d + 1, i, a => qd V d (i + 1) (if (V i).1 then a + (nI i + 1) * (V i).2 else a)
theorem qd_t {V : Nat → Bool × Int32} {d i : Nat} {a : Int32} (h : (V i).1 = true) : qd V (d + 1) i a = qd V d (i + 1) (a + (nI i + 1) * (V i).2) := by
  show qd V d (i + 1) (if (V i).1 = true then _ else _) = _
  rw [if_pos h]
theorem qd_f {V : Nat → Bool × Int32} {d i : Nat} {a : Int32} (h : (V i).1 = false) : qd V (d + 1) i a = qd V d (i + 1) a := by
  show qd V d (i + 1) (if (V i).1 = true then _ else _) = _
  rw [if_neg (by rw [h]; decide)]
theorem qw_t {so : Nat → Nat} {d i : Nat} {a : Int32} (h : so i = 0) : qw so (d + 1) i a = qw so d (i + 1) (a + 1) := by
  show qw so d (i + 1) (if so i = 0 then _ else _) = _
  rw [if_pos h]
theorem qw_f {so : Nat → Nat} {d i : Nat} {a : Int32} (h : ¬ so i = 0) : qw so (d + 1) i a = qw so d (i + 1) a := by
  show qw so d (i + 1) (if so i = 0 then _ else _) = _
  rw [if_neg h]
theorem xq_wl {post : Int32 → Prop} (f_size f_tokenCount f_blockCount f_openCount f_looseCount : Int32) (a_text a_characterToken a_tokenKind a_tokenStart a_tokenEnd a_tokenItem a_tokenMeaning a_itemFirst a_itemEnd a_itemSort a_itemDepth a_itemBlock a_itemUses a_itemKnown a_itemValue a_blockEnd a_openBlocks a_levelCompares a_levelLeft a_levelSum a_levelProduct : Nat → Int32) {so : Nat → Nat} {N : Nat} (hN : N ≤ 80) (hs : ed_ag a_itemSort so N) (hs2 : ∀ i, so i ≤ 2) : ∀ d i a, i + d = N → ∀ f, d < f → post (qw so d i a) → (wX_wrong_4 post f_size f_tokenCount (nI N) f_blockCount f_openCount f_looseCount a_text a_characterToken a_tokenKind a_tokenStart a_tokenEnd a_tokenItem a_tokenMeaning a_itemFirst a_itemEnd a_itemSort a_itemDepth a_itemBlock a_itemUses a_itemKnown a_itemValue a_blockEnd a_openBlocks a_levelCompares a_levelLeft a_levelSum a_levelProduct f a (nI i)) := by
  intro d
  induction d with
  | zero =>
    intro i a hi f hf h
    obtain ⟨f, rfl⟩ : ∃ g, f = g + 1 := ⟨f - 1, by omega⟩
    have e : i = N := by omega
    subst e
    exact br_t (nI_le (Nat.le_refl _) (by omega)) h
  | succ d ih =>
    intro i a hi f hf h
    obtain ⟨f, rfl⟩ : ∃ g, f = g + 1 := ⟨f - 1, by omega⟩
    have hs3 := hs2 i
    refine br_f (nI_ge (by omega) (by omega)) ⟨pk_in i 80 (by omega), pk_eq (so i) 0 (fun z => ?_) (fun z => ?_) (ed_rt i (hs i (by omega)))⟩
    · rw [qw_t z] at h
      exact nm_e (nm_r (nI_1 i) (ih (i + 1) _ (by omega) f (by omega) h))
    · rw [qw_f z] at h
      exact nm_r (nI_1 i) (ih (i + 1) _ (by omega) f (by omega) h)
theorem yq_wl {post : Int32 → SY → Prop} (f_length f_tokenCount f_blockCount f_looseCount f_numberCount f_operatorCount : Int32) (a_text a_kinds a_starts a_ends a_owners a_meant a_firsts a_lasts a_sorts a_blocks a_knowns a_values a_around a_depths a_compared a_numbers a_operators : Nat → Int32) {so : Nat → Nat} {N : Nat} (hN : N ≤ 80) (hs : ed_ag a_sorts so N) (hs2 : ∀ i, so i ≤ 2) : ∀ d i a, i + d = N → ∀ f, d < f → post (qw so d i a) (f_length, f_tokenCount, nI N, f_blockCount, f_looseCount, f_numberCount, f_operatorCount, a_text, a_kinds, a_starts, a_ends, a_owners, a_meant, a_firsts, a_lasts, a_sorts, a_blocks, a_knowns, a_values, a_around, a_depths, a_compared, a_numbers, a_operators) → (wY_wrong_8 post f_length f_tokenCount (nI N) f_blockCount f_looseCount f_numberCount f_operatorCount a_text a_kinds a_starts a_ends a_owners a_meant a_firsts a_lasts a_sorts a_blocks a_knowns a_values a_around a_depths a_compared a_numbers a_operators f a (nI i)) := by
  intro d
  induction d with
  | zero =>
    intro i a hi f hf h
    obtain ⟨f, rfl⟩ : ∃ g, f = g + 1 := ⟨f - 1, by omega⟩
    have e : i = N := by omega
    subst e
    exact br_t (nI_le (Nat.le_refl _) (by omega)) h
  | succ d ih =>
    intro i a hi f hf h
    obtain ⟨f, rfl⟩ : ∃ g, f = g + 1 := ⟨f - 1, by omega⟩
    have hs3 := hs2 i
    refine br_f (nI_ge (by omega) (by omega)) ⟨pk_in i 80 (by omega), pk_eq (so i) 0 (fun z => ?_) (fun z => ?_) (ed_rt i (hs i (by omega)))⟩
    · rw [qw_t z] at h
      exact nm_e (nm_r (nI_1 i) (ih (i + 1) _ (by omega) f (by omega) h))
    · rw [qw_f z] at h
      exact nm_r (nI_1 i) (ih (i + 1) _ (by omega) f (by omega) h)
theorem xq_dl {post : Int32 → Prop} (f_size f_tokenCount f_blockCount f_openCount f_looseCount : Int32) (a_text a_characterToken a_tokenKind a_tokenStart a_tokenEnd a_tokenItem a_tokenMeaning a_itemFirst a_itemEnd a_itemSort a_itemDepth a_itemBlock a_itemUses a_itemKnown a_itemValue a_blockEnd a_openBlocks a_levelCompares a_levelLeft a_levelSum a_levelProduct : Nat → Int32) {V : Nat → Bool × Int32} {N : Nat} (hN : N ≤ 80) (hk : ed_ab a_itemKnown (fun i => (V i).1) N) (hv : ed_av a_itemValue (fun i => (V i).2) N) : ∀ d i a, i + d = N → ∀ f, d < f → post (qd V d i a) → (wX_digest_4 post f_size f_tokenCount (nI N) f_blockCount f_openCount f_looseCount a_text a_characterToken a_tokenKind a_tokenStart a_tokenEnd a_tokenItem a_tokenMeaning a_itemFirst a_itemEnd a_itemSort a_itemDepth a_itemBlock a_itemUses a_itemKnown a_itemValue a_blockEnd a_openBlocks a_levelCompares a_levelLeft a_levelSum a_levelProduct f a (nI i)) := by
  intro d
  induction d with
  | zero =>
    intro i a hi f hf h
    obtain ⟨f, rfl⟩ : ∃ g, f = g + 1 := ⟨f - 1, by omega⟩
    have e : i = N := by omega
    subst e
    exact br_t (nI_le (Nat.le_refl _) (by omega)) h
  | succ d ih =>
    intro i a hi f hf h
    obtain ⟨f, rfl⟩ : ∃ g, f = g + 1 := ⟨f - 1, by omega⟩
    have ek : a_itemKnown (nI i).toNatClampNeg = ed_bI (V i).1 := ed_rt i (hk i (by omega))
    refine br_f (nI_ge (by omega) (by omega)) ⟨pk_in i 80 (by omega), ?_⟩
    cases hb : (V i).1 with
    | false =>
      rw [hb] at ek
      rw [qd_f hb] at h
      exact br_t ek (nm_r (nI_1 i) (ih (i + 1) _ (by omega) f (by omega) h))
    | true =>
      rw [hb] at ek
      rw [qd_t hb] at h
      refine br_f (by rw [ek]; decide) ⟨pk_in i 80 (by omega), nm_r (e' := a + (nI i + 1) * (V i).2) ?_ (nm_r (nI_1 i) (ih (i + 1) _ (by omega) f (by omega) h))⟩
      rw [ed_rt i (hv i (by omega))]
theorem yq_dl {post : Int32 → SY → Prop} (f_length f_tokenCount f_blockCount f_looseCount f_numberCount f_operatorCount : Int32) (a_text a_kinds a_starts a_ends a_owners a_meant a_firsts a_lasts a_sorts a_blocks a_knowns a_values a_around a_depths a_compared a_numbers a_operators : Nat → Int32) {V : Nat → Bool × Int32} {N : Nat} (hN : N ≤ 80) (hk : ed_ab a_knowns (fun i => (V i).1) N) (hv : ed_av a_values (fun i => (V i).2) N) : ∀ d i a, i + d = N → ∀ f, d < f → post (qd V d i a) (f_length, f_tokenCount, nI N, f_blockCount, f_looseCount, f_numberCount, f_operatorCount, a_text, a_kinds, a_starts, a_ends, a_owners, a_meant, a_firsts, a_lasts, a_sorts, a_blocks, a_knowns, a_values, a_around, a_depths, a_compared, a_numbers, a_operators) → (wY_digest_8 post f_length f_tokenCount (nI N) f_blockCount f_looseCount f_numberCount f_operatorCount a_text a_kinds a_starts a_ends a_owners a_meant a_firsts a_lasts a_sorts a_blocks a_knowns a_values a_around a_depths a_compared a_numbers a_operators f a (nI i)) := by
  intro d
  induction d with
  | zero =>
    intro i a hi f hf h
    obtain ⟨f, rfl⟩ : ∃ g, f = g + 1 := ⟨f - 1, by omega⟩
    have e : i = N := by omega
    subst e
    exact br_t (nI_le (Nat.le_refl _) (by omega)) h
  | succ d ih =>
    intro i a hi f hf h
    obtain ⟨f, rfl⟩ : ∃ g, f = g + 1 := ⟨f - 1, by omega⟩
    have ek : a_knowns (nI i).toNatClampNeg = ed_bI (V i).1 := ed_rt i (hk i (by omega))
    refine br_f (nI_ge (by omega) (by omega)) ⟨pk_in i 80 (by omega), ?_⟩
    cases hb : (V i).1 with
    | false =>
      rw [hb] at ek
      rw [qd_f hb] at h
      exact br_t ek (nm_r (nI_1 i) (ih (i + 1) _ (by omega) f (by omega) h))
    | true =>
      rw [hb] at ek
      rw [qd_t hb] at h
      refine br_f (by rw [ek]; decide) ⟨pk_in i 80 (by omega), nm_r (e' := a + (nI i + 1) * (V i).2) ?_ (nm_r (nI_1 i) (ih (i + 1) _ (by omega) f (by omega) h))⟩
      rw [ed_rt i (hv i (by omega))]
end
end
section
section
/-! what is owed for the questions -/
theorem i_vc_kind {k : Nat} {u : SX} {v : SY} (I : i_Rel k u v) (hk : k + 5 ≤ 2560) (v1 : Int32) : wpX_kind (fun r => wpY_kind (fun r' v' => r' = r ∧ i_Rel (k + 5) u v') v v1) u v1 := by
  obtain ⟨c, n, hn, hc, hX, hY⟩ := I
  exact xq_kind hn hc hX (yq_kind hn hc hY (fun v' h => ⟨rfl, c, n, hn, hc, hX, h⟩))
theorem i_vc_start {k : Nat} {u : SX} {v : SY} (I : i_Rel k u v) (hk : k + 5 ≤ 2560) (v1 : Int32) : wpX_start (fun r => wpY_start (fun r' v' => r' = r ∧ i_Rel (k + 5) u v') v v1) u v1 := by
  obtain ⟨c, n, hn, hc, hX, hY⟩ := I
  exact xq_start hn hc hX (yq_start hn hc hY (fun v' h => ⟨rfl, c, n, hn, hc, hX, h⟩))
theorem i_vc_tokenAt {k : Nat} {u : SX} {v : SY} (I : i_Rel k u v) (hk : k + 5 ≤ 2560) (v1 : Int32) : wpX_tokenAt (fun r => wpY_tokenAt (fun r' v' => r' = r ∧ i_Rel (k + 5) u v') v v1) u v1 := by
  obtain ⟨c, n, hn, hc, hX, hY⟩ := I
  exact xq_tokenAt hn hc hX (yq_tokenAt hn hc hY (fun v' h => ⟨rfl, c, n, hn, hc, hX, h⟩))
theorem i_vc_sort {k : Nat} {u : SX} {v : SY} (I : i_Rel k u v) (hk : k + 5 ≤ 2560) (v1 : Int32) : wpX_sort (fun r => wpY_sort (fun r' v' => r' = r ∧ i_Rel (k + 5) u v') v v1) u v1 := by
  obtain ⟨c, n, hn, hc, hX, hY⟩ := I
  exact xq_sort hn hc hX (yq_sort hn hc hY (fun v' h => ⟨rfl, c, n, hn, hc, hX, h⟩))
theorem i_vc_itemOf {k : Nat} {u : SX} {v : SY} (I : i_Rel k u v) (hk : k + 5 ≤ 2560) (v1 : Int32) : wpX_itemOf (fun r => wpY_itemOf (fun r' v' => r' = r ∧ i_Rel (k + 5) u v') v v1) u v1 := by
  obtain ⟨c, n, hn, hc, hX, hY⟩ := I
  exact xq_itemOf hn hc hX (yq_itemOf hn hc hY (fun v' h => ⟨rfl, c, n, hn, hc, hX, h⟩))
theorem i_vc_depth {k : Nat} {u : SX} {v : SY} (I : i_Rel k u v) (hk : k + 5 ≤ 2560) (v1 : Int32) : wpX_depth (fun r => wpY_depth (fun r' v' => r' = r ∧ i_Rel (k + 5) u v') v v1) u v1 := by
  obtain ⟨c, n, hn, hc, hX, hY⟩ := I
  exact xq_depth hn hc hX (yq_depth hn hc hY (fun v' h => ⟨rfl, c, n, hn, hc, hX, h⟩))
theorem i_vc_known {k : Nat} {u : SX} {v : SY} (I : i_Rel k u v) (hk : k + 5 ≤ 2560) (v1 : Int32) : wpX_known (fun r => wpY_known (fun r' v' => r' = r ∧ i_Rel (k + 5) u v') v v1) u v1 := by
  obtain ⟨c, n, hn, hc, hX, hY⟩ := I
  exact xq_known hn hc hX (yq_known hn hc hY (fun v' h => ⟨rfl, c, n, hn, hc, hX, h⟩))
theorem i_vc_value {k : Nat} {u : SX} {v : SY} (I : i_Rel k u v) (hk : k + 5 ≤ 2560) (v1 : Int32) : wpX_value (fun r => wpY_value (fun r' v' => r' = r ∧ i_Rel (k + 5) u v') v v1) u v1 := by
  obtain ⟨c, n, hn, hc, hX, hY⟩ := I
  exact xq_value hn hc hX (yq_value hn hc hY (fun v' h => ⟨rfl, c, n, hn, hc, hX, h⟩))
theorem i_vc_meaning {k : Nat} {u : SX} {v : SY} (I : i_Rel k u v) (hk : k + 5 ≤ 2560) (v1 : Int32) : wpX_meaning (fun r => wpY_meaning (fun r' v' => r' = r ∧ i_Rel (k + 5) u v') v v1) u v1 := by
  obtain ⟨c, n, hn, hc, hX, hY⟩ := I
  exact xq_meaning hn hc hX (yq_meaning hn hc hY (fun v' h => ⟨rfl, c, n, hn, hc, hX, h⟩))
theorem i_vc_uses {k : Nat} {u : SX} {v : SY} (I : i_Rel k u v) (hk : k + 5 ≤ 2560) (v1 : Int32) : wpX_uses (fun r => wpY_uses (fun r' v' => r' = r ∧ i_Rel (k + 5) u v') v v1) u v1 := by
  obtain ⟨c, n, hn, hc, hX, hY⟩ := I
  exact xq_uses hn hc hX (yq_uses hn hc hY (fun v' h => ⟨rfl, c, n, hn, hc, hX, h⟩))
theorem i_vc_character {k : Nat} {u : SX} {v : SY} (I : i_Rel k u v) (hk : k + 5 ≤ 2560) (v1 : Int32) : wpX_character (fun r => wpY_character (fun r' => r' = r ∧ i_Rel (k + 5) u v) v v1) u v1 := by
  have I2 := I
  obtain ⟨c, n, hn, hc, hX, hY⟩ := I
  exact xq_character hn hc hX (yq_character hn hc hY ⟨rfl, I2⟩)
theorem i_vc_length {k : Nat} {u : SX} {v : SY} (I : i_Rel k u v) (hk : k + 5 ≤ 2560) : wpX_length (fun r => wpY_length (fun r' => r' = r ∧ i_Rel (k + 5) u v) v) u := by
  have I2 := I
  obtain ⟨c, n, hn, hc, hX, hY⟩ := I
  obtain ⟨f_size, f_tokenCount, f_itemCount, f_blockCount, f_openCount, f_looseCount, a_text, a_characterToken, a_tokenKind, a_tokenStart, a_tokenEnd, a_tokenItem, a_tokenMeaning, a_itemFirst, a_itemEnd, a_itemSort, a_itemDepth, a_itemBlock, a_itemUses, a_itemKnown, a_itemValue, a_blockEnd, a_openBlocks, a_levelCompares, a_levelLeft, a_levelSum, a_levelProduct⟩ := u
  obtain ⟨f_length, f_tokenCount', f_itemCount', f_blockCount', f_looseCount', f_numberCount, f_operatorCount, a_text', a_kinds, a_starts, a_ends, a_owners, a_meant, a_firsts, a_lasts, a_sorts, a_blocks, a_knowns, a_values, a_around, a_depths, a_compared, a_numbers, a_operators⟩ := v
  obtain ⟨rfl, _, _⟩ := hX
  obtain ⟨rfl, _⟩ := hY
  exact ⟨rfl, I2⟩
theorem yq_tokens {post : Int32 → SY → Prop} {c : Nat → Nat} {n : Nat} {v : SY} (hn : n ≤ 80) (hc : ∀ j, j < n → c j ≤ 18) (hY : ed_RY c n v) (h : ∀ v', ed_RY c n v' → post (nI (pq_T c n)) v') : wpY_tokens post v := by
  obtain ⟨f_length, f_tokenCount, f_itemCount, f_blockCount, f_looseCount, f_numberCount, f_operatorCount, a_text, a_kinds, a_starts, a_ends, a_owners, a_meant, a_firsts, a_lasts, a_sorts, a_blocks, a_knowns, a_values, a_around, a_depths, a_compared, a_numbers, a_operators⟩ := v
  unfold wpY_tokens
  refine yq_rd hn hc hY (fun f_blockCount f_numberCount f_operatorCount a_kinds a_starts a_ends a_owners a_meant a_firsts a_lasts a_sorts a_blocks a_knowns a_values a_around a_depths a_compared a_numbers a_operators a_text hT hD => ?_)
  exact h (nI n, nI (pq_T c n), nI (pq_N c n), f_blockCount, nI (pq_L c n), f_numberCount, f_operatorCount, a_text, a_kinds, a_starts, a_ends, a_owners, a_meant, a_firsts, a_lasts, a_sorts, a_blocks, a_knowns, a_values, a_around, a_depths, a_compared, a_numbers, a_operators) ⟨rfl, hT⟩
theorem i_vc_tokens {k : Nat} {u : SX} {v : SY} (I : i_Rel k u v) (hk : k + 5 ≤ 2560) : wpX_tokens (fun r => wpY_tokens (fun r' v' => r' = r ∧ i_Rel (k + 5) u v') v) u := by
  obtain ⟨c, n, hn, hc, hX, hY⟩ := I
  have hX2 := hX
  obtain ⟨f_size, f_tokenCount, f_itemCount, f_blockCount, f_openCount, f_looseCount, a_text, a_characterToken, a_tokenKind, a_tokenStart, a_tokenEnd, a_tokenItem, a_tokenMeaning, a_itemFirst, a_itemEnd, a_itemSort, a_itemDepth, a_itemBlock, a_itemUses, a_itemKnown, a_itemValue, a_blockEnd, a_openBlocks, a_levelCompares, a_levelLeft, a_levelSum, a_levelProduct⟩ := u
  obtain ⟨rfl, hT, hD⟩ := hX
  obtain ⟨rfl, rfl, rfl, _⟩ := hD
  unfold wpX_tokens
  exact yq_tokens hn hc hY (fun v' h => ⟨rfl, c, n, hn, hc, hX2, h⟩)
theorem yq_items {post : Int32 → SY → Prop} {c : Nat → Nat} {n : Nat} {v : SY} (hn : n ≤ 80) (hc : ∀ j, j < n → c j ≤ 18) (hY : ed_RY c n v) (h : ∀ v', ed_RY c n v' → post (nI (pq_N c n)) v') : wpY_items post v := by
  obtain ⟨f_length, f_tokenCount, f_itemCount, f_blockCount, f_looseCount, f_numberCount, f_operatorCount, a_text, a_kinds, a_starts, a_ends, a_owners, a_meant, a_firsts, a_lasts, a_sorts, a_blocks, a_knowns, a_values, a_around, a_depths, a_compared, a_numbers, a_operators⟩ := v
  unfold wpY_items
  refine yq_rd hn hc hY (fun f_blockCount f_numberCount f_operatorCount a_kinds a_starts a_ends a_owners a_meant a_firsts a_lasts a_sorts a_blocks a_knowns a_values a_around a_depths a_compared a_numbers a_operators a_text hT hD => ?_)
  exact h (nI n, nI (pq_T c n), nI (pq_N c n), f_blockCount, nI (pq_L c n), f_numberCount, f_operatorCount, a_text, a_kinds, a_starts, a_ends, a_owners, a_meant, a_firsts, a_lasts, a_sorts, a_blocks, a_knowns, a_values, a_around, a_depths, a_compared, a_numbers, a_operators) ⟨rfl, hT⟩
theorem i_vc_items {k : Nat} {u : SX} {v : SY} (I : i_Rel k u v) (hk : k + 5 ≤ 2560) : wpX_items (fun r => wpY_items (fun r' v' => r' = r ∧ i_Rel (k + 5) u v') v) u := by
  obtain ⟨c, n, hn, hc, hX, hY⟩ := I
  have hX2 := hX
  obtain ⟨f_size, f_tokenCount, f_itemCount, f_blockCount, f_openCount, f_looseCount, a_text, a_characterToken, a_tokenKind, a_tokenStart, a_tokenEnd, a_tokenItem, a_tokenMeaning, a_itemFirst, a_itemEnd, a_itemSort, a_itemDepth, a_itemBlock, a_itemUses, a_itemKnown, a_itemValue, a_blockEnd, a_openBlocks, a_levelCompares, a_levelLeft, a_levelSum, a_levelProduct⟩ := u
  obtain ⟨rfl, hT, hD⟩ := hX
  obtain ⟨rfl, rfl, rfl, _⟩ := hD
  unfold wpX_items
  exact yq_items hn hc hY (fun v' h => ⟨rfl, c, n, hn, hc, hX2, h⟩)
theorem yq_loose {post : Int32 → SY → Prop} {c : Nat → Nat} {n : Nat} {v : SY} (hn : n ≤ 80) (hc : ∀ j, j < n → c j ≤ 18) (hY : ed_RY c n v) (h : ∀ v', ed_RY c n v' → post (nI (pq_L c n)) v') : wpY_loose post v := by
  obtain ⟨f_length, f_tokenCount, f_itemCount, f_blockCount, f_looseCount, f_numberCount, f_operatorCount, a_text, a_kinds, a_starts, a_ends, a_owners, a_meant, a_firsts, a_lasts, a_sorts, a_blocks, a_knowns, a_values, a_around, a_depths, a_compared, a_numbers, a_operators⟩ := v
  unfold wpY_loose
  refine yq_rd hn hc hY (fun f_blockCount f_numberCount f_operatorCount a_kinds a_starts a_ends a_owners a_meant a_firsts a_lasts a_sorts a_blocks a_knowns a_values a_around a_depths a_compared a_numbers a_operators a_text hT hD => ?_)
  exact h (nI n, nI (pq_T c n), nI (pq_N c n), f_blockCount, nI (pq_L c n), f_numberCount, f_operatorCount, a_text, a_kinds, a_starts, a_ends, a_owners, a_meant, a_firsts, a_lasts, a_sorts, a_blocks, a_knowns, a_values, a_around, a_depths, a_compared, a_numbers, a_operators) ⟨rfl, hT⟩
theorem i_vc_loose {k : Nat} {u : SX} {v : SY} (I : i_Rel k u v) (hk : k + 5 ≤ 2560) : wpX_loose (fun r => wpY_loose (fun r' v' => r' = r ∧ i_Rel (k + 5) u v') v) u := by
  obtain ⟨c, n, hn, hc, hX, hY⟩ := I
  have hX2 := hX
  obtain ⟨f_size, f_tokenCount, f_itemCount, f_blockCount, f_openCount, f_looseCount, a_text, a_characterToken, a_tokenKind, a_tokenStart, a_tokenEnd, a_tokenItem, a_tokenMeaning, a_itemFirst, a_itemEnd, a_itemSort, a_itemDepth, a_itemBlock, a_itemUses, a_itemKnown, a_itemValue, a_blockEnd, a_openBlocks, a_levelCompares, a_levelLeft, a_levelSum, a_levelProduct⟩ := u
  obtain ⟨rfl, hT, hD⟩ := hX
  obtain ⟨rfl, rfl, rfl, _⟩ := hD
  unfold wpX_loose
  exact yq_loose hn hc hY (fun v' h => ⟨rfl, c, n, hn, hc, hX2, h⟩)
theorem i_vc_wrong {k : Nat} {u : SX} {v : SY} (I : i_Rel k u v) (hk : k + 5 ≤ 2560) : wpX_wrong (fun r => wpY_wrong (fun r' v' => r' = r ∧ i_Rel (k + 5) u v') v) u := by
  obtain ⟨c, n, hn, hc, hX, hY⟩ := I
  have hX2 := hX
  obtain ⟨hTT, hNN⟩ := pq_b hn hc
  obtain ⟨f_size, f_tokenCount, f_itemCount, f_blockCount, f_openCount, f_looseCount, a_text, a_characterToken, a_tokenKind, a_tokenStart, a_tokenEnd, a_tokenItem, a_tokenMeaning, a_itemFirst, a_itemEnd, a_itemSort, a_itemDepth, a_itemBlock, a_itemUses, a_itemKnown, a_itemValue, a_blockEnd, a_openBlocks, a_levelCompares, a_levelLeft, a_levelSum, a_levelProduct⟩ := u
  obtain ⟨rfl, hT, hD⟩ := hX
  obtain ⟨rfl, rfl, rfl, d4, d5, d6, d7, d8, d9, d10, d11, d12, d13, d14⟩ := hD
  refine ⟨pq_N c n + 1, ?_⟩
  refine xq_wl _ _ _ _ _ _ _ _ _ _ _ _ _ _ _ _ _ _ _ _ _ _ _ _ _ _ hNN d10 (fun i => ex_so_le _ _ _) (pq_N c n) 0 0 (by omega) _ (by omega) ?_
  clear d4 d5 d6 d7 d8 d9 d10 d11 d12 d13 d14
  obtain ⟨f_length, f_tokenCount', f_itemCount', f_blockCount', f_looseCount', f_numberCount, f_operatorCount, a_text', a_kinds, a_starts, a_ends, a_owners, a_meant, a_firsts, a_lasts, a_sorts, a_blocks, a_knowns, a_values, a_around, a_depths, a_compared, a_numbers, a_operators⟩ := v
  unfold wpY_wrong
  refine yq_rd hn hc hY (fun f_blockCount f_numberCount f_operatorCount a_kinds a_starts a_ends a_owners a_meant a_firsts a_lasts a_sorts a_blocks a_knowns a_values a_around a_depths a_compared a_numbers a_operators a_text' hT' hD' => ?_)
  obtain ⟨e1, e2, e3, e4, e5, e6, e7, e8, e9, e10, e11, e12, e13, e14⟩ := hD'
  refine ⟨pq_N c n + 1, ?_⟩
  exact yq_wl _ _ _ _ _ _ _ _ _ _ _ _ _ _ _ _ _ _ _ _ _ _ _ hNN e10 (fun i => ex_so_le _ _ _) (pq_N c n) 0 0 (by omega) _ (by omega) ⟨rfl, c, n, hn, hc, hX2, rfl, hT'⟩
theorem i_vc_digest {k : Nat} {u : SX} {v : SY} (I : i_Rel k u v) (hk : k + 5 ≤ 2560) : wpX_digest (fun r => wpY_digest (fun r' v' => r' = r ∧ i_Rel (k + 5) u v') v) u := by
  obtain ⟨c, n, hn, hc, hX, hY⟩ := I
  have hX2 := hX
  obtain ⟨hTT, hNN⟩ := pq_b hn hc
  obtain ⟨f_size, f_tokenCount, f_itemCount, f_blockCount, f_openCount, f_looseCount, a_text, a_characterToken, a_tokenKind, a_tokenStart, a_tokenEnd, a_tokenItem, a_tokenMeaning, a_itemFirst, a_itemEnd, a_itemSort, a_itemDepth, a_itemBlock, a_itemUses, a_itemKnown, a_itemValue, a_blockEnd, a_openBlocks, a_levelCompares, a_levelLeft, a_levelSum, a_levelProduct⟩ := u
  obtain ⟨rfl, hT, hD⟩ := hX
  obtain ⟨rfl, rfl, rfl, d4, d5, d6, d7, d8, d9, d10, d11, d12, d13, d14⟩ := hD
  refine ⟨pq_N c n + 1, ?_⟩
  refine xq_dl _ _ _ _ _ _ _ _ _ _ _ _ _ _ _ _ _ _ _ _ _ _ _ _ _ _ hNN d13 d14 (pq_N c n) 0 0 (by omega) _ (by omega) ?_
  clear d4 d5 d6 d7 d8 d9 d10 d11 d12 d13 d14
  obtain ⟨f_length, f_tokenCount', f_itemCount', f_blockCount', f_looseCount', f_numberCount, f_operatorCount, a_text', a_kinds, a_starts, a_ends, a_owners, a_meant, a_firsts, a_lasts, a_sorts, a_blocks, a_knowns, a_values, a_around, a_depths, a_compared, a_numbers, a_operators⟩ := v
  unfold wpY_digest
  refine yq_rd hn hc hY (fun f_blockCount f_numberCount f_operatorCount a_kinds a_starts a_ends a_owners a_meant a_firsts a_lasts a_sorts a_blocks a_knowns a_values a_around a_depths a_compared a_numbers a_operators a_text' hT' hD' => ?_)
  obtain ⟨e1, e2, e3, e4, e5, e6, e7, e8, e9, e10, e11, e12, e13, e14⟩ := hD'
  refine ⟨pq_N c n + 1, ?_⟩
  exact yq_dl _ _ _ _ _ _ _ _ _ _ _ _ _ _ _ _ _ _ _ _ _ _ _ hNN e13 e14 (pq_N c n) 0 0 (by omega) _ (by omega) ⟨rfl, c, n, hn, hc, hX2, rfl, hT'⟩
end
end
section
section
/-! new object, clear, insert, remove -/
theorem i_vc0 : wpX_init (fun u => wpY_init (fun v => i_Rel 0 u v)) := by
  refine ⟨fun _ => 0, 0, by omega, fun j hj => absurd hj (Nat.not_lt_zero _), ⟨rfl, fun j hj => absurd hj (Nat.not_lt_zero _), rfl, rfl, rfl, ?_, ?_, ?_, ?_, ?_, ?_, ?_, ?_, ?_, ?_, ?_⟩, ⟨rfl, fun j hj => absurd hj (Nat.not_lt_zero _)⟩⟩
  all_goals exact fun j hj => absurd hj (Nat.not_lt_zero _)
theorem i_vc_clear {k : Nat} {u : SX} {v : SY} (I : i_Rel k u v) (hk : k + 5 ≤ 2560) : wpX_clear (fun u' => wpY_clear (fun v' => i_Rel (k + 5) u' v') v) u := by
  obtain ⟨c, n, hn, hc, hX, hY⟩ := I
  obtain ⟨f_size, f_tokenCount, f_itemCount, f_blockCount, f_openCount, f_looseCount, a_text, a_characterToken, a_tokenKind, a_tokenStart, a_tokenEnd, a_tokenItem, a_tokenMeaning, a_itemFirst, a_itemEnd, a_itemSort, a_itemDepth, a_itemBlock, a_itemUses, a_itemKnown, a_itemValue, a_blockEnd, a_openBlocks, a_levelCompares, a_levelLeft, a_levelSum, a_levelProduct⟩ := u
  unfold wpX_clear
  refine xr_read (c := c) (n := 0) (by omega) (fun j hj => absurd hj (Nat.not_lt_zero _)) (fun j hj => absurd hj (Nat.not_lt_zero _)) (fun f_tokenCount f_itemCount f_blockCount f_openCount f_looseCount a_characterToken a_tokenKind a_tokenStart a_tokenEnd a_tokenItem a_tokenMeaning a_itemFirst a_itemEnd a_itemSort a_itemDepth a_itemBlock a_itemUses a_itemKnown a_itemValue a_blockEnd a_openBlocks a_levelCompares a_levelLeft a_levelSum a_levelProduct hD => ?_)
  obtain ⟨f_length, f_tokenCount', f_itemCount', f_blockCount', f_looseCount', f_numberCount, f_operatorCount, a_text', a_kinds, a_starts, a_ends, a_owners, a_meant, a_firsts, a_lasts, a_sorts, a_blocks, a_knowns, a_values, a_around, a_depths, a_compared, a_numbers, a_operators⟩ := v
  exact ⟨c, 0, by omega, fun j hj => absurd hj (Nat.not_lt_zero _), ⟨rfl, fun j hj => absurd hj (Nat.not_lt_zero _), hD⟩, ⟨rfl, fun j hj => absurd hj (Nat.not_lt_zero _)⟩⟩
def es_in (c : Nat → Nat) (p ch : Nat) : Nat → Nat := fun j => if j < p then c j else if j = p then ch else c (j - 1)
def es_rm (c : Nat → Nat) (p m : Nat) : Nat → Nat := fun j => if j < p then c j else c (j + m)
theorem es_in18 {c : Nat → Nat} {n p ch : Nat} (hc : ∀ j, j < n → c j ≤ 18) (hp : p ≤ n) (hch : ch ≤ 18) : ∀ j, j < n + 1 → es_in c p ch j ≤ 18 := by
  intro j hj
  unfold es_in
  split
  · exact hc j (by omega)
  · split
    · exact hch
    · exact hc (j - 1) (by omega)
theorem es_rm18 {c : Nat → Nat} {n p m : Nat} (hc : ∀ j, j < n → c j ≤ 18) (hp : p + m ≤ n) : ∀ j, j < n - m → es_rm c p m j ≤ 18 := by
  intro j hj
  unfold es_rm
  split
  · exact hc j (by omega)
  · exact hc (j + m) (by omega)
theorem es_inA {A : Nat → Int32} {c : Nat → Nat} {n p ch : Nat} (hp : p ≤ n) (h1 : ∀ j, j < p → A j = nI (c j)) (h2 : ∀ j, p < j → j ≤ n → A j = nI (c (j - 1))) : ed_ag (upd A p (nI ch)) (es_in c p ch) (n + 1) := by
  intro j hj
  unfold es_in
  by_cases z : j = p
  · subst z; rw [pk_us, if_neg (by omega), if_pos rfl]
  · rw [pk_un z]
    by_cases y : j < p
    · rw [if_pos y]; exact h1 j y
    · rw [if_neg y, if_neg z]; exact h2 j (by omega) (by omega)
theorem es_rmA {A : Nat → Int32} {c : Nat → Nat} {n p m : Nat} (h1 : ∀ j, j < p → A j = nI (c j)) (h2 : ∀ j, p ≤ j → j + m < n → A j = nI (c (j + m))) : ed_ag A (es_rm c p m) (n - m) := by
  intro j hj
  unfold es_rm
  by_cases y : j < p
  · rw [if_pos y]; exact h1 j y
  · rw [if_neg y]; exact h2 j (by omega) (by omega)
end
section
variable {f_size f_tokenCount f_itemCount f_blockCount f_openCount f_looseCount : Int32} {a_text a_characterToken a_tokenKind a_tokenStart a_tokenEnd a_tokenItem a_tokenMeaning a_itemFirst a_itemEnd a_itemSort a_itemDepth a_itemBlock a_itemUses a_itemKnown a_itemValue a_blockEnd a_openBlocks a_levelCompares a_levelLeft a_levelSum a_levelProduct : Nat → Int32}
theorem xs_in {post : Int32 → SX → Prop} {c : Nat → Nat} {n p ch : Nat} (hn : n < 80) (hp : p ≤ n) (hc : ∀ j, j < n → c j ≤ 18) (hch : ch ≤ 18) (h : ∀ u', ed_RX (es_in c p ch) (n + 1) u' → post (nI (n + 1)) u') :
    ∀ d q, q = p + d → q ≤ n → ∀ f, d < f → ∀ a_text : Nat → Int32, (∀ j, j < q → a_text j = nI (c j)) → (∀ j, q < j → j ≤ n → a_text j = nI (c (j - 1))) → (wX_insert_41 post (nI p) (nI ch) (nI n) f_tokenCount f_itemCount f_blockCount f_openCount f_looseCount f (nI q) a_text a_characterToken a_tokenKind a_tokenStart a_tokenEnd a_tokenItem a_tokenMeaning a_itemFirst a_itemEnd a_itemSort a_itemDepth a_itemBlock a_itemUses a_itemKnown a_itemValue a_blockEnd a_openBlocks a_levelCompares a_levelLeft a_levelSum a_levelProduct) := by
  intro d
  induction d with
  | zero =>
    intro q hq hqn f hf A g1 g2
    obtain ⟨f, rfl⟩ : ∃ g, f = g + 1 := ⟨f - 1, by omega⟩
    have e : q = p := by omega
    subst e
    refine br_t (nI_le (Nat.le_refl _) (by omega)) ⟨pk_in q 80 (by omega), ed_nu q (nm_r (nI_1 n) ?_)⟩
    have hA : ed_ag (upd A q (nI ch)) (es_in c q ch) (n + 1) := es_inA hp g1 g2
    exact xr_read (n := n + 1) (by omega) (es_in18 hc hp hch) hA (fun _ _ _ _ _ _ _ _ _ _ _ _ _ _ _ _ _ _ _ _ _ _ _ _ _ hD => h _ ⟨rfl, hA, hD⟩)
  | succ d ih =>
    intro q hq hqn f hf A g1 g2
    obtain ⟨f, rfl⟩ : ∃ g, f = g + 1 := ⟨f - 1, by omega⟩
    obtain ⟨q, rfl⟩ : ∃ g, q = g + 1 := ⟨q - 1, by omega⟩
    refine br_f (nI_ge (by omega) (by omega)) ⟨pk_in q 80 (by omega) (nI_pred q), pk_in (q + 1) 80 (by omega), ed_nuv (q + 1) (nI (c q)) (ed_rt q (g1 q (by omega)) (nI_pred q)) (nm_r (pk_m1 q) ?_)⟩
    refine ih q (by omega) (by omega) f (by omega) _ (fun j hj => ?_) (fun j hj1 hj2 => ?_)
    · rw [pk_un (by omega)]; exact g1 j (by omega)
    · by_cases z : j = q + 1
      · subst z; rw [pk_us]; rfl
      · rw [pk_un z]; exact g2 j (by omega) hj2
theorem xs_rm {post : Int32 → SX → Prop} {c : Nat → Nat} {n p m : Nat} (hn : n ≤ 80) (hp : p + m ≤ n) (hc : ∀ j, j < n → c j ≤ 18) (h : ∀ u', ed_RX (es_rm c p m) (n - m) u' → post (nI (n - m)) u') :
    ∀ d q, q + d = n → p + m ≤ q → ∀ f, d < f → ∀ a_text : Nat → Int32, (∀ j, j < p → a_text j = nI (c j)) → (∀ j, p ≤ j → j + m < q → a_text j = nI (c (j + m))) → (∀ j, q ≤ j → j < n → a_text j = nI (c j)) → (wX_remove_32 post (nI m) (nI n) f_tokenCount f_itemCount f_blockCount f_openCount f_looseCount f (nI q) a_text a_characterToken a_tokenKind a_tokenStart a_tokenEnd a_tokenItem a_tokenMeaning a_itemFirst a_itemEnd a_itemSort a_itemDepth a_itemBlock a_itemUses a_itemKnown a_itemValue a_blockEnd a_openBlocks a_levelCompares a_levelLeft a_levelSum a_levelProduct) := by
  intro d
  induction d with
  | zero =>
    intro q hq hpq f hf A g1 g2 g3
    obtain ⟨f, rfl⟩ : ∃ g, f = g + 1 := ⟨f - 1, by omega⟩
    have e : q = n := by omega
    subst e
    refine br_t (nI_le (Nat.le_refl _) (by omega)) (nm_r (pk_sub (by omega)) ?_)
    have hA : ed_ag A (es_rm c p m) (q - m) := es_rmA g1 g2
    exact xr_read (n := q - m) (by omega) (es_rm18 hc hp) hA (fun _ _ _ _ _ _ _ _ _ _ _ _ _ _ _ _ _ _ _ _ _ _ _ _ _ hD => h _ ⟨rfl, hA, hD⟩)
  | succ d ih =>
    intro q hq hpq f hf A g1 g2 g3
    obtain ⟨f, rfl⟩ : ∃ g, f = g + 1 := ⟨f - 1, by omega⟩
    refine br_f (nI_ge (by omega) (by omega)) ⟨pk_in q 80 (by omega), pk_in (q - m) 80 (by omega) (pk_sub (by omega)), ed_nuv (q - m) (nI (c q)) (ed_rt q (g3 q (Nat.le_refl _) (by omega))) (nm_r (nI_1 q) ?_) (pk_sub (by omega))⟩
    refine ih (q + 1) (by omega) (by omega) f (by omega) _ (fun j hj => ?_) (fun j hj1 hj2 => ?_) (fun j hj1 hj2 => ?_)
    · rw [pk_un (by omega)]; exact g1 j hj
    · by_cases z : j = q - m
      · subst z; rw [pk_us, show q - m + m = q from by omega]
      · rw [pk_un z]; exact g2 j hj1 (by omega)
    · rw [pk_un (by omega)]; exact g3 j (by omega) hj2
end
section
variable {f_length f_tokenCount f_itemCount f_blockCount f_looseCount f_numberCount f_operatorCount : Int32} {a_text a_kinds a_starts a_ends a_owners a_meant a_firsts a_lasts a_sorts a_blocks a_knowns a_values a_around a_depths a_compared a_numbers a_operators : Nat → Int32}
theorem ys_in {post : SY → Prop} {c : Nat → Nat} {n p ch : Nat} (hn : n < 80) (hp : p ≤ n) (h : ∀ a_text : Nat → Int32, ed_ag a_text (es_in c p ch) (n + 1) → post (nI (n + 1), f_tokenCount, f_itemCount, f_blockCount, f_looseCount, f_numberCount, f_operatorCount, a_text, a_kinds, a_starts, a_ends, a_owners, a_meant, a_firsts, a_lasts, a_sorts, a_blocks, a_knowns, a_values, a_around, a_depths, a_compared, a_numbers, a_operators)) :
    ∀ d q, q = p + d → q ≤ n → ∀ f, d < f → ∀ a_text : Nat → Int32, (∀ j, j < q → a_text j = nI (c j)) → (∀ j, q < j → j ≤ n → a_text j = nI (c (j - 1))) → (wY_putIn_5 post (nI p) (nI ch) (nI n) f_tokenCount f_itemCount f_blockCount f_looseCount f_numberCount f_operatorCount f (nI q) a_text a_kinds a_starts a_ends a_owners a_meant a_firsts a_lasts a_sorts a_blocks a_knowns a_values a_around a_depths a_compared a_numbers a_operators) := by
  intro d
  induction d with
  | zero =>
    intro q hq hqn f hf A g1 g2
    obtain ⟨f, rfl⟩ : ∃ g, f = g + 1 := ⟨f - 1, by omega⟩
    have e : q = p := by omega
    subst e
    exact br_t (nI_le (Nat.le_refl _) (by omega)) ⟨pk_in q 81 (by omega), ed_nu q (nm_r (nI_1 n) (h _ (es_inA hp g1 g2)))⟩
  | succ d ih =>
    intro q hq hqn f hf A g1 g2
    obtain ⟨f, rfl⟩ : ∃ g, f = g + 1 := ⟨f - 1, by omega⟩
    obtain ⟨q, rfl⟩ : ∃ g, q = g + 1 := ⟨q - 1, by omega⟩
    refine br_f (nI_ge (by omega) (by omega)) ⟨pk_in q 81 (by omega) (nI_pred q), pk_in (q + 1) 81 (by omega), ed_nuv (q + 1) (nI (c q)) (ed_rt q (g1 q (by omega)) (nI_pred q)) (nm_r (pk_m1 q) ?_)⟩
    refine ih q (by omega) (by omega) f (by omega) _ (fun j hj => ?_) (fun j hj1 hj2 => ?_)
    · rw [pk_un (by omega)]; exact g1 j (by omega)
    · by_cases z : j = q + 1
      · subst z; rw [pk_us]; rfl
      · rw [pk_un z]; exact g2 j (by omega) hj2
theorem ys_put {post : SY → Prop} {c : Nat → Nat} {n p ch : Nat} (hn : n < 80) (hp : p ≤ n) (hT : ed_ag a_text c n) (h : ∀ a_text : Nat → Int32, ed_ag a_text (es_in c p ch) (n + 1) → post (nI (n + 1), f_tokenCount, f_itemCount, f_blockCount, f_looseCount, f_numberCount, f_operatorCount, a_text, a_kinds, a_starts, a_ends, a_owners, a_meant, a_firsts, a_lasts, a_sorts, a_blocks, a_knowns, a_values, a_around, a_depths, a_compared, a_numbers, a_operators)) : wpY_putIn post (nI n, f_tokenCount, f_itemCount, f_blockCount, f_looseCount, f_numberCount, f_operatorCount, a_text, a_kinds, a_starts, a_ends, a_owners, a_meant, a_firsts, a_lasts, a_sorts, a_blocks, a_knowns, a_values, a_around, a_depths, a_compared, a_numbers, a_operators) (nI p) (nI ch) :=
  ⟨n - p + 1, ys_in hn hp h (n - p) n (by omega) (Nat.le_refl _) _ (by omega) a_text hT (fun j a b => by omega)⟩
theorem ys_tl {post : SY → Prop} {n p m : Nat} (hn : n ≤ 80) (hp : p + m ≤ n) (h : ∀ A : Nat → Int32, (∀ j, j < p → A j = a_text j) → (∀ j, p ≤ j → j + m < n → A j = a_text (j + m)) → post (nI (n - m), f_tokenCount, f_itemCount, f_blockCount, f_looseCount, f_numberCount, f_operatorCount, A, a_kinds, a_starts, a_ends, a_owners, a_meant, a_firsts, a_lasts, a_sorts, a_blocks, a_knowns, a_values, a_around, a_depths, a_compared, a_numbers, a_operators)) :
    ∀ d q, q + d = n - m → p ≤ q → ∀ f, d < f → ∀ A : Nat → Int32, (∀ j, j < p → A j = a_text j) → (∀ j, p ≤ j → j < q → A j = a_text (j + m)) → (∀ j, q ≤ j → A j = a_text j) → (wY_takeOut_12 post (nI m) (nI (n - m)) f_tokenCount f_itemCount f_blockCount f_looseCount f_numberCount f_operatorCount f (nI q) A a_kinds a_starts a_ends a_owners a_meant a_firsts a_lasts a_sorts a_blocks a_knowns a_values a_around a_depths a_compared a_numbers a_operators) := by
  intro d
  induction d with
  | zero =>
    intro q hq hpq f hf A g1 g2 g3
    obtain ⟨f, rfl⟩ : ∃ g, f = g + 1 := ⟨f - 1, by omega⟩
    exact br_t (nI_le (by omega) (by omega)) (h A g1 (fun j a b => g2 j a (by omega)))
  | succ d ih =>
    intro q hq hpq f hf A g1 g2 g3
    obtain ⟨f, rfl⟩ : ∃ g, f = g + 1 := ⟨f - 1, by omega⟩
    refine br_f (nI_ge (by omega) (by omega)) ⟨pk_in (q + m) 81 (by omega) (nI_add q m), pk_in q 81 (by omega), ed_nuv q (a_text (q + m)) (ed_rt (q + m) (g3 (q + m) (by omega)) (nI_add q m)) (nm_r (nI_1 q) ?_)⟩
    refine ih (q + 1) (by omega) (by omega) f (by omega) _ (fun j hj => ?_) (fun j hj1 hj2 => ?_) (fun j hj => ?_)
    · rw [pk_un (by omega)]; exact g1 j hj
    · by_cases z : j = q
      · subst z; rw [pk_us]
      · rw [pk_un z]; exact g2 j hj1 (by omega)
    · rw [pk_un (by omega)]; exact g3 j (by omega)
theorem ys_take {post : SY → Prop} {n p m : Nat} (hn : n ≤ 80) (hp : p + m ≤ n) (h : ∀ A : Nat → Int32, (∀ j, j < p → A j = a_text j) → (∀ j, p ≤ j → j + m < n → A j = a_text (j + m)) → post (nI (n - m), f_tokenCount, f_itemCount, f_blockCount, f_looseCount, f_numberCount, f_operatorCount, A, a_kinds, a_starts, a_ends, a_owners, a_meant, a_firsts, a_lasts, a_sorts, a_blocks, a_knowns, a_values, a_around, a_depths, a_compared, a_numbers, a_operators)) : wpY_takeOut post (nI n, f_tokenCount, f_itemCount, f_blockCount, f_looseCount, f_numberCount, f_operatorCount, a_text, a_kinds, a_starts, a_ends, a_owners, a_meant, a_firsts, a_lasts, a_sorts, a_blocks, a_knowns, a_values, a_around, a_depths, a_compared, a_numbers, a_operators) (nI p) (nI m) :=
  nm_r (pk_sub (by omega)) ⟨n - m - p + 1, ys_tl hn hp h (n - m - p) p (by omega) (Nat.le_refl _) _ (by omega) a_text (fun _ _ => rfl) (fun j a b => by omega) (fun _ _ => rfl)⟩
theorem ys_isC {post : Int32 → Prop} {x : Int32} (h0 : (x < 0 ∨ 18 < x) → post 0) (h1 : ¬ x < 0 → ¬ 18 < x → post 1) : wpY_isCharacter post (f_length, f_tokenCount, f_itemCount, f_blockCount, f_looseCount, f_numberCount, f_operatorCount, a_text, a_kinds, a_starts, a_ends, a_owners, a_meant, a_firsts, a_lasts, a_sorts, a_blocks, a_knowns, a_values, a_around, a_depths, a_compared, a_numbers, a_operators) x :=
  br_c (fun z => h0 (Or.inl z)) (fun z => br_c (fun y => h0 (Or.inr y)) (fun y => h1 z y))
end
section
theorem es_18 {x : Int32} (h0 : ¬ x < 0) (h1 : ¬ 18 < x) : ∃ ch, ch ≤ 18 ∧ x = nI ch := by
  obtain ⟨j, hj, rfl⟩ := nI_of h0
  refine ⟨j, ?_, rfl⟩
  by_cases z : j ≤ 18
  · exact z
  · exact absurd (nI_lt (a := 18) (by omega) hj) h1
theorem i_vc_insert {k : Nat} {u : SX} {v : SY} (I : i_Rel k u v) (hk : k + 5 ≤ 2560) (v1 : Int32) (v2 : Int32) : wpX_insert (fun r u' => wpY_insert (fun r' v' => r' = r ∧ i_Rel (k + 5) u' v') v v1 v2) u v1 v2 := by
  have I2 := I
  obtain ⟨c, n, hn, hc, hX, hY⟩ := I
  obtain ⟨f_size, f_tokenCount, f_itemCount, f_blockCount, f_openCount, f_looseCount, a_text, a_characterToken, a_tokenKind, a_tokenStart, a_tokenEnd, a_tokenItem, a_tokenMeaning, a_itemFirst, a_itemEnd, a_itemSort, a_itemDepth, a_itemBlock, a_itemUses, a_itemKnown, a_itemValue, a_blockEnd, a_openBlocks, a_levelCompares, a_levelLeft, a_levelSum, a_levelProduct⟩ := u
  obtain ⟨f_length, f_tokenCount', f_itemCount', f_blockCount', f_looseCount', f_numberCount, f_operatorCount, a_text', a_kinds, a_starts, a_ends, a_owners, a_meant, a_firsts, a_lasts, a_sorts, a_blocks, a_knowns, a_values, a_around, a_depths, a_compared, a_numbers, a_operators⟩ := v
  obtain ⟨rfl, hT, hD⟩ := hX
  obtain ⟨rfl, hT'⟩ := hY
  by_cases z1 : v2 < 0
  · refine br_t z1 ?_
    unfold wpY_insert
    exact ys_isC (fun _ => br_t rfl ⟨rfl, I2⟩) (fun y _ => absurd z1 y)
  · refine br_f z1 ?_
    by_cases z2 : 18 < v2
    · refine br_t z2 ?_
      unfold wpY_insert
      exact ys_isC (fun _ => br_t rfl ⟨rfl, I2⟩) (fun _ y => absurd z2 y)
    · refine br_f z2 ?_
      by_cases z3 : v1 < 0
      · refine br_t z3 ?_
        unfold wpY_insert
        exact ys_isC (fun y => absurd y (by intro w; cases w with | inl w => exact z1 w | inr w => exact z2 w)) (fun _ _ => br_f (by decide) (br_t z3 ⟨rfl, I2⟩))
      · refine br_f z3 ?_
        obtain ⟨p, hp, rfl⟩ := nI_of z3
        obtain ⟨ch, hch, rfl⟩ := es_18 z1 z2
        refine pk_le p n (fun hle => pk_lt n 80 (fun hlt => ⟨n - p + 1, ?_⟩) (fun hge => ?_)) (fun hgt => ?_)
        · refine xs_in hlt hle hc hch (fun u' hu' => ?_) (n - p) n (by omega) (Nat.le_refl _) _ (by omega) a_text hT (fun j a b => by omega)
          unfold wpY_insert
          refine ys_isC (fun y => absurd y (by intro w; cases w with | inl w => exact z1 w | inr w => exact z2 w)) (fun _ _ => br_f (by decide) (br_f z3 (br_t (nI_le hle (by omega)) (pk_eq n 80 (fun e => by omega) (fun _ => ?_)))))
          exact ys_put hlt hle hT' (fun A hA => ⟨rfl, es_in c p ch, n + 1, by omega, es_in18 hc hle hch, hu', ⟨rfl, hA⟩⟩)
        · have e : n = 80 := by omega
          unfold wpY_insert
          exact ys_isC (fun y => absurd y (by intro w; cases w with | inl w => exact z1 w | inr w => exact z2 w)) (fun _ _ => br_f (by decide) (br_f z3 (br_t (nI_le hle (by omega)) (pk_eq n 80 (fun _ => ⟨rfl, I2⟩) (fun y => absurd e y)))))
        · unfold wpY_insert
          exact ys_isC (fun y => absurd y (by intro w; cases w with | inl w => exact z1 w | inr w => exact z2 w)) (fun _ _ => br_f (by decide) (br_f z3 (br_f (nI_ge hgt (by omega)) ⟨rfl, I2⟩)))
theorem i_vc_remove {k : Nat} {u : SX} {v : SY} (I : i_Rel k u v) (hk : k + 5 ≤ 2560) (v1 : Int32) (v2 : Int32) : wpX_remove (fun r u' => wpY_remove (fun r' v' => r' = r ∧ i_Rel (k + 5) u' v') v v1 v2) u v1 v2 := by
  have I2 := I
  obtain ⟨c, n, hn, hc, hX, hY⟩ := I
  obtain ⟨f_size, f_tokenCount, f_itemCount, f_blockCount, f_openCount, f_looseCount, a_text, a_characterToken, a_tokenKind, a_tokenStart, a_tokenEnd, a_tokenItem, a_tokenMeaning, a_itemFirst, a_itemEnd, a_itemSort, a_itemDepth, a_itemBlock, a_itemUses, a_itemKnown, a_itemValue, a_blockEnd, a_openBlocks, a_levelCompares, a_levelLeft, a_levelSum, a_levelProduct⟩ := u
  obtain ⟨f_length, f_tokenCount', f_itemCount', f_blockCount', f_looseCount', f_numberCount, f_operatorCount, a_text', a_kinds, a_starts, a_ends, a_owners, a_meant, a_firsts, a_lasts, a_sorts, a_blocks, a_knowns, a_values, a_around, a_depths, a_compared, a_numbers, a_operators⟩ := v
  obtain ⟨rfl, hT, hD⟩ := hX
  obtain ⟨rfl, hT'⟩ := hY
  by_cases z1 : v1 < 0
  · exact br_t z1 (br_t z1 ⟨rfl, I2⟩)
  · refine br_f z1 ?_
    obtain ⟨p, hp, rfl⟩ := nI_of z1
    refine pk_lt n p (fun hlt => br_f z1 (br_t (nI_lt hlt (by omega)) ⟨rfl, I2⟩)) (fun hge => ?_)
    by_cases z2 : v2 < 0
    · exact br_t z2 (br_f z1 (br_f (nI_nlt hge (by omega)) (br_t z2 ⟨rfl, I2⟩)))
    · refine br_f z2 ?_
      obtain ⟨m, hm, rfl⟩ := nI_of z2
      have es : nI n - nI p = nI (n - p) := pk_sub hge
      refine pk_le m (n - p) (fun hle => nm_r (nI_add p m) ⟨n - (p + m) + 1, ?_⟩) (fun hgt => ?_) rfl es
      · refine xs_rm hn (by omega) hc (fun u' hu' => ?_) (n - (p + m)) (p + m) (by omega) (Nat.le_refl _) _ (by omega) a_text (fun j hj => hT j (by omega)) (fun j a b => by omega) (fun j _ b => hT j b)
        refine br_f z1 (br_f (nI_nlt hge (by omega)) (br_f z2 (pk_le m (n - p) (fun _ => ?_) (fun y => by omega) rfl es)))
        refine ys_take hn (by omega) (fun A a1 a2 => ⟨rfl, es_rm c p m, n - m, by omega, es_rm18 hc (by omega), hu', ⟨rfl, ?_⟩⟩)
        exact es_rmA (fun j hj => by rw [a1 j hj]; exact hT' j (by omega)) (fun j b1 b2 => by rw [a2 j b1 b2]; exact hT' (j + m) b2)
      · exact br_f z1 (br_f (nI_nlt hge (by omega)) (br_f z2 (pk_le m (n - p) (fun y => by omega) (fun _ => ⟨rfl, I2⟩) rfl es)))
end
end
section
section
/-! append -/
def ap_e (o : Option Nat) : Int32 := match o with | none => -1 | some ch => nI ch
def ap_n (o : Option Nat) : Nat := match o with | none => 0 | some _ => 1
def ap_c (c : Nat → Nat) (n : Nat) (o : Option Nat) : Nat → Nat := match o with | none => c | some ch => ed_fu c n ch
def ap_k (o : Option Nat) : Prop := ∀ ch, o = some ch → ch ≤ 18
def ap_o (x : Int32) : Prop := x = -1 ∨ (¬ x < 0 ∧ ¬ 18 < x)
theorem ap_oe {x : Int32} (h : ap_o x) : ∃ o, ap_k o ∧ x = ap_e o := by
  cases h with
  | inl h => exact ⟨none, (fun ch z => by cases z), h⟩
  | inr h =>
    obtain ⟨ch, h1, h2⟩ := es_18 h.1 h.2
    exact ⟨some ch, (fun d z => by cases z; exact h1), h2⟩
theorem ap_m1 {ch : Nat} (h : ch ≤ 18) : ¬ nI ch = (-1 : Int32) := by
  intro z
  have := nI_pos' (n := ch) (by omega)
  rw [z] at this
  exact absurd this (by decide)
theorem ap_p0 {ch : Nat} (h : ch ≤ 18) : ¬ nI ch < 0 := nI_pos (by omega)
theorem ap_p18 {ch : Nat} (h : ch ≤ 18) : ¬ (18 : Int32) < nI ch := nI_nlt (b := ch) (a := 18) h (by omega)
theorem ap_eo {o : Option Nat} (h : ap_k o) : ap_o (ap_e o) := by
  cases o with
  | none => exact Or.inl rfl
  | some ch => exact Or.inr ⟨ap_p0 (h ch rfl), ap_p18 (h ch rfl)⟩
theorem ap_c18 {c : Nat → Nat} {n : Nat} {o : Option Nat} (hc : ∀ j, j < n → c j ≤ 18) (h : ap_k o) : ∀ j, j < n + ap_n o → ap_c c n o j ≤ 18 := by
  cases o with
  | none => exact hc
  | some ch =>
    intro j hj
    show ed_fu c n ch j ≤ 18
    have hj2 : j < n + 1 := hj
    by_cases z : j = n
    · subst z; rw [ed_fs]; exact h ch rfl
    · rw [ed_fn z]; exact hc j (by omega)
theorem ap_n1 (o : Option Nat) : ap_n o ≤ 1 := by
  cases o with
  | none => exact Nat.zero_le _
  | some ch => exact Nat.le_refl _
variable {f_size f_tokenCount f_itemCount f_blockCount f_openCount f_looseCount : Int32} {a_text a_characterToken a_tokenKind a_tokenStart a_tokenEnd a_tokenItem a_tokenMeaning a_itemFirst a_itemEnd a_itemSort a_itemDepth a_itemBlock a_itemUses a_itemKnown a_itemValue a_blockEnd a_openBlocks a_levelCompares a_levelLeft a_levelSum a_levelProduct : Nat → Int32}
theorem xa_may {post : Int32 → Prop} {x : Int32} (h1 : ap_o x → post 1) (h0 : ¬ ap_o x → post 0) : wpX_mayAppend post (f_size, f_tokenCount, f_itemCount, f_blockCount, f_openCount, f_looseCount, a_text, a_characterToken, a_tokenKind, a_tokenStart, a_tokenEnd, a_tokenItem, a_tokenMeaning, a_itemFirst, a_itemEnd, a_itemSort, a_itemDepth, a_itemBlock, a_itemUses, a_itemKnown, a_itemValue, a_blockEnd, a_openBlocks, a_levelCompares, a_levelLeft, a_levelSum, a_levelProduct) x := by
  refine br_c (fun z => h1 (Or.inl z)) (fun z => br_c (fun y => h0 ?_) (fun y => br_c (fun w => h0 ?_) (fun w => h1 (Or.inr ⟨y, w⟩))))
  · intro q
    cases q with
    | inl q => exact z q
    | inr q => exact q.1 y
  · intro q
    cases q with
    | inl q => exact z q
    | inr q => exact q.2 w
theorem xa_places {post : Int32 → Prop} {o : Option Nat} (ho : ap_k o) (h : post (nI (ap_n o))) : wpX_places post (f_size, f_tokenCount, f_itemCount, f_blockCount, f_openCount, f_looseCount, a_text, a_characterToken, a_tokenKind, a_tokenStart, a_tokenEnd, a_tokenItem, a_tokenMeaning, a_itemFirst, a_itemEnd, a_itemSort, a_itemDepth, a_itemBlock, a_itemUses, a_itemKnown, a_itemValue, a_blockEnd, a_openBlocks, a_levelCompares, a_levelLeft, a_levelSum, a_levelProduct) (ap_e o) := by
  cases o with
  | none => exact br_t rfl h
  | some ch => exact br_f (ap_m1 (ho ch rfl)) h
theorem xa_put {post : SX → Prop} {c : Nat → Nat} {n : Nat} {o : Option Nat} (ho : ap_k o) (hT : ed_ag a_text c n) (hr : n + ap_n o ≤ 80) (h : ∀ a_text : Nat → Int32, ed_ag a_text (ap_c c n o) (n + ap_n o) → post (nI (n + ap_n o), f_tokenCount, f_itemCount, f_blockCount, f_openCount, f_looseCount, a_text, a_characterToken, a_tokenKind, a_tokenStart, a_tokenEnd, a_tokenItem, a_tokenMeaning, a_itemFirst, a_itemEnd, a_itemSort, a_itemDepth, a_itemBlock, a_itemUses, a_itemKnown, a_itemValue, a_blockEnd, a_openBlocks, a_levelCompares, a_levelLeft, a_levelSum, a_levelProduct)) : wpX_putLast post (nI n, f_tokenCount, f_itemCount, f_blockCount, f_openCount, f_looseCount, a_text, a_characterToken, a_tokenKind, a_tokenStart, a_tokenEnd, a_tokenItem, a_tokenMeaning, a_itemFirst, a_itemEnd, a_itemSort, a_itemDepth, a_itemBlock, a_itemUses, a_itemKnown, a_itemValue, a_blockEnd, a_openBlocks, a_levelCompares, a_levelLeft, a_levelSum, a_levelProduct) (ap_e o) := by
  cases o with
  | none => exact br_t rfl (h a_text hT)
  | some ch =>
    have hr2 : n + 1 ≤ 80 := hr
    exact br_f (ap_m1 (ho ch rfl)) (br_f (nI_ge (b := 80) (by omega) (by omega)) ⟨pk_in n 80 (by omega), ed_nu n (nm_r (nI_1 n) (h _ (ed_ag_s hT)))⟩)
end
section
def ap_w (a b c d : Int32) (i : Nat) : Int32 := if i = 0 then a else if i = 1 then b else if i = 2 then c else d
variable {f_length f_tokenCount f_itemCount f_blockCount f_looseCount f_numberCount f_operatorCount : Int32} {a_text a_kinds a_starts a_ends a_owners a_meant a_firsts a_lasts a_sorts a_blocks a_knowns a_values a_around a_depths a_compared a_numbers a_operators : Nat → Int32}
theorem ya_one {post : Int32 → Prop} {a b c d : Int32} {i : Nat} (hi : i < 4) (h : post (ap_w a b c d i)) : wpY_oneOf post (f_length, f_tokenCount, f_itemCount, f_blockCount, f_looseCount, f_numberCount, f_operatorCount, a_text, a_kinds, a_starts, a_ends, a_owners, a_meant, a_firsts, a_lasts, a_sorts, a_blocks, a_knowns, a_values, a_around, a_depths, a_compared, a_numbers, a_operators) (nI i) a b c d := by
  unfold ap_w at h
  refine pk_eq i 0 (fun z => ?_) (fun z => pk_eq i 1 (fun y => ?_) (fun y => pk_eq i 2 (fun w => ?_) (fun w => ?_)))
  · rw [if_pos z] at h; exact h
  · rw [if_neg z, if_pos y] at h; exact h
  · rw [if_neg z, if_neg y, if_pos w] at h; exact h
  · rw [if_neg z, if_neg y, if_neg w] at h; exact h
theorem ya_bad {post : Int32 → SY → Prop} {a b c d : Int32} (h : post (-1) (f_length, f_tokenCount, f_itemCount, f_blockCount, f_looseCount, f_numberCount, f_operatorCount, a_text, a_kinds, a_starts, a_ends, a_owners, a_meant, a_firsts, a_lasts, a_sorts, a_blocks, a_knowns, a_values, a_around, a_depths, a_compared, a_numbers, a_operators)) : ∀ dd i, i + dd = 4 → ∀ m : Int32, (∃ j, i ≤ j ∧ j < 4 ∧ ¬ ap_o (ap_w a b c d j)) → ∀ f, dd < f → (wY_append_6 post a b c d f_length f_tokenCount f_itemCount f_blockCount f_looseCount f_numberCount f_operatorCount a_text a_kinds a_starts a_ends a_owners a_meant a_firsts a_lasts a_sorts a_blocks a_knowns a_values a_around a_depths a_compared a_numbers a_operators f m (nI i)) := by
  intro dd
  induction dd with
  | zero =>
    intro i hi m hb f hf
    obtain ⟨j, h1, h2, _⟩ := hb
    omega
  | succ dd ih =>
    intro i hi m hb f hf
    obtain ⟨f, rfl⟩ : ∃ g, f = g + 1 := ⟨f - 1, by omega⟩
    refine br_f (nI_ge (b := 4) (by omega) (by omega)) (ya_one (by omega) ?_)
    by_cases ho : ap_o (ap_w a b c d i)
    · have hn : ∀ m : Int32, (wY_append_6 post a b c d f_length f_tokenCount f_itemCount f_blockCount f_looseCount f_numberCount f_operatorCount a_text a_kinds a_starts a_ends a_owners a_meant a_firsts a_lasts a_sorts a_blocks a_knowns a_values a_around a_depths a_compared a_numbers a_operators f m (nI (i + 1))) := by
        intro m
        refine ih (i + 1) (by omega) m ?_ f (by omega)
        obtain ⟨j, h1, h2, h3⟩ := hb
        refine ⟨j, ?_, h2, h3⟩
        by_cases z : j = i
        · rw [z] at h3; exact absurd ho h3
        · omega
      have h42 : (wY_append_42 post (wY_append_6 post a b c d f_length f_tokenCount f_itemCount f_blockCount f_looseCount f_numberCount f_operatorCount a_text a_kinds a_starts a_ends a_owners a_meant a_firsts a_lasts a_sorts a_blocks a_knowns a_values a_around a_depths a_compared a_numbers a_operators f) a b c d m (nI i) (ap_w a b c d i) f_length f_tokenCount f_itemCount f_blockCount f_looseCount f_numberCount f_operatorCount a_text a_kinds a_starts a_ends a_owners a_meant a_firsts a_lasts a_sorts a_blocks a_knowns a_values a_around a_depths a_compared a_numbers a_operators) := br_c (fun _ => nm_r (nI_1 i) (hn m)) (fun _ => nm_e (nm_r (nI_1 i) (hn _)))
      refine br_c (fun _ => h42) (fun z => ?_)
      refine ys_isC (fun y => ?_) (fun _ _ => br_f (by decide) h42)
      cases ho with
      | inl q => exact absurd q z
      | inr q =>
        cases y with
        | inl y => exact absurd y q.1
        | inr y => exact absurd y q.2
    · refine br_f (fun z => ho (Or.inl z)) (ys_isC (fun _ => br_t rfl h) (fun y1 y2 => absurd (Or.inr ⟨y1, y2⟩) ho))
def ap_s (o : Nat → Option Nat) : Nat → Nat
  | 0 => 0
  | i + 1 => ap_s o i + ap_n (o i)
theorem ya_cnt {post : Int32 → SY → Prop} {a b c d : Int32} {o : Nat → Option Nat} (ho : ∀ i, i < 4 → ap_k (o i) ∧ ap_w a b c d i = ap_e (o i)) (h : (wY_append_6 post a b c d f_length f_tokenCount f_itemCount f_blockCount f_looseCount f_numberCount f_operatorCount a_text a_kinds a_starts a_ends a_owners a_meant a_firsts a_lasts a_sorts a_blocks a_knowns a_values a_around a_depths a_compared a_numbers a_operators 1 (nI (ap_s o 4)) 4)) :
    ∀ dd i, i + dd = 4 → (wY_append_6 post a b c d f_length f_tokenCount f_itemCount f_blockCount f_looseCount f_numberCount f_operatorCount a_text a_kinds a_starts a_ends a_owners a_meant a_firsts a_lasts a_sorts a_blocks a_knowns a_values a_around a_depths a_compared a_numbers a_operators (dd + 1) (nI (ap_s o i)) (nI i)) := by
  intro dd
  induction dd with
  | zero =>
    intro i hi
    have e : i = 4 := by omega
    subst e; exact h
  | succ dd ih =>
    intro i hi
    have ih := ih (i + 1) (by omega)
    obtain ⟨hk, hw⟩ := ho i (by omega)
    refine br_f (nI_ge (b := 4) (by omega) (by omega)) (ya_one (by omega) ?_)
    rw [hw]
    have e1 : ap_s o (i + 1) = ap_s o i + ap_n (o i) := rfl
    rw [e1] at ih
    cases hoi : o i with
    | none =>
      rw [hoi] at ih
      exact br_t rfl (br_t rfl (nm_r (nI_1 i) ih))
    | some ch =>
      rw [hoi] at ih hk
      have hch := hk ch rfl
      refine br_f (ap_m1 hch) (ys_isC (fun y => ?_) (fun _ _ => br_f (by decide) (br_f (ap_m1 hch) (nm_r (nI_1 _) (nm_r (nI_1 i) ih)))))
      cases y with
      | inl y => exact absurd y (ap_p0 hch)
      | inr y => exact absurd y (ap_p18 hch)
def ap_t (c : Nat → Nat) (n : Nat) (o : Nat → Option Nat) : Nat → Nat → Nat
  | 0 => c
  | i + 1 => ap_c (ap_t c n o i) (n + ap_s o i) (o i)
theorem ap_sm (o : Nat → Option Nat) (i : Nat) : ap_s o i ≤ ap_s o (i + 1) := Nat.le_add_right _ _
theorem ap_s4 {o : Nat → Option Nat} {i : Nat} (h : i ≤ 4) : ap_s o i ≤ ap_s o 4 := by
  have h0 : ap_s o 0 ≤ ap_s o 1 := ap_sm o 0
  have h1 : ap_s o 1 ≤ ap_s o 2 := ap_sm o 1
  have h2 : ap_s o 2 ≤ ap_s o 3 := ap_sm o 2
  have h3 : ap_s o 3 ≤ ap_s o 4 := ap_sm o 3
  have : i = 0 ∨ i = 1 ∨ i = 2 ∨ i = 3 ∨ i = 4 := by omega
  rcases this with rfl | rfl | rfl | rfl | rfl <;> omega
theorem es_ap (c : Nat → Nat) (n ch : Nat) {A : Nat → Int32} (h : ed_ag A (es_in c n ch) (n + 1)) : ed_ag A (ed_fu c n ch) (n + 1) := by
  intro j hj
  rw [h j hj]
  unfold es_in ed_fu
  by_cases z : j = n
  · rw [if_neg (by omega), if_pos z, if_pos z]
  · rw [if_pos (by omega), if_neg z]
theorem ya_put {post : Int32 → SY → Prop} {a b c d : Int32} {t : Nat → Nat} {n : Nat} {o : Nat → Option Nat} (ho : ∀ i, i < 4 → ap_k (o i) ∧ ap_w a b c d i = ap_e (o i)) (hr : n + ap_s o 4 ≤ 80) (h : ∀ a_text : Nat → Int32, ed_ag a_text (ap_t t n o 4) (n + ap_s o 4) → post (nI (n + ap_s o 4)) (nI (n + ap_s o 4), f_tokenCount, f_itemCount, f_blockCount, f_looseCount, f_numberCount, f_operatorCount, a_text, a_kinds, a_starts, a_ends, a_owners, a_meant, a_firsts, a_lasts, a_sorts, a_blocks, a_knowns, a_values, a_around, a_depths, a_compared, a_numbers, a_operators)) :
    ∀ dd i, i + dd = 4 → ∀ a_text : Nat → Int32, ed_ag a_text (ap_t t n o i) (n + ap_s o i) → (wY_append_83 post a b c d (dd + 1) (nI i) (nI (n + ap_s o i)) f_tokenCount f_itemCount f_blockCount f_looseCount f_numberCount f_operatorCount a_text a_kinds a_starts a_ends a_owners a_meant a_firsts a_lasts a_sorts a_blocks a_knowns a_values a_around a_depths a_compared a_numbers a_operators) := by
  intro dd
  induction dd with
  | zero =>
    intro i hi A hA
    have e : i = 4 := by omega
    subst e
    exact br_t (nI_le (a := 4) (b := 4) (Nat.le_refl _) (by omega)) (h A hA)
  | succ dd ih =>
    intro i hi A hA
    have ih := ih (i + 1) (by omega)
    obtain ⟨hk, hw⟩ := ho i (by omega)
    refine br_f (nI_ge (b := 4) (by omega) (by omega)) (ya_one (by omega) ?_)
    rw [hw]
    have e1 : ap_s o (i + 1) = ap_s o i + ap_n (o i) := rfl
    have e2 : ap_t t n o (i + 1) = ap_c (ap_t t n o i) (n + ap_s o i) (o i) := rfl
    have hle := ap_s4 (o := o) (i := i + 1) (by omega)
    rw [e1, e2] at ih
    rw [e1] at hle
    cases hoi : o i with
    | none =>
      rw [hoi] at ih
      exact br_t rfl (nm_r (nI_1 i) (ih A hA))
    | some ch =>
      rw [hoi] at ih hk hle
      have hch := hk ch rfl
      have hn1 : ap_n (some ch) = 1 := rfl
      refine br_f (ap_m1 hch) (ys_put (ch := ch) (by omega) (Nat.le_refl _) hA (fun A2 hA2 => ?_))
      exact nm_r (nI_1 i) (ih A2 (es_ap _ _ _ hA2))
end
section
theorem i_vc_append {k : Nat} {u : SX} {v : SY} (I : i_Rel k u v) (hk : k + 5 ≤ 2560) (v1 : Int32) (v2 : Int32) (v3 : Int32) (v4 : Int32) : wpX_append (fun r u' => wpY_append (fun r' v' => r' = r ∧ i_Rel (k + 5) u' v') v v1 v2 v3 v4) u v1 v2 v3 v4 := by
  have I2 := I
  obtain ⟨c, n, hn, hc, hX, hY⟩ := I
  obtain ⟨f_size, f_tokenCount, f_itemCount, f_blockCount, f_openCount, f_looseCount, a_text, a_characterToken, a_tokenKind, a_tokenStart, a_tokenEnd, a_tokenItem, a_tokenMeaning, a_itemFirst, a_itemEnd, a_itemSort, a_itemDepth, a_itemBlock, a_itemUses, a_itemKnown, a_itemValue, a_blockEnd, a_openBlocks, a_levelCompares, a_levelLeft, a_levelSum, a_levelProduct⟩ := u
  obtain ⟨f_length, f_tokenCount', f_itemCount', f_blockCount', f_looseCount', f_numberCount, f_operatorCount, a_text', a_kinds, a_starts, a_ends, a_owners, a_meant, a_firsts, a_lasts, a_sorts, a_blocks, a_knowns, a_values, a_around, a_depths, a_compared, a_numbers, a_operators⟩ := v
  obtain ⟨rfl, hT, hD⟩ := hX
  obtain ⟨rfl, hT'⟩ := hY
  unfold wpX_append
  refine xa_may (fun o1 => br_f (by decide) ?_) (fun o1 => br_t rfl ⟨5, ya_bad ⟨rfl, I2⟩ 4 0 rfl _ ⟨0, by omega, by omega, o1⟩ 5 (by omega)⟩)
  refine xa_may (fun o2 => br_f (by decide) ?_) (fun o2 => br_t rfl ⟨5, ya_bad ⟨rfl, I2⟩ 4 0 rfl _ ⟨1, by omega, by omega, o2⟩ 5 (by omega)⟩)
  refine xa_may (fun o3 => br_f (by decide) ?_) (fun o3 => br_t rfl ⟨5, ya_bad ⟨rfl, I2⟩ 4 0 rfl _ ⟨2, by omega, by omega, o3⟩ 5 (by omega)⟩)
  refine xa_may (fun o4 => br_f (by decide) ?_) (fun o4 => br_t rfl ⟨5, ya_bad ⟨rfl, I2⟩ 4 0 rfl _ ⟨3, by omega, by omega, o4⟩ 5 (by omega)⟩)
  obtain ⟨p1, k1, rfl⟩ := ap_oe o1
  obtain ⟨p2, k2, rfl⟩ := ap_oe o2
  obtain ⟨p3, k3, rfl⟩ := ap_oe o3
  obtain ⟨p4, k4, rfl⟩ := ap_oe o4
  refine xa_places k1 (xa_places k2 (xa_places k3 (xa_places k4 ?_)))
  have n1 := ap_n1 p1
  have n2 := ap_n1 p2
  have n3 := ap_n1 p3
  have n4 := ap_n1 p4
  have hsum : ((nI (ap_n p1) + nI (ap_n p2)) + nI (ap_n p3)) + nI (ap_n p4) = nI (ap_n p1 + ap_n p2 + ap_n p3 + ap_n p4) := by rw [nI_add, nI_add, nI_add]
  let o : Nat → Option Nat := fun i => if i = 0 then p1 else if i = 1 then p2 else if i = 2 then p3 else p4
  have hs4 : ap_s o 4 = ap_n p1 + ap_n p2 + ap_n p3 + ap_n p4 := by
    show 0 + ap_n p1 + ap_n p2 + ap_n p3 + ap_n p4 = _
    rw [Nat.zero_add]
  have ho : ∀ i, i < 4 → ap_k (o i) ∧ ap_w (ap_e p1) (ap_e p2) (ap_e p3) (ap_e p4) i = ap_e (o i) := by
    intro i hi
    have : i = 0 ∨ i = 1 ∨ i = 2 ∨ i = 3 := by omega
    rcases this with rfl | rfl | rfl | rfl
    · exact ⟨k1, rfl⟩
    · exact ⟨k2, rfl⟩
    · exact ⟨k3, rfl⟩
    · exact ⟨k4, rfl⟩
  refine nm_r hsum (pk_le (n + (ap_n p1 + ap_n p2 + ap_n p3 + ap_n p4)) 80 (fun hle => ?_) (fun hgt => ?_) (nI_add _ _))
  · refine xa_put k1 hT (by omega) (fun A1 h1 => ?_)
    refine xa_put k2 h1 (by omega) (fun A2 h2 => ?_)
    refine xa_put k3 h2 (by omega) (fun A3 h3 => ?_)
    refine xa_put k4 h3 (by omega) (fun A4 h4 => ?_)
    have hc1 := ap_c18 hc k1
    have hc2 := ap_c18 hc1 k2
    have hc3 := ap_c18 hc2 k3
    have hc4 := ap_c18 hc3 k4
    refine xr_read (n := n + ap_n p1 + ap_n p2 + ap_n p3 + ap_n p4) (by omega) hc4 h4 (fun f_tokenCount f_itemCount f_blockCount f_openCount f_looseCount a_characterToken a_tokenKind a_tokenStart a_tokenEnd a_tokenItem a_tokenMeaning a_itemFirst a_itemEnd a_itemSort a_itemDepth a_itemBlock a_itemUses a_itemKnown a_itemValue a_blockEnd a_openBlocks a_levelCompares a_levelLeft a_levelSum a_levelProduct hD => ?_)
    refine ⟨5, ya_cnt ho ?_ 4 0 rfl⟩
    refine br_t (by decide) (pk_le (n + ap_s o 4) 80 (fun _ => ⟨5, ?_⟩) (fun y => by omega) (nI_add _ _))
    refine ya_put ho (by omega) (fun A hA => ?_) 4 0 rfl a_text' hT'
    have el : n + ap_s o 4 = n + ap_n p1 + ap_n p2 + ap_n p3 + ap_n p4 := by omega
    rw [el] at hA
    refine ⟨by rw [el], ap_c (ap_c (ap_c (ap_c c n p1) (n + ap_n p1) p2) (n + ap_n p1 + ap_n p2) p3) (n + ap_n p1 + ap_n p2 + ap_n p3) p4, n + ap_n p1 + ap_n p2 + ap_n p3 + ap_n p4, by omega, hc4, ⟨rfl, h4, hD⟩, ⟨by rw [el], ?_⟩⟩
    have et : ap_t c n o 4 = ap_c (ap_c (ap_c (ap_c c n p1) (n + ap_n p1) p2) (n + ap_n p1 + ap_n p2) p3) (n + ap_n p1 + ap_n p2 + ap_n p3) p4 := by
      show ap_c (ap_c (ap_c (ap_c c (n + 0) p1) (n + (0 + ap_n p1)) p2) (n + (0 + ap_n p1 + ap_n p2)) p3) (n + (0 + ap_n p1 + ap_n p2 + ap_n p3)) p4 = _
      rw [Nat.zero_add, Nat.add_zero, show n + (ap_n p1 + ap_n p2) = n + ap_n p1 + ap_n p2 from by omega, show n + (ap_n p1 + ap_n p2 + ap_n p3) = n + ap_n p1 + ap_n p2 + ap_n p3 from by omega]
    rw [et] at hA; exact hA
  · refine ⟨5, ya_cnt ho ?_ 4 0 rfl⟩
    exact br_t (by decide) (pk_le (n + ap_s o 4) 80 (fun y => by omega) (fun _ => ⟨rfl, I2⟩) (nI_add _ _))
end
end
section
section
/-! rename -/
def rx_p (A : Nat → Option Nat) (rt : Nat → Bool) (p : Nat) : Bool := match A p with | none => false | some t => rt t
def rx_s (A : Nat → Option Nat) (S : Nat → Nat) (p : Nat) : Bool := match A p with | none => false | some t => decide (S t = p)
def rx_t (fv i : Nat) (M : Nat → Option Nat) (t : Nat) : Bool := decide (t = fv ∨ M t = some i)
theorem rx_pn {A : Nat → Option Nat} {rt : Nat → Bool} {p : Nat} (h : A p = none) : rx_p A rt p = false := by unfold rx_p; rw [h]
theorem rx_ps {A : Nat → Option Nat} {rt : Nat → Bool} {p t : Nat} (h : A p = some t) : rx_p A rt p = rt t := by unfold rx_p; rw [h]
theorem rx_ss {A : Nat → Option Nat} {S : Nat → Nat} {p t : Nat} (h : A p = some t) : rx_s A S p = decide (S t = p) := by unfold rx_s; rw [h]
theorem rn_g0 {c : Nat → Nat} {rp sp : Nat → Bool} {ch p : Nat} (h : rp p = false) : rn_g c rp sp ch p = [c p] := by unfold rn_g; rw [if_neg (by rw [h]; decide)]
theorem rn_g1 {c : Nat → Nat} {rp sp : Nat → Bool} {ch p : Nat} (h : rp p = true) (h2 : sp p = true) : rn_g c rp sp ch p = [ch] := by unfold rn_g; rw [if_pos h, if_pos h2]
theorem rn_g2 {c : Nat → Nat} {rp sp : Nat → Bool} {ch p : Nat} (h : rp p = true) (h2 : sp p = false) : rn_g c rp sp ch p = [] := by unfold rn_g; rw [if_pos h, if_neg (by rw [h2]; decide)]
theorem rn_put {A : Nat → Int32} {l : List Nat} {x : Nat} (h : rn_l A 0 l) : rn_l (upd A l.length (nI x)) 0 (l ++ [x]) := by
  refine rn_l_ap.mpr ⟨rn_l_c (p := 0) (fun j hj => ?_) h, ?_, trivial⟩
  · rw [pk_un (by omega)]
  · rw [Nat.zero_add, pk_us]
theorem rn_st {c : Nat → Nat} {rp sp : Nat → Bool} {ch n a : Nat} (h : a < n) : rn_f c rp sp ch a (n - a) = rn_g c rp sp ch a ++ rn_f c rp sp ch (a + 1) (n - (a + 1)) := by
  have e : n - a = (n - (a + 1)) + 1 := by omega
  rw [e]; rfl
theorem rn_mv {c : Nat → Nat} {rp sp : Nat → Bool} {ch n : Nat} {Y : Nat → Int32} : ∀ e a b, a + e = b → b ≤ n → (∀ p, a ≤ p → p < b → rp p = false) → (∀ j, j < b → Y j = nI (c j)) → rn_l Y b (rn_f c rp sp ch b (n - b)) →
    rn_l Y a (rn_f c rp sp ch a (n - a)) ∧ a + (rn_f c rp sp ch a (n - a)).length = b + (rn_f c rp sp ch b (n - b)).length := by
  intro e
  induction e with
  | zero =>
    intro a b hab _ _ _ h
    have : a = b := by omega
    subst this
    exact ⟨h, rfl⟩
  | succ e ih =>
    intro a b hab hb hrp hY h
    obtain ⟨h1, h2⟩ := ih (a + 1) b (by omega) hb (fun p q1 q2 => hrp p (by omega) q2) hY h
    rw [rn_st (by omega), rn_g0 (hrp a (Nat.le_refl _) (by omega))]
    refine ⟨⟨hY a (by omega), h1⟩, ?_⟩
    rw [← h2, List.length_append, List.length_singleton]; omega
theorem rn_sk {c : Nat → Nat} {rp sp : Nat → Bool} {ch n : Nat} : ∀ e a b, a + e = b → b ≤ n → (∀ p, a ≤ p → p < b → rp p = true ∧ sp p = false) → rn_f c rp sp ch a (n - a) = rn_f c rp sp ch b (n - b) := by
  intro e
  induction e with
  | zero =>
    intro a b hab _ _
    have : a = b := by omega
    subst this; rfl
  | succ e ih =>
    intro a b hab hb hrp
    have h := hrp a (Nat.le_refl _) (by omega)
    rw [rn_st (by omega), rn_g2 h.1 h.2, List.nil_append]
    exact ih (a + 1) b (by omega) hb (fun p q1 q2 => hrp p (by omega) q2)
theorem rn_cm {rt : Nat → Bool} : ∀ {b a : Nat}, a ≤ b → rn_c rt a ≤ rn_c rt b := by
  intro b
  induction b with
  | zero => intro a h; have : a = 0 := by omega
            subst this; exact Nat.le_refl _
  | succ b ih =>
    intro a h
    by_cases z : a = b + 1
    · subst z; exact Nat.le_refl _
    · have := ih (show a ≤ b by omega)
      have e : rn_c rt (b + 1) = if rt b = true then rn_c rt b + 1 else rn_c rt b := rfl
      rw [e]; split <;> omega
theorem rx_ord {S E : Nat → Nat} {T n : Nat} (h4 : ∀ t, t < T → S t < E t ∧ E t ≤ n) (h7 : ∀ t, t + 1 < T → E t ≤ S (t + 1)) : ∀ t s, s < t → t < T → E s ≤ S t := by
  intro t
  induction t with
  | zero => intro s hs; omega
  | succ t ih =>
    intro s hs ht
    by_cases z : s = t
    · subst z; exact h7 s ht
    · have := ih s (by omega) (by omega)
      have := (h4 t (by omega)).1
      have := h7 t ht
      omega
end
section
variable {f_size f_tokenCount f_itemCount f_blockCount f_openCount f_looseCount : Int32} {a_text a_characterToken a_tokenKind a_tokenStart a_tokenEnd a_tokenItem a_tokenMeaning a_itemFirst a_itemEnd a_itemSort a_itemDepth a_itemBlock a_itemUses a_itemKnown a_itemValue a_blockEnd a_openBlocks a_levelCompares a_levelLeft a_levelSum a_levelProduct : Nat → Int32}
theorem rx_loop {post : SX → Prop} {c S : Nat → Nat} {A M : Nat → Option Nat} {n T i fv ch : Nat} (hn : n ≤ 80) (hT : T ≤ 80) (hi : i < 80) (hf : fv < 80) (hch : ch ≤ 18) (hCT : ed_ao a_characterToken A n) (hAT : ∀ p t, p < n → A p = some t → t < T) (hFI : a_itemFirst i = nI fv) (hM : ed_ao a_tokenMeaning M T) (hMl : ∀ t d, M t = some d → d < 80) (hS : ed_ag a_tokenStart S T) (hSn : ∀ t, t < T → S t < 1000)
    (hP : ∀ a_text : Nat → Int32, rn_l a_text 0 (rn_f c (rx_p A (rx_t fv i M)) (rx_s A S) ch 0 n) → post (nI (rn_f c (rx_p A (rx_t fv i M)) (rx_s A S) ch 0 n).length, f_tokenCount, f_itemCount, f_blockCount, f_openCount, f_looseCount, a_text, a_characterToken, a_tokenKind, a_tokenStart, a_tokenEnd, a_tokenItem, a_tokenMeaning, a_itemFirst, a_itemEnd, a_itemSort, a_itemDepth, a_itemBlock, a_itemUses, a_itemKnown, a_itemValue, a_blockEnd, a_openBlocks, a_levelCompares, a_levelLeft, a_levelSum, a_levelProduct)) :
    ∀ d p, p + d = n → ∀ f, d < f → ∀ a_text : Nat → Int32, rn_l a_text 0 (rn_f c (rx_p A (rx_t fv i M)) (rx_s A S) ch 0 p) → (∀ q, p ≤ q → q < n → a_text q = nI (c q)) →
      (wX_replaceNames_5 post (nI i) (nI ch) (nI n) f_tokenCount f_itemCount f_blockCount f_openCount f_looseCount f (nI (rn_f c (rx_p A (rx_t fv i M)) (rx_s A S) ch 0 p).length) (nI p) a_text a_characterToken a_tokenKind a_tokenStart a_tokenEnd a_tokenItem a_tokenMeaning a_itemFirst a_itemEnd a_itemSort a_itemDepth a_itemBlock a_itemUses a_itemKnown a_itemValue a_blockEnd a_openBlocks a_levelCompares a_levelLeft a_levelSum a_levelProduct) := by
  intro d
  induction d with
  | zero =>
    intro p hp f hf TX g1 g2
    obtain ⟨f, rfl⟩ : ∃ g, f = g + 1 := ⟨f - 1, by omega⟩
    have e : p = n := by omega
    subst e
    exact br_t (nI_le (Nat.le_refl _) (by omega)) (hP TX g1)
  | succ d ih =>
    intro p hp f hf2 TX g1 g2
    obtain ⟨f, rfl⟩ : ∃ g, f = g + 1 := ⟨f - 1, by omega⟩
    have ih := ih (p + 1) (by omega) f (by omega)
    have hlen := rn_f_len c (rx_p A (rx_t fv i M)) (rx_s A S) ch p 0
    have hsn := rn_f_s c (rx_p A (rx_t fv i M)) (rx_s A S) ch p 0
    rw [Nat.zero_add] at hsn
    rw [hsn] at ih
    have hkeep : rx_p A (rx_t fv i M) p = false → ∀ x5 : Int32, (wX_replaceNames_57 post (wX_replaceNames_5 post (nI i) (nI ch) (nI n) f_tokenCount f_itemCount f_blockCount f_openCount f_looseCount f) (nI i) (nI ch) (nI (rn_f c (rx_p A (rx_t fv i M)) (rx_s A S) ch 0 p).length) (nI p) x5 0 (nI n) f_tokenCount f_itemCount f_blockCount f_openCount f_looseCount TX a_characterToken a_tokenKind a_tokenStart a_tokenEnd a_tokenItem a_tokenMeaning a_itemFirst a_itemEnd a_itemSort a_itemDepth a_itemBlock a_itemUses a_itemKnown a_itemValue a_blockEnd a_openBlocks a_levelCompares a_levelLeft a_levelSum a_levelProduct) := by
      intro hr x5
      rw [rn_g0 hr, List.length_append, List.length_singleton] at ih
      refine br_t rfl ⟨pk_in p 80 (by omega), pk_in _ 80 (show (rn_f c (rx_p A (rx_t fv i M)) (rx_s A S) ch 0 p).length < 80 by omega), ed_nuv _ (nI (c p)) (ed_rt p (g2 p (Nat.le_refl _) (by omega))) (nm_r (nI_1 _) (nm_r (nI_1 p) (ih _ (rn_put g1) (fun q q1 q2 => ?_)))) rfl (by omega)⟩
      rw [pk_un (by omega)]; exact g2 q (by omega) q2
    have hrep : ∀ t, A p = some t → rx_p A (rx_t fv i M) p = true → (wX_replaceNames_57 post (wX_replaceNames_5 post (nI i) (nI ch) (nI n) f_tokenCount f_itemCount f_blockCount f_openCount f_looseCount f) (nI i) (nI ch) (nI (rn_f c (rx_p A (rx_t fv i M)) (rx_s A S) ch 0 p).length) (nI p) (nI t) 1 (nI n) f_tokenCount f_itemCount f_blockCount f_openCount f_looseCount TX a_characterToken a_tokenKind a_tokenStart a_tokenEnd a_tokenItem a_tokenMeaning a_itemFirst a_itemEnd a_itemSort a_itemDepth a_itemBlock a_itemUses a_itemKnown a_itemValue a_blockEnd a_openBlocks a_levelCompares a_levelLeft a_levelSum a_levelProduct) := by
      intro t hA hr
      have htT := hAT p t (by omega) hA
      have hS1 := hSn t htT
      have hss := rx_ss (S := S) hA
      refine br_f (by decide) ⟨pk_in t 80 (by omega), pk_eq p (S t) (fun e => ?_) (fun e => ?_) rfl (ed_rt t (hS t htT))⟩
      · rw [decide_eq_true e.symm] at hss
        rw [rn_g1 hr hss, List.length_append, List.length_singleton] at ih
        refine ⟨pk_in _ 80 (show (rn_f c (rx_p A (rx_t fv i M)) (rx_s A S) ch 0 p).length < 80 by omega), ed_nu (rn_f c (rx_p A (rx_t fv i M)) (rx_s A S) ch 0 p).length (nm_r (nI_1 _) (nm_r (nI_1 p) (ih _ (rn_put g1) (fun q q1 q2 => ?_)))) rfl (by omega)⟩
        rw [pk_un (by omega)]; exact g2 q (by omega) q2
      · rw [decide_eq_false (fun z => e z.symm)] at hss
        rw [rn_g2 hr hss, List.append_nil] at ih
        exact nm_r (nI_1 p) (ih TX g1 (fun q q1 q2 => g2 q (by omega) q2))
    refine br_f (nI_ge (by omega) (by omega)) ⟨pk_in p 80 (by omega), ed_rd p (hCT p (by omega)) ?_⟩
    cases hA : A p with
    | none => exact br_t rfl (hkeep (rx_pn hA) _)
    | some t =>
      have htT := hAT p t (by omega) hA
      have hps := rx_ps (rt := rx_t fv i M) hA
      have hiff := ed_oI_s (M t) (fun x hx => by have := hMl t x hx; omega) (u := i) (by omega)
      refine br_f (ed_m3 (show t < 2 ^ 31 by omega)) ⟨pk_in i 80 hi, pk_eq t fv (fun e => ?_) (fun e => ⟨pk_in t 80 (by omega), ?_⟩) rfl (ed_rt i hFI)⟩
      · exact hrep t hA (by rw [hps]; exact decide_eq_true (Or.inl e))
      · have em : a_tokenMeaning (nI t).toNatClampNeg = ed_oI (M t) := ed_rt t (hM t htT)
        show (a_tokenMeaning (nI t).toNatClampNeg = nI i → _) ∧ (¬ a_tokenMeaning (nI t).toNatClampNeg = nI i → _)
        rw [em]
        by_cases z : M t = some i
        · exact br_t (hiff.mpr z) (hrep t hA (by rw [hps]; exact decide_eq_true (Or.inr z)))
        · refine br_f (fun y => z (hiff.mp y)) (hkeep ?_ _)
          rw [hps]; exact decide_eq_false (fun y => by cases y with | inl y => exact e y | inr y => exact z y)
end
section
variable {f_length f_tokenCount f_itemCount f_blockCount f_looseCount f_numberCount f_operatorCount : Int32} {a_text a_kinds a_starts a_ends a_owners a_meant a_firsts a_lasts a_sorts a_blocks a_knowns a_values a_around a_depths a_compared a_numbers a_operators : Nat → Int32}
theorem ry_loop {post : Int32 → SY → Prop} {c S E : Nat → Nat} {A M : Nat → Option Nat} {n T i fv ch : Nat} (hn : n ≤ 80) (hT : T ≤ 80) (hi : i < 80) (hf : fv < 80) (hFI : a_firsts i = nI fv) (hM : ed_ao a_meant M T) (hMl : ∀ t d, M t = some d → d < 80) (hS : ed_ag a_starts S T) (hE : ed_ag a_ends E T)
    (h4 : ∀ t, t < T → S t < E t ∧ E t ≤ n) (h7 : ∀ t, t + 1 < T → E t ≤ S (t + 1)) (hAT : ∀ p t, p < n → A p = some t → t < T) (h5 : ∀ p t, p < n → t < T → (A p = some t ↔ (S t ≤ p ∧ p < E t)))
    (hP : ∀ a_text : Nat → Int32, rn_l a_text 0 (rn_f c (rx_p A (rx_t fv i M)) (rx_s A S) ch 0 n) → post (nI (rn_c (rx_t fv i M) T)) (nI (rn_f c (rx_p A (rx_t fv i M)) (rx_s A S) ch 0 n).length, f_tokenCount, f_itemCount, f_blockCount, f_looseCount, f_numberCount, f_operatorCount, a_text, a_kinds, a_starts, a_ends, a_owners, a_meant, a_firsts, a_lasts, a_sorts, a_blocks, a_knowns, a_values, a_around, a_depths, a_compared, a_numbers, a_operators)) :
    ∀ D, D ≤ T → ∀ x4 : Int32, x4 = nI D - 1 → ∀ f, D < f → ∀ (a_text : Nat → Int32) (b : Nat), b ≤ n → (D < T → b = S D) → (¬ D < T → b = n) → (∀ j, j < b → a_text j = nI (c j)) → rn_l a_text b (rn_f c (rx_p A (rx_t fv i M)) (rx_s A S) ch b (n - b)) →
      (wY_rename_50 post (nI i) (nI ch) f (nI (rn_c (rx_t fv i M) T - rn_c (rx_t fv i M) D)) x4 (nI (b + (rn_f c (rx_p A (rx_t fv i M)) (rx_s A S) ch b (n - b)).length)) f_tokenCount f_itemCount f_blockCount f_looseCount f_numberCount f_operatorCount a_text a_kinds a_starts a_ends a_owners a_meant a_firsts a_lasts a_sorts a_blocks a_knowns a_values a_around a_depths a_compared a_numbers a_operators) := by
  have hord := rx_ord h4 h7
  have hgap : ∀ D, D ≤ T → ∀ a b, b ≤ n → (D < T → b = S D) → (¬ D < T → b = n) → (∀ t, t < D → E t ≤ a) → ∀ p, a ≤ p → p < b → rx_p A (rx_t fv i M) p = false := by
    intro D hD a b hb hb1 hb2 ha p hp1 hp2
    cases hA : A p with
    | none => exact rx_pn hA
    | some t =>
      have htT := hAT p t (by omega) hA
      have hse := (h5 p t (by omega) htT).mp hA
      by_cases z : t < D
      · have := ha t z; omega
      · have hDT : D < T := by omega
        have e := hb1 hDT
        by_cases y : t = D
        · subst y; omega
        · have q := hord t D (by omega) htT
          have q2 := (h4 D hDT).1
          omega
  intro D
  induction D with
  | zero =>
    intro hD x4 hx f hf TX b hb hb1 hb2 g1 g2
    obtain ⟨f, rfl⟩ : ∃ g, f = g + 1 := ⟨f - 1, by omega⟩
    subst hx
    obtain ⟨m1, m2⟩ := rn_mv b 0 b (by omega) hb (hgap 0 (by omega) 0 b hb hb1 hb2 (fun t ht => by omega)) g1 g2
    rw [Nat.zero_add, Nat.sub_zero] at m2
    rw [Nat.sub_zero] at m1
    have hP := hP TX m1
    rw [m2] at hP
    refine br_t (by decide) ?_
    exact hP
  | succ t ih =>
    intro hD x4 hx f hf2 TX b hb hb1 hb2 g1 g2
    obtain ⟨f, rfl⟩ : ∃ g, f = g + 1 := ⟨f - 1, by omega⟩
    rw [nI_pred] at hx
    subst hx
    have hse := h4 t (by omega)
    have heb : E t ≤ b := by
      by_cases z : t + 1 < T
      · rw [hb1 z]; exact h7 t z
      · rw [hb2 z]; exact hse.2
    obtain ⟨m1, m2⟩ := rn_mv (b - E t) (E t) b (by omega) hb (hgap (t + 1) hD (E t) b hb hb1 hb2 (fun s hs => by
      by_cases z : s = t
      · subst z; exact Nat.le_refl _
      · have := hord t s (by omega) (by omega); omega)) g1 g2
    have hlen := rn_f_len c (rx_p A (rx_t fv i M)) (rx_s A S) ch (n - E t) (E t)
    have hAp : ∀ p, S t ≤ p → p < E t → A p = some t := fun p q1 q2 => (h5 p t (by omega) (by omega)).mpr ⟨q1, q2⟩
    have hc1 : rn_c (rx_t fv i M) (t + 1) = if rx_t fv i M t = true then rn_c (rx_t fv i M) t + 1 else rn_c (rx_t fv i M) t := rfl
    have hcm := rn_cm (rt := rx_t fv i M) hD
    have em : a_meant (nI t).toNatClampNeg = ed_oI (M t) := ed_rt t (hM t (by omega))
    have es : a_starts (nI t).toNatClampNeg = nI (S t) := ed_rt t (hS t (by omega))
    have ee : a_ends (nI t).toNatClampNeg = nI (E t) := ed_rt t (hE t (by omega))
    have hiff := ed_oI_s (M t) (fun x hx => by have := hMl t x hx; omega) (u := i) (by omega)
    have ih := ih (by omega) _ (Int32.sub_eq_add_neg _ _).symm f (by omega)
    rw [← m2]
    have hkeep : rx_t fv i M t = false → (wY_rename_50 post (nI i) (nI ch) f (nI (rn_c (rx_t fv i M) T - rn_c (rx_t fv i M) (t + 1))) (nI t + (-1)) (nI (E t + (rn_f c (rx_p A (rx_t fv i M)) (rx_s A S) ch (E t) (n - E t)).length)) f_tokenCount f_itemCount f_blockCount f_looseCount f_numberCount f_operatorCount TX a_kinds a_starts a_ends a_owners a_meant a_firsts a_lasts a_sorts a_blocks a_knowns a_values a_around a_depths a_compared a_numbers a_operators) := by
      intro hr
      obtain ⟨w1, w2⟩ := rn_mv (E t - S t) (S t) (E t) (by omega) (by omega) (fun p q1 q2 => by rw [rx_ps (hAp p q1 q2)]; exact hr) (fun j hj => g1 j (by omega)) m1
      rw [hc1, if_neg (by rw [hr]; decide), ← w2]
      exact ih TX (S t) (by omega) (fun _ => rfl) (fun z => by omega) (fun j hj => g1 j (by omega)) w1
    have hrep : rx_t fv i M t = true → (wY_rename_77 post (wY_rename_50 post (nI i) (nI ch) f) (nI i) (nI ch) (nI (rn_c (rx_t fv i M) T - rn_c (rx_t fv i M) (t + 1))) (nI t) (nI (E t + (rn_f c (rx_p A (rx_t fv i M)) (rx_s A S) ch (E t) (n - E t)).length)) f_tokenCount f_itemCount f_blockCount f_looseCount f_numberCount f_operatorCount TX a_kinds a_starts a_ends a_owners a_meant a_firsts a_lasts a_sorts a_blocks a_knowns a_values a_around a_depths a_compared a_numbers a_operators) := by
      intro hr
      have hw : rn_f c (rx_p A (rx_t fv i M)) (rx_s A S) ch (S t) (n - S t) = ch :: rn_f c (rx_p A (rx_t fv i M)) (rx_s A S) ch (E t) (n - E t) := by
        have hA0 := hAp (S t) (Nat.le_refl _) hse.1
        rw [rn_st (by omega), rn_g1 (by rw [rx_ps hA0]; exact hr) (by rw [rx_ss hA0]; exact decide_eq_true rfl)]
        rw [rn_sk (E t - (S t + 1)) (S t + 1) (E t) (by omega) hse.2 (fun p q1 q2 => ?_)]
        · rfl
        · have hA1 := hAp p (by omega) q2
          exact ⟨by rw [rx_ps hA1]; exact hr, by rw [rx_ss hA1]; exact decide_eq_false (by omega)⟩
      refine ⟨pk_in t 80 (by omega), pk_in t 80 (by omega), pk_in t 80 (by omega), ?_⟩
      rw [es, ee, nI_1 (S t), pk_sub (show S t ≤ E t by omega), show nI (E t - S t) - 1 = nI (E t - S t - 1) from pk_sub (b := 1) (by omega)]
      refine ys_take (n := E t + (rn_f c (rx_p A (rx_t fv i M)) (rx_s A S) ch (E t) (n - E t)).length) (p := S t + 1) (m := E t - S t - 1) (by omega) (by omega) (fun B w1 w2 => ?_)
      refine ⟨pk_in t 80 (by omega), ?_⟩
      show vp_in (a_starts (nI t).toNatClampNeg) 81 ∧ ∀ a_text_66, a_text_66 = upd B (a_starts (nI t).toNatClampNeg).toNatClampNeg (nI ch) → _
      rw [es]
      refine ⟨pk_in (S t) 81 (by omega), ed_nu (S t) (nm_r (nI_1 _) (nm_e ?_))⟩
      have ih := ih (upd B (S t) (nI ch)) (S t) (by omega) (fun _ => rfl) (fun z => by omega) (fun j hj => by rw [pk_un (by omega), w1 j (by omega)]; exact g1 j (by omega)) (by
        rw [hw]
        refine ⟨pk_us, rn_l_c (p := E t) (fun j hj => ?_) m1⟩
        rw [pk_un (by omega), w2 (S t + 1 + j) (by omega) (by omega)]
        exact congrArg TX (by omega))
      have e1 : rn_c (rx_t fv i M) T - rn_c (rx_t fv i M) (t + 1) + 1 = rn_c (rx_t fv i M) T - rn_c (rx_t fv i M) t := by
        rw [hc1, if_pos hr]; rw [hc1, if_pos hr] at hcm; omega
      have e2 : E t + (rn_f c (rx_p A (rx_t fv i M)) (rx_s A S) ch (E t) (n - E t)).length - (E t - S t - 1) = S t + (rn_f c (rx_p A (rx_t fv i M)) (rx_s A S) ch (S t) (n - S t)).length := by
        rw [hw, List.length_cons]; omega
      rw [e1, e2]
      exact ih
    refine br_f (nI_pos (by omega)) ⟨pk_in i 80 hi, pk_eq t fv (fun e => ?_) (fun e => ⟨pk_in t 80 (by omega), ?_⟩) rfl (ed_rt i hFI)⟩
    · exact hrep (decide_eq_true (Or.inl e))
    · rw [em]
      by_cases z : M t = some i
      · exact br_t (hiff.mpr z) (hrep (decide_eq_true (Or.inr z)))
      · exact br_f (fun y => z (hiff.mp y)) (nm_e (hkeep (decide_eq_false (fun y => by cases y with | inl y => exact e y | inr y => exact z y))))
end
end
section
section
/-! rename, owed -/
def rz_l (c : Nat → Nat) (n i ch : Nat) : List Nat := rn_f c (rx_p (pq_A c n) (rx_t (it_fi (pq_K c n) (pq_T c n + 1) i) i (pq_M c n))) (rx_s (pq_A c n) (pq_S c n)) ch 0 n
def rz_c (l : List Nat) : Nat → Nat := fun j => (l[j]?).getD 0
theorem rz_ag {A : Nat → Int32} {l : List Nat} (h : rn_l A 0 l) : ed_ag A (rz_c l) l.length := by
  intro j hj
  have := rn_l_get h hj
  rw [Nat.zero_add] at this
  rw [this]
  unfold rz_c
  rw [List.getElem?_eq_getElem hj]; rfl
theorem rz_18 {l : List Nat} (h : ∀ x, x ∈ l → x ≤ 18) : ∀ j, j < l.length → rz_c l j ≤ 18 := by
  intro j hj
  unfold rz_c
  rw [List.getElem?_eq_getElem hj]
  exact h _ (List.getElem_mem hj)
theorem i_vc_rename {k : Nat} {u : SX} {v : SY} (I : i_Rel k u v) (hk : k + 5 ≤ 2560) (v1 : Int32) (v2 : Int32) : wpX_rename (fun r u' => wpY_rename (fun r' v' => r' = r ∧ i_Rel (k + 5) u' v') v v1 v2) u v1 v2 := by
  have I2 := I
  obtain ⟨c, n, hn, hc, hX, hY⟩ := I
  have hX2 := hX
  obtain ⟨hTT, hNN⟩ := pq_b hn hc
  obtain ⟨p1, p2, p3, p4⟩ := pq_f hn hc
  obtain ⟨i1, i2, i3, i4, i5, i6, i7⟩ := tk_Ir hc n (Nat.le_refl _)
  obtain ⟨f_size, f_tokenCount, f_itemCount, f_blockCount, f_openCount, f_looseCount, a_text, a_characterToken, a_tokenKind, a_tokenStart, a_tokenEnd, a_tokenItem, a_tokenMeaning, a_itemFirst, a_itemEnd, a_itemSort, a_itemDepth, a_itemBlock, a_itemUses, a_itemKnown, a_itemValue, a_blockEnd, a_openBlocks, a_levelCompares, a_levelLeft, a_levelSum, a_levelProduct⟩ := u
  obtain ⟨rfl, hT, hD⟩ := hX
  obtain ⟨rfl, rfl, rfl, d4, d5, d6, d7, d8, d9, d10, d11, d12, d13, d14⟩ := hD
  obtain ⟨f_length, f_tokenCount', f_itemCount', f_blockCount', f_looseCount', f_numberCount, f_operatorCount, a_text', a_kinds, a_starts, a_ends, a_owners, a_meant, a_firsts, a_lasts, a_sorts, a_blocks, a_knowns, a_values, a_around, a_depths, a_compared, a_numbers, a_operators⟩ := v
  by_cases z1 : v2 < 0
  · exact br_t z1 (br_t z1 ⟨rfl, I2⟩)
  · refine br_f z1 ?_
    obtain ⟨ch, hch, rfl⟩ := nI_of z1
    refine pk_le ch 4 (fun h4 => ?_) (fun h4 => br_f z1 (br_f (nI_ge (a := 4) h4 (by omega)) ⟨rfl, I2⟩))
    have hle4 : nI ch ≤ 4 := nI_le (b := 4) h4 (by omega)
    have hno : ((v1 < 0 ∨ nI (pq_N c n) ≤ v1) ∨ ∃ j, j < pq_N c n ∧ v1 = nI j ∧ ¬ mn_so (pq_K c n) (pq_T c n) j = 2) → wpY_rename (fun r' v' => r' = -3 ∧ i_Rel (k + 5) (nI n, nI (pq_T c n), nI (pq_N c n), f_blockCount, f_openCount, nI (pq_L c n), a_text, a_characterToken, a_tokenKind, a_tokenStart, a_tokenEnd, a_tokenItem, a_tokenMeaning, a_itemFirst, a_itemEnd, a_itemSort, a_itemDepth, a_itemBlock, a_itemUses, a_itemKnown, a_itemValue, a_blockEnd, a_openBlocks, a_levelCompares, a_levelLeft, a_levelSum, a_levelProduct) v') (f_length, f_tokenCount', f_itemCount', f_blockCount', f_looseCount', f_numberCount, f_operatorCount, a_text', a_kinds, a_starts, a_ends, a_owners, a_meant, a_firsts, a_lasts, a_sorts, a_blocks, a_knowns, a_values, a_around, a_depths, a_compared, a_numbers, a_operators) v1 (nI ch) := by
      intro hz
      refine br_f z1 (br_t hle4 ?_)
      refine yq_rd hn hc hY (fun f_blockCount f_numberCount f_operatorCount a_kinds a_starts a_ends a_owners a_meant a_firsts a_lasts a_sorts a_blocks a_knowns a_values a_around a_depths a_compared a_numbers a_operators a_text' hT' hD' => ?_)
      obtain ⟨e1, e2, e3, e4, e5, e6, e7, e8, e9, e10, e11, e12, e13, e14⟩ := hD'
      rcases ed_ix v1 (n := pq_N c n) (by omega) with z | z | ⟨j, hj, rfl⟩
      · exact br_t z ⟨rfl, c, n, hn, hc, hX2, rfl, hT'⟩
      · exact br_f z.1 (br_t z.2 ⟨rfl, c, n, hn, hc, hX2, rfl, hT'⟩)
      · have hs2 : mn_so (pq_K c n) (pq_T c n) j ≤ 2 := ex_so_le _ _ _
        refine br_f (nI_pos (by omega)) (br_f (nI_ge hj (by omega)) ⟨pk_in j 80 (by omega), pk_eq (mn_so (pq_K c n) (pq_T c n) j) 2 (fun y => ?_) (fun y => ⟨rfl, c, n, hn, hc, hX2, rfl, hT'⟩) (ed_rt j (e10 j hj))⟩)
        exfalso
        cases hz with
        | inl hz =>
          cases hz with
          | inl w => exact nI_pos (by omega) w
          | inr w => exact nI_ge hj (by omega) w
        | inr hz =>
          obtain ⟨j2, w1, w2, w3⟩ := hz
          have := (nI_eq (show j < 2 ^ 31 by omega) (show j2 < 2 ^ 31 by omega)).mp w2
          subst this
          exact w3 y
    unfold wpX_isDefinition
    refine xq_isItem _ _ _ _ _ _ _ _ _ _ _ _ _ _ _ _ _ _ _ _ _ _ _ _ _ _ hNN (fun z => br_t rfl (br_t rfl (hno (Or.inl z)))) (fun j hj hx => ?_)
    subst hx
    have hs2 : mn_so (pq_K c n) (pq_T c n) j ≤ 2 := ex_so_le _ _ _
    refine br_f (by decide) ⟨pk_in j 80 (by omega), pk_eq (mn_so (pq_K c n) (pq_T c n) j) 2 (fun hs => br_f (by decide) ⟨pk_in j 80 (by omega), ?_⟩) (fun hs => br_t rfl (hno (Or.inr ⟨j, hj, rfl, hs⟩))) (ed_rt j (d10 j hj))⟩
    have hE := it_E (k := pq_K c n) (T := pq_T c n) hj
    have hfT : it_fi (pq_K c n) (pq_T c n + 1) j < pq_T c n := by omega
    have hMl : ∀ t d, pq_M c n t = some d → d < 80 := fun t d hd => by have := mn_mt_lt hd; omega
    have hfin : mn_ct (pq_M c n) j (pq_T c n) + 1 = rn_c (rx_t (it_fi (pq_K c n) (pq_T c n + 1) j) j (pq_M c n)) (pq_T c n) := by
      have := rn_c_m (f := pq_M c n) (i := j) (mn_mt_fi (nm := mn_nm c (pq_S c n) (pq_E c n)) hj hs) (T := pq_T c n)
      rw [if_pos hfT] at this
      exact this.symm
    have hl18 : ∀ x, x ∈ rz_l c n j ch → x ≤ 18 := rn_f_18 hc (by omega) n 0 (by omega)
    have hln : (rz_l c n j ch).length ≤ n := rn_f_len _ _ _ _ _ _
    refine nm_r (e' := nI (rn_c (rx_t (it_fi (pq_K c n) (pq_T c n + 1) j) j (pq_M c n)) (pq_T c n))) ?_ ?_
    · rw [ed_rt j (d12 j hj), nI_1, hfin]
    · refine ⟨n + 1, ?_⟩
      refine rx_loop (c := c) (S := pq_S c n) (A := pq_A c n) (M := pq_M c n) (T := pq_T c n) (fv := it_fi (pq_K c n) (pq_T c n + 1) j) (ch := ch) hn hTT (by omega) (by omega) (by omega) d4 i2 (d9 j hj) d8 hMl d6 (fun t ht => by have := p2 t ht; omega) (fun TX hTX => ?_) n 0 (by omega) _ (by omega) a_text trivial (fun q _ hq => hT q hq)
      have hA : ed_ag TX (rz_c (rz_l c n j ch)) (rz_l c n j ch).length := rz_ag hTX
      refine xr_read (n := (rz_l c n j ch).length) (by omega) (rz_18 hl18) hA (fun f_tokenCount f_itemCount f_blockCount f_openCount f_looseCount a_characterToken a_tokenKind a_tokenStart a_tokenEnd a_tokenItem a_tokenMeaning a_itemFirst a_itemEnd a_itemSort a_itemDepth a_itemBlock a_itemUses a_itemKnown a_itemValue a_blockEnd a_openBlocks a_levelCompares a_levelLeft a_levelSum a_levelProduct hD => ?_)
      refine br_f z1 (br_t hle4 ?_)
      refine yq_rd hn hc hY (fun f_blockCount' f_numberCount f_operatorCount a_kinds a_starts a_ends a_owners a_meant a_firsts a_lasts a_sorts a_blocks a_knowns a_values a_around a_depths a_compared a_numbers a_operators a_text' hT' hD' => ?_)
      obtain ⟨e1, e2, e3, e4, e5, e6, e7, e8, e9, e10, e11, e12, e13, e14⟩ := hD'
      refine br_f (nI_pos (by omega)) (br_f (nI_ge hj (by omega)) ⟨pk_in j 80 (by omega), br_t (by rw [ed_rt j (e10 j hj), hs]; rfl) (nm_e ⟨pq_T c n + 1, ?_⟩)⟩)
      have res := ry_loop (post := fun r' v' => r' = nI (rn_c (rx_t (it_fi (pq_K c n) (pq_T c n + 1) j) j (pq_M c n)) (pq_T c n)) ∧ i_Rel (k + 5) (nI (rz_l c n j ch).length, f_tokenCount, f_itemCount, f_blockCount, f_openCount, f_looseCount, TX, a_characterToken, a_tokenKind, a_tokenStart, a_tokenEnd, a_tokenItem, a_tokenMeaning, a_itemFirst, a_itemEnd, a_itemSort, a_itemDepth, a_itemBlock, a_itemUses, a_itemKnown, a_itemValue, a_blockEnd, a_openBlocks, a_levelCompares, a_levelLeft, a_levelSum, a_levelProduct) v')
        (f_tokenCount := nI (pq_T c n)) (f_itemCount := nI (pq_N c n)) (f_blockCount := f_blockCount') (f_looseCount := nI (pq_L c n)) (f_numberCount := f_numberCount) (f_operatorCount := f_operatorCount) (a_kinds := a_kinds) (a_owners := a_owners) (a_lasts := a_lasts) (a_sorts := a_sorts) (a_blocks := a_blocks) (a_knowns := a_knowns) (a_values := a_values) (a_around := a_around) (a_depths := a_depths) (a_compared := a_compared) (a_numbers := a_numbers) (a_operators := a_operators)
        (c := c) (S := pq_S c n) (E := pq_E c n) (A := pq_A c n) (M := pq_M c n) (T := pq_T c n) (fv := it_fi (pq_K c n) (pq_T c n + 1) j) (ch := ch) hn hTT (show j < 80 by omega) (by omega) (e9 j hj) e8 hMl e5 e6 i4 i7 i2 i5
        (fun TY hTY => ⟨rfl, rz_c (rz_l c n j ch), (rz_l c n j ch).length, by omega, rz_18 hl18, ⟨rfl, hA, hD⟩, ⟨rfl, rz_ag hTY⟩⟩)
        (pq_T c n) (Nat.le_refl _) _ rfl (pq_T c n + 1) (by omega) a_text' n (Nat.le_refl _) (fun z => absurd z (Nat.lt_irrefl _)) (fun _ => rfl) hT' (by rw [Nat.sub_self]; trivial)
      rw [Nat.sub_self, Nat.sub_self] at res
      exact res
end
end
