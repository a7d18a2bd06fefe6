section
/-! what is an expression (m tokens from t on, a factor due or not, which levels of brackets have compared), and its value -/
def ex_r (k : Nat → Nat) : Nat → Nat → Bool → List Bool → Bool
  | 0, _, w, cs => !w && cs.length == 1
  | m + 1, t, w, cs =>
    if w then (if k t = 6 then ex_r k m (t + 1) true (false :: cs) else if k t ≤ 1 then ex_r k m (t + 1) false cs else false)
    else if k t = 7 then (match cs with | _ :: b :: r => ex_r k m (t + 1) false (b :: r) | _ => false)
    else if k t = 4 ∨ k t = 5 then ex_r k m (t + 1) true cs
    else if k t = 3 then (match cs with | false :: r => ex_r k m (t + 1) true (true :: r) | _ => false)
    else false
theorem ex_w6 {k : Nat → Nat} {m t : Nat} {cs : List Bool} (h : k t = 6) : ex_r k (m + 1) t true cs = ex_r k m (t + 1) true (false :: cs) := by
  simp [ex_r, h]
theorem ex_w1 {k : Nat → Nat} {m t : Nat} {cs : List Bool} (h : k t ≤ 1) : ex_r k (m + 1) t true cs = ex_r k m (t + 1) false cs := by
  have h2 : ¬ k t = 6 := by omega
  simp [ex_r, h, h2]
theorem ex_wn {k : Nat → Nat} {m t : Nat} {cs : List Bool} (h : ¬ k t ≤ 1) (h2 : ¬ k t = 6) : ex_r k (m + 1) t true cs = false := by
  simp only [ex_r, if_true, if_neg h2, if_neg h]
theorem ex_f7 {k : Nat → Nat} {m t : Nat} {a b : Bool} {r : List Bool} (h : k t = 7) : ex_r k (m + 1) t false (a :: b :: r) = ex_r k m (t + 1) false (b :: r) := by
  simp [ex_r, h]
theorem ex_f7n {k : Nat → Nat} {m t : Nat} {a : Bool} (h : k t = 7) : ex_r k (m + 1) t false [a] = false := by
  simp [ex_r, h]
theorem ex_f4 {k : Nat → Nat} {m t : Nat} {cs : List Bool} (h : k t = 4 ∨ k t = 5) : ex_r k (m + 1) t false cs = ex_r k m (t + 1) true cs := by
  have h2 : ¬ k t = 7 := by omega
  simp only [ex_r, Bool.false_eq_true, if_false, if_neg h2, if_pos h]
theorem ex_f3 {k : Nat → Nat} {m t : Nat} {r : List Bool} (h : k t = 3) : ex_r k (m + 1) t false (false :: r) = ex_r k m (t + 1) true (true :: r) := by
  simp [ex_r, h]
theorem ex_f3n {k : Nat → Nat} {m t : Nat} {r : List Bool} (h : k t = 3) : ex_r k (m + 1) t false (true :: r) = false := by
  simp [ex_r, h]
theorem ex_fn {k : Nat → Nat} {m t : Nat} {cs : List Bool} (h7 : ¬ k t = 7) (h4 : ¬ k t = 4) (h5 : ¬ k t = 5) (h3 : ¬ k t = 3) : ex_r k (m + 1) t false cs = false := by
  simp [ex_r, h7, h4, h5, h3]
/-- the sort of what stands from f up to e -/
def ex_so (k : Nat → Nat) (f e : Nat) : Nat :=
  if k e = 8 then
    if k f = 0 ∧ 1 < e - f ∧ k (f + 1) = 2 then (if ex_r k (e - (f + 2)) (f + 2) true [false] then 2 else 0)
    else if ex_r k (e - f) f true [false] then 1 else 0
  else 0
theorem ex_so_def {k : Nat → Nat} {f e : Nat} (h : k f = 0) (h2 : k (f + 1) = 2) (h3 : f + 1 < e) : ex_r k (e - f) f true [false] = false := by
  obtain ⟨m, hm⟩ : ∃ m, e - f = m + 1 + 1 := ⟨e - f - 2, by omega⟩
  rw [hm, ex_w1 (by omega), ex_fn (by omega) (by omega) (by omega) (by omega)]
theorem ex_so_le (k : Nat → Nat) (f e : Nat) : ex_so k f e ≤ 2 := by
  unfold ex_so
  split
  · split
    · split <;> omega
    · split <;> omega
  · omega
/-- where the expression begins -/
def ex_es (s f : Nat) : Nat := if s = 2 then f + 2 else f
/-- an item that is not wrong holds an expression -/
theorem ex_so_ex {k : Nat → Nat} {f e : Nat} (hfe : f < e) (h : ex_so k f e ≠ 0) : ex_r k (e - ex_es (ex_so k f e) f) (ex_es (ex_so k f e) f) true [false] = true ∧ ex_es (ex_so k f e) f ≤ e := by
  by_cases h8 : k e = 8
  · by_cases hd : k f = 0 ∧ 1 < e - f ∧ k (f + 1) = 2
    · by_cases hx : ex_r k (e - (f + 2)) (f + 2) true [false] = true
      · have e1 : ex_so k f e = 2 := by unfold ex_so; rw [if_pos h8, if_pos hd, if_pos hx]
        rw [e1]
        have e2 : ex_es 2 f = f + 2 := rfl
        rw [e2]; exact ⟨hx, by omega⟩
      · exact absurd (by unfold ex_so; rw [if_pos h8, if_pos hd, if_neg hx]) h
    · by_cases hx : ex_r k (e - f) f true [false] = true
      · have e1 : ex_so k f e = 1 := by unfold ex_so; rw [if_pos h8, if_neg hd, if_pos hx]
        rw [e1]
        have e2 : ex_es 1 f = f := rfl
        rw [e2]; exact ⟨hx, by omega⟩
      · exact absurd (by unfold ex_so; rw [if_pos h8, if_neg hd, if_neg hx]) h
  · exact absurd (by unfold ex_so; rw [if_neg h8]) h
/-- one level of brackets: what is compared, the sum so far, the product so far -/
abbrev ev_L : Type := Option Int32 × Option Int32 × Option Int32
def ev_p (L : ev_L) (v : Int32) : Int32 := match L.2.2 with | none => v | some p => p * v
def ev_s (L : ev_L) (v : Int32) : Int32 := match L.2.1 with | none => ev_p L v | some s => s + ev_p L v
def ev_v (L : ev_L) (v : Int32) : Int32 := match L.1 with | none => ev_s L v | some c => if c = ev_s L v then 1 else 0
/-- the value: o is the factor at hand, if none is due -/
def ev_r (k : Nat → Nat) (tv : Nat → Int32) : Nat → Nat → List ev_L → Option Int32 → Int32
  | 0, _, L :: _, some v => ev_v L v
  | m + 1, t, L :: r, none => if k t = 6 then ev_r k tv m (t + 1) ((none, none, none) :: L :: r) none else ev_r k tv m (t + 1) (L :: r) (some (tv t))
  | m + 1, t, L :: r, some v =>
    if k t = 7 then ev_r k tv m (t + 1) r (some (ev_v L v))
    else if k t = 5 then ev_r k tv m (t + 1) ((L.1, L.2.1, some (ev_p L v)) :: r) none
    else if k t = 4 then ev_r k tv m (t + 1) ((L.1, some (ev_s L v), none) :: r) none
    else ev_r k tv m (t + 1) ((some (ev_s L v), none, none) :: r) none
  | _, _, _, _ => 0
def ev_cs (l : List ev_L) : List Bool := l.map (fun L => L.1.isSome)
/-- stacks in arrays, the top at the end -/
def ed_sk (a : Nat → Int32) : List Int32 → Prop
  | [] => True
  | x :: r => a r.length = x ∧ ed_sk a r
def ed_bk (a : Nat → Int32) : List Bool → Prop
  | [] => True
  | b :: r => a r.length = ed_bI b ∧ ed_bk a r
theorem ed_sk_u {a : Nat → Int32} {x : Int32} : ∀ {l : List Int32} {j : Nat}, l.length ≤ j → ed_sk a l → ed_sk (upd a j x) l := by
  intro l
  induction l with
  | nil => intro j _ _; trivial
  | cons y r ih =>
    intro j hj h
    rw [List.length_cons] at hj
    exact ⟨by rw [pk_un (by omega)]; exact h.1, ih (by omega) h.2⟩
theorem ed_bk_u {a : Nat → Int32} {x : Int32} : ∀ {l : List Bool} {j : Nat}, l.length ≤ j → ed_bk a l → ed_bk (upd a j x) l := by
  intro l
  induction l with
  | nil => intro j _ _; trivial
  | cons y r ih =>
    intro j hj h
    rw [List.length_cons] at hj
    exact ⟨by rw [pk_un (by omega)]; exact h.1, ih (by omega) h.2⟩
theorem ed_sk_p {a : Nat → Int32} {x : Int32} {l : List Int32} (h : ed_sk a l) : ed_sk (upd a l.length x) (x :: l) := ⟨pk_us, ed_sk_u (Nat.le_refl _) h⟩
theorem ed_bk_p {a : Nat → Int32} {b : Bool} {l : List Bool} (h : ed_bk a l) : ed_bk (upd a l.length (ed_bI b)) (b :: l) := ⟨pk_us, ed_bk_u (Nat.le_refl _) h⟩
/-- X's four arrays of levels -/
def ev_X (cm lf sm pr : Nat → Int32) : List ev_L → Prop
  | [] => True
  | L :: r => cm r.length = ed_bI L.1.isSome ∧ (∀ x, L.1 = some x → lf r.length = x) ∧ sm r.length = L.2.1.getD 0 ∧ pr r.length = L.2.2.getD 1 ∧ ev_X cm lf sm pr r
theorem ev_X_u {cm lf sm pr cm' lf' sm' pr' : Nat → Int32} : ∀ {l : List ev_L} {j : Nat}, l.length ≤ j → (∀ q, q < j → cm' q = cm q ∧ lf' q = lf q ∧ sm' q = sm q ∧ pr' q = pr q) → ev_X cm lf sm pr l → ev_X cm' lf' sm' pr' l := by
  intro l
  induction l with
  | nil => intro j _ _ _; trivial
  | cons L r ih =>
    intro j hj hq h
    rw [List.length_cons] at hj
    obtain ⟨q1, q2, q3, q4⟩ := hq r.length (by omega)
    obtain ⟨h1, h2, h3, h4, h5⟩ := h
    exact ⟨by rw [q1]; exact h1, fun x hx => by rw [q2]; exact h2 x hx, by rw [q3]; exact h3, by rw [q4]; exact h4, ih (by omega) hq h5⟩
theorem ev_p_x (L : ev_L) (v : Int32) : L.2.2.getD 1 * v = ev_p L v := by
  unfold ev_p
  cases L.2.2 with
  | none => exact Int32.one_mul v
  | some p => rfl
theorem ev_s_x (L : ev_L) (v : Int32) : L.2.1.getD 0 + ev_p L v = ev_s L v := by
  unfold ev_s
  cases L.2.1 with
  | none => exact Int32.zero_add _
  | some p => rfl
/-- Y's two stacks, the top first -/
def ev_nu (L : ev_L) : List Int32 := L.2.2.toList ++ (L.2.1.toList ++ L.1.toList)
def ev_op (L : ev_L) : List Int32 := (if L.2.2.isSome then [5] else []) ++ ((if L.2.1.isSome then [4] else []) ++ (if L.1.isSome then [3] else []))
def ev_N : List ev_L → List Int32
  | [] => []
  | L :: r => ev_nu L ++ ev_N r
def ev_O : List ev_L → List Int32
  | [] => []
  | L :: r => ev_op L ++ (match r with | [] => [] | _ :: _ => 0 :: ev_O r)
theorem ev_O2 (L M : ev_L) (r : List ev_L) : ev_O (L :: M :: r) = ev_op L ++ (0 :: ev_O (M :: r)) := rfl
theorem ev_O1 (L : ev_L) : ev_O [L] = ev_op L ++ [] := rfl
def ev_b (o : Option Int32) : Nat := match o with | none => 0 | some _ => 1
def ev_w (L : ev_L) : Nat := ev_b L.1 + ev_b L.2.1 + ev_b L.2.2
def ev_t : List ev_L → Nat
  | [] => 0
  | L :: r => ev_w L + ev_t r
theorem ev_nu_l (L : ev_L) : (ev_nu L).length = ev_w L := by
  obtain ⟨c, s, p⟩ := L
  cases c <;> cases s <;> cases p <;> rfl
theorem ev_op_l (L : ev_L) : (ev_op L).length = ev_w L := by
  obtain ⟨c, s, p⟩ := L
  cases c <;> cases s <;> cases p <;> rfl
theorem ev_N_l : ∀ l : List ev_L, (ev_N l).length = ev_t l := by
  intro l
  induction l with
  | nil => rfl
  | cons L r ih =>
    show (ev_nu L ++ ev_N r).length = ev_w L + ev_t r
    rw [List.length_append, ev_nu_l, ih]
theorem ev_O_l : ∀ l : List ev_L, (ev_O l).length ≤ ev_t l + l.length := by
  intro l
  induction l with
  | nil => exact Nat.le_refl _
  | cons L r ih =>
    cases r with
    | nil => rw [ev_O1, List.append_nil, ev_op_l]; show ev_w L ≤ ev_w L + 0 + 1; omega
    | cons M r =>
      rw [ev_O2, List.length_append, ev_op_l, List.length_cons]
      show _ ≤ ev_w L + ev_t (M :: r) + (M :: r).length + 1
      omega
theorem ev_b_le (o : Option Int32) : ev_b o ≤ 1 := by
  cases o with
  | none => exact Nat.zero_le _
  | some x => exact Nat.le_refl _
end
