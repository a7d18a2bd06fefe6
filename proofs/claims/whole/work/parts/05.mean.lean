section
/-! meanings and values: T tokens with kinds k (11 at T), nm: the same name, nu: the value of a number -/
def mn_so (k : Nat → Nat) (T i : Nat) : Nat := ex_so k (it_fi k (T + 1) i) (it_ie k (T + 1) i)
def mn_es (k : Nat → Nat) (T i : Nat) : Nat := ex_es (mn_so k T i) (it_fi k (T + 1) i)
def mn_rl (l m : List Nat) : Bool := match m with | [] => true | b :: _ => decide (b ∈ l)
def mn_rc (k : Nat → Nat) (T i d : Nat) : Bool := mn_rl (it_ik k (T + 1) i) (it_ik k (T + 1) d)
def mn_sr (k : Nat → Nat) (T : Nat) (nm : Nat → Nat → Bool) (i t : Nat) : Nat → Option Nat
  | 0 => none
  | d + 1 => if mn_so k T d = 2 ∧ mn_rc k T i d = true ∧ nm (it_fi k (T + 1) d) t = true then some d else mn_sr k T nm i t d
def mn_mt (k : Nat → Nat) (T : Nat) (nm : Nat → Nat → Bool) : Nat → Nat → Option Nat
  | 0 => fun _ => none
  | i + 1 => fun t => if mn_so k T i ≠ 0 ∧ mn_es k T i ≤ t ∧ t < it_ie k (T + 1) i ∧ k t = 0 then mn_sr k T nm i t i else mn_mt k T nm i t
def mn_ct (f : Nat → Option Nat) (d : Nat) : Nat → Nat
  | 0 => 0
  | t + 1 => if f t = some d then mn_ct f d t + 1 else mn_ct f d t
def mn_tv (k : Nat → Nat) (nu : Nat → Int32) (f : Nat → Option Nat) (tb : Nat → Bool × Int32) (t : Nat) : Int32 :=
  if k t = 1 then nu t else match f t with | none => 0 | some d => (tb d).2
def mn_k1 (k : Nat → Nat) (f : Nat → Option Nat) (tb : Nat → Bool × Int32) (t : Nat) : Bool :=
  if k t = 0 then (match f t with | none => false | some d => (tb d).1) else true
def mn_ak (k : Nat → Nat) (f : Nat → Option Nat) (tb : Nat → Bool × Int32) : Nat → Nat → Bool
  | 0, _ => true
  | m + 1, t => mn_k1 k f tb t && mn_ak k f tb m (t + 1)
def mn_iv (k : Nat → Nat) (T : Nat) (nm : Nat → Nat → Bool) (nu : Nat → Int32) (tb : Nat → Bool × Int32) (i : Nat) : Bool × Int32 :=
  if mn_so k T i ≠ 0 ∧ mn_ak k (fun t => mn_sr k T nm i t i) tb (it_ie k (T + 1) i - mn_es k T i) (mn_es k T i) = true
  then (true, ev_r k (mn_tv k nu (fun t => mn_sr k T nm i t i) tb) (it_ie k (T + 1) i - mn_es k T i) (mn_es k T i) [(none, none, none)] none)
  else (false, 0)
def mn_kv (k : Nat → Nat) (T : Nat) (nm : Nat → Nat → Bool) (nu : Nat → Int32) : Nat → Nat → Bool × Int32
  | 0 => fun _ => (false, 0)
  | i + 1 => ed_fu (mn_kv k T nm nu i) i (mn_iv k T nm nu (mn_kv k T nm nu i) i)
theorem mn_sr_lt {k : Nat → Nat} {T : Nat} {nm : Nat → Nat → Bool} {i t : Nat} : ∀ {D d : Nat}, mn_sr k T nm i t D = some d → d < D := by
  intro D
  induction D with
  | zero => intro d h; cases h
  | succ D ih =>
    intro d h
    unfold mn_sr at h
    split at h
    · cases h; omega
    · have := ih h; omega
theorem mn_mt_lt {k : Nat → Nat} {T : Nat} {nm : Nat → Nat → Bool} {t : Nat} : ∀ {i d : Nat}, mn_mt k T nm i t = some d → d < i := by
  intro i
  induction i with
  | zero => intro d h; cases h
  | succ i ih =>
    intro d h
    unfold mn_mt at h
    split at h
    · have := mn_sr_lt h; omega
    · have := ih h; omega
theorem mn_es_ge (k : Nat → Nat) (T i : Nat) : it_fi k (T + 1) i ≤ mn_es k T i := by
  unfold mn_es ex_es; split <;> omega
theorem mn_mt_0 {k : Nat → Nat} {T : Nat} {nm : Nat → Nat → Bool} {t : Nat} : ∀ {i : Nat}, i ≤ it_cn k (T + 1) → (∀ j, j < i → it_ie k (T + 1) j ≤ t ∨ t < mn_es k T j) → mn_mt k T nm i t = none := by
  intro i
  induction i with
  | zero => intro _ _; rfl
  | succ i ih =>
    intro hi h
    unfold mn_mt
    rw [if_neg, ih (by omega) (fun j hj => h j (by omega))]
    intro z
    have := h i (by omega)
    omega
theorem mn_mt_out {k : Nat → Nat} {T : Nat} {nm : Nat → Nat → Bool} {t i : Nat} (hi : i < it_cn k (T + 1)) (ht : it_fi k (T + 1) i ≤ t) : mn_mt k T nm i t = none := by
  refine mn_mt_0 (by omega) (fun j hj => Or.inl ?_)
  have := (it_Ip k (T + 1)).2.2.2.2.2 j i hj hi
  omega
theorem mn_mt_in {k : Nat → Nat} {T : Nat} {nm : Nat → Nat → Bool} {t i : Nat} (hs : mn_so k T i ≠ 0) (h1 : mn_es k T i ≤ t) (h2 : t < it_ie k (T + 1) i) (h3 : k t = 0) : ∀ {N : Nat}, i < N → N ≤ it_cn k (T + 1) → mn_mt k T nm N t = mn_sr k T nm i t i := by
  intro N
  induction N with
  | zero => intro h; omega
  | succ N ih =>
    intro h hN
    unfold mn_mt
    by_cases e : i = N
    · subst e; rw [if_pos ⟨hs, h1, h2, h3⟩]
    · rw [if_neg, ih (by omega) (by omega)]
      intro z
      have a := (it_Ip k (T + 1)).2.2.2.2.2 i N (by omega) (by omega)
      have b := mn_es_ge k T N
      omega
theorem mn_mt_fi {k : Nat → Nat} {T : Nat} {nm : Nat → Nat → Bool} {i : Nat} (hi : i < it_cn k (T + 1)) (hs : mn_so k T i = 2) : mn_mt k T nm (it_cn k (T + 1)) (it_fi k (T + 1) i) = none := by
  refine mn_mt_0 (Nat.le_refl _) (fun j hj => ?_)
  have hb := mn_es_ge k T j
  by_cases e : j = i
  · subst e
    have : mn_es k T j = it_fi k (T + 1) j + 2 := by unfold mn_es ex_es; rw [if_pos hs]
    omega
  · by_cases e2 : j < i
    · have := (it_Ip k (T + 1)).2.2.2.2.2 j i e2 hi
      omega
    · have := (it_Ip k (T + 1)).2.2.2.2.2 i j (by omega) hj
      have a := ((it_Ip k (T + 1)).2.2.2.1 i hi).1
      omega
theorem mn_kv_s {k : Nat → Nat} {T : Nat} {nm : Nat → Nat → Bool} {nu : Nat → Int32} {d : Nat} : ∀ {i j : Nat}, d < i → i ≤ j → mn_kv k T nm nu j d = mn_kv k T nm nu i d := by
  intro i j
  induction j with
  | zero => intro h1 h2; omega
  | succ j ih =>
    intro h1 h2
    by_cases e : i = j + 1
    · subst e; rfl
    · rw [← ih h1 (by omega)]
      exact ed_fn (by omega)
theorem mn_ct_u {f g : Nat → Option Nat} {d : Nat} : ∀ {T : Nat}, (∀ t, t < T → (f t = some d ↔ g t = some d)) → mn_ct f d T = mn_ct g d T := by
  intro T
  induction T with
  | zero => intro _; rfl
  | succ T ih =>
    intro h
    unfold mn_ct
    rw [ih (fun t ht => h t (by omega))]
    by_cases e : f T = some d
    · rw [if_pos e, if_pos ((h T (by omega)).mp e)]
    · rw [if_neg e, if_neg (fun z => e ((h T (by omega)).mpr z))]
theorem mn_ct_p {f : Nat → Option Nat} {d t : Nat} (hn : f t = none) : ∀ {T : Nat}, t < T → mn_ct (ed_fu f t (some d)) d T = mn_ct f d T + 1 := by
  intro T
  induction T with
  | zero => intro h; omega
  | succ T ih =>
    intro h
    unfold mn_ct
    by_cases e : t = T
    · subst e
      rw [ed_fs, if_pos rfl, hn, if_neg (by intro z; cases z)]
      rw [mn_ct_u (f := ed_fu f t (some d)) (g := f) (fun q hq => by rw [ed_fn (by omega)])]
    · rw [ed_fn (by omega), ih (by omega)]
      by_cases z : f T = some d
      · rw [if_pos z, if_pos z]
      · rw [if_neg z, if_neg z]
theorem mn_ct_le {f : Nat → Option Nat} {d : Nat} : ∀ {T : Nat}, mn_ct f d T ≤ T := by
  intro T
  induction T with
  | zero => exact Nat.le_refl _
  | succ T ih => unfold mn_ct; split <;> omega
theorem mn_ct_0 {f : Nat → Option Nat} {d : Nat} : ∀ {T : Nat}, (∀ t, t < T → f t ≠ some d) → mn_ct f d T = 0 := by
  intro T
  induction T with
  | zero => intro _; rfl
  | succ T ih =>
    intro h
    unfold mn_ct
    rw [if_neg (h T (by omega)), ih (fun t ht => h t (by omega))]
/-- the same name -/
def mn_nm (c st en : Nat → Nat) (t u : Nat) : Bool := decide (en t - st t = en u - st u ∧ ∀ j, j < en t - st t → c (st t + j) = c (st u + j))
theorem mn_nm_c (c st en : Nat → Nat) (t u : Nat) : mn_nm c st en t u = mn_nm c st en u t := by
  unfold mn_nm
  apply decide_eq_decide.mpr
  constructor
  · rintro ⟨h1, h2⟩; exact ⟨h1.symm, fun j hj => (h2 j (by omega)).symm⟩
  · rintro ⟨h1, h2⟩; exact ⟨h1.symm, fun j hj => (h2 j (by omega)).symm⟩
/-- the value of a number -/
def mn_nv (c : Nat → Nat) : Nat → Nat → Int32 → Int32
  | 0, _, v => v
  | m + 1, p, v => mn_nv c m (p + 1) (v * 10 + (nI (c p) - 5))
end
