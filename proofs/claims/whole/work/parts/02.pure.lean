/-! the machine: a step on a pile (top first) -/
def mr_put (x : Int32) (s : List Int32) (j : Nat) : Option (List Int32 × Nat) := if s.length < 6 then some (x :: s, j) else none
def mr_dup (j : Nat) : List Int32 → Option (List Int32 × Nat)
  | [] => none
  | x :: t => mr_put x (x :: t) j
def mr_swp (j : Nat) : List Int32 → Option (List Int32 × Nat)
  | [] => none
  | [_] => none
  | x :: y :: t => some (y :: x :: t, j)
def mr_skp (j k : Nat) : List Int32 → Option (List Int32 × Nat)
  | [] => none
  | x :: t => some (t, if x = 0 then j else j + k)
def mr_bck (j k : Nat) : List Int32 → Option (List Int32 × Nat)
  | [] => none
  | x :: t => some (t, if 0 < x then k else j)
def mr_ar (op x y : Int32) : Int32 := if op = 2 then x + y else if op = 3 then x - y else if op = 4 then x * y else if x < y then 1 else 0
def mr_cmb (op : Int32) (j : Nat) : List Int32 → Option (List Int32 × Nat)
  | [] => none
  | [_] => none
  | y :: x :: t => if mr_ar op x y < -1000 ∨ 1000 < mr_ar op x y then none else some (mr_ar op x y :: t, j)
def mr_st (op a inp : Int32) (i : Nat) (s : List Int32) : Option (List Int32 × Nat) :=
  if op = 0 then mr_put a s (i + 1)
  else if op = 1 then mr_put inp s (i + 1)
  else if op = 6 then mr_dup (i + 1) s
  else if op = 7 then mr_swp (i + 1) s
  else if op = 8 then mr_skp (i + 1) a.toNatClampNeg s
  else if op = 9 then mr_bck (i + 1) a.toNatClampNeg s
  else mr_cmb op (i + 1) s
theorem mr_st_0 (a inp : Int32) (i : Nat) (s : List Int32) : mr_st 0 a inp i s = mr_put a s (i + 1) := by simp [mr_st]
theorem mr_st_1 (a inp : Int32) (i : Nat) (s : List Int32) : mr_st 1 a inp i s = mr_put inp s (i + 1) := by simp [mr_st]
theorem mr_st_6 (a inp : Int32) (i : Nat) (s : List Int32) : mr_st 6 a inp i s = mr_dup (i + 1) s := by simp [mr_st]
theorem mr_st_7 (a inp : Int32) (i : Nat) (s : List Int32) : mr_st 7 a inp i s = mr_swp (i + 1) s := by simp [mr_st]
theorem mr_st_8 (a inp : Int32) (i : Nat) (s : List Int32) : mr_st 8 a inp i s = mr_skp (i + 1) a.toNatClampNeg s := by simp [mr_st]
theorem mr_st_9 (a inp : Int32) (i : Nat) (s : List Int32) : mr_st 9 a inp i s = mr_bck (i + 1) a.toNatClampNeg s := by simp [mr_st]
theorem mr_st_c {op : Int32} (h : op = 2 ∨ op = 3 ∨ op = 4 ∨ op = 5) (a inp : Int32) (i : Nat) (s : List Int32) : mr_st op a inp i s = mr_cmb op (i + 1) s := by
  rcases h with rfl | rfl | rfl | rfl <;> simp [mr_st]
def mr_G (s : List Int32) : Prop := s.length ≤ 6 ∧ ∀ x ∈ s, mr_rg x
theorem mr_G0 : mr_G [] := ⟨by simp, fun x h => by cases h⟩
theorem mr_Gt {x : Int32} {s : List Int32} (h : mr_G (x :: s)) : mr_G s :=
  ⟨Nat.le_of_succ_le h.1, fun y hy => h.2 y (List.mem_cons_of_mem _ hy)⟩
theorem mr_Gh {x : Int32} {s : List Int32} (h : mr_G (x :: s)) : mr_rg x := h.2 x List.mem_cons_self
theorem mr_Gc {x : Int32} {s : List Int32} (hl : s.length < 6) (hx : mr_rg x) (h : mr_G s) : mr_G (x :: s) :=
  ⟨hl, fun y hy => by
    rcases List.mem_cons.mp hy with e | e
    · rw [e]; exact hx
    · exact h.2 y e⟩
theorem mr_put_G {x : Int32} {s s' : List Int32} {j j' : Nat} (hG : mr_G s) (hx : mr_rg x) (h : mr_put x s j = some (s', j')) : mr_G s' ∧ j' = j := by
  unfold mr_put at h
  split at h
  · rename_i hl
    cases h
    exact ⟨mr_Gc hl hx hG, rfl⟩
  · cases h
theorem mr_rg_n {x : Int32} (h : ¬ (x < -1000 ∨ 1000 < x)) : mr_rg x := by
  unfold mr_rg
  constructor
  · exact Int32.not_lt.mp (fun z => h (Or.inl z))
  · exact Int32.not_lt.mp (fun z => h (Or.inr z))
/-- the codes: an instruction with its number (0 where it has none) -/
def mr_C : List (Int32 × Int32) :=
  (List.range 16).map (fun j => ((0 : Int32), mr_in j)) ++ ([((1 : Int32), (0 : Int32)), (2, 0), (3, 0), (4, 0), (5, 0), (6, 0), (7, 0)] ++ ((List.range 4).map (fun j => ((8 : Int32), nI j)) ++ (List.range 10).map (fun j => ((9 : Int32), nI j))))
theorem mr_C_op : ∀ c ∈ mr_C, c.1 = 0 ∨ c.1 = 1 ∨ c.1 = 6 ∨ c.1 = 7 ∨ c.1 = 8 ∨ c.1 = 9 ∨ c.1 = 2 ∨ c.1 = 3 ∨ c.1 = 4 ∨ c.1 = 5 := by decide +kernel
theorem mr_C_0 : ∀ c ∈ mr_C, c.1 = 0 → (-1000 ≤ c.2 ∧ c.2 ≤ 1000) := by decide +kernel
theorem mr_C_8 : ∀ c ∈ mr_C, c.1 = 8 → (c.2 = nI c.2.toNatClampNeg ∧ c.2.toNatClampNeg ≤ 3) := by decide +kernel
theorem mr_C_9 : ∀ c ∈ mr_C, c.1 = 9 → (c.2 = nI c.2.toNatClampNeg ∧ c.2.toNatClampNeg ≤ 9) := by decide +kernel
theorem mr_C_0i : ∀ j, j < 16 → ((0 : Int32), mr_in j) ∈ mr_C := by decide +kernel
theorem mr_C_8i : ∀ j, j < 4 → ((8 : Int32), nI j) ∈ mr_C := by decide +kernel
theorem mr_C_9i : ∀ j, j < 10 → ((9 : Int32), nI j) ∈ mr_C := by decide +kernel
theorem mr_C_m : ∀ j, j < 8 → 1 ≤ j → (nI j, (0 : Int32)) ∈ mr_C := by decide +kernel
theorem mr_st_ok {op a inp : Int32} {i i' : Nat} {s s' : List Int32} (hC : (op, a) ∈ mr_C) (hi : mr_rg inp) (hn : i < 10) (hG : mr_G s) (h : mr_st op a inp i s = some (s', i')) : mr_G s' ∧ i' ≤ 13 := by
  rcases mr_C_op _ hC with e | e | e | e | e | e | e
  · change op = 0 at e
    have h0 := mr_C_0 _ hC e
    subst e
    rw [mr_st_0] at h
    obtain ⟨h1, h2⟩ := mr_put_G hG h0 h
    exact ⟨h1, by omega⟩
  · change op = 1 at e
    subst e
    rw [mr_st_1] at h
    obtain ⟨h1, h2⟩ := mr_put_G hG hi h
    exact ⟨h1, by omega⟩
  · change op = 6 at e
    subst e
    rw [mr_st_6] at h
    cases s with
    | nil => cases h
    | cons x t =>
      obtain ⟨h1, h2⟩ := mr_put_G hG (mr_Gh hG) h
      exact ⟨h1, by omega⟩
  · change op = 7 at e
    subst e
    rw [mr_st_7] at h
    cases s with
    | nil => cases h
    | cons x t =>
      cases t with
      | nil => cases h
      | cons y t =>
        cases h
        have h2 := mr_Gt (mr_Gt hG)
        have hl : t.length + 2 ≤ 6 := hG.1
        exact ⟨mr_Gc (show t.length + 1 < 6 by omega) (mr_Gh (mr_Gt hG)) (mr_Gc (by omega) (mr_Gh hG) h2), by omega⟩
  · change op = 8 at e
    have h0 := (mr_C_8 _ hC e).2
    subst e
    rw [mr_st_8] at h
    cases s with
    | nil => cases h
    | cons x t =>
      cases h
      refine ⟨mr_Gt hG, ?_⟩
      change a.toNatClampNeg ≤ 3 at h0
      split <;> omega
  · change op = 9 at e
    have h0 := (mr_C_9 _ hC e).2
    subst e
    rw [mr_st_9] at h
    cases s with
    | nil => cases h
    | cons x t =>
      cases h
      refine ⟨mr_Gt hG, ?_⟩
      change a.toNatClampNeg ≤ 9 at h0
      split <;> omega
  · change op = 2 ∨ op = 3 ∨ op = 4 ∨ op = 5 at e
    rw [mr_st_c e] at h
    cases s with
    | nil => cases h
    | cons y t =>
      cases t with
      | nil => cases h
      | cons x t =>
        simp only [mr_cmb] at h
        split at h
        · cases h
        · rename_i hr
          cases h
          have hl : t.length + 2 ≤ 6 := hG.1
          exact ⟨mr_Gc (by omega) (mr_rg_n hr) (mr_Gt (mr_Gt hG)), by omega⟩
/-! a run -/
def mr_fin : List Int32 → Int32
  | [] => 10003
  | x :: _ => x
def mr_run (o g : Nat → Int32) (n : Nat) (inp : Int32) : Nat → Nat → List Int32 → Int32
  | 0, i, s => if i < n then 10002 else mr_fin s
  | k + 1, i, s => if i < n then (mr_st (o i) (g i) inp i s).elim 10001 (fun q => mr_run o g n inp k q.2 q.1) else mr_fin s
theorem mr_run_f {o g : Nat → Int32} {n : Nat} {inp : Int32} (k : Nat) {i : Nat} (s : List Int32) (h : n ≤ i) : mr_run o g n inp k i s = mr_fin s := by
  cases k with
  | zero => rw [mr_run, if_neg (by omega)]
  | succ k => rw [mr_run, if_neg (by omega)]
theorem mr_run_0 {o g : Nat → Int32} {n : Nat} {inp : Int32} {i : Nat} (s : List Int32) (h : i < n) : mr_run o g n inp 0 i s = 10002 := by
  rw [mr_run, if_pos h]
theorem mr_run_t {o g : Nat → Int32} {n : Nat} {inp : Int32} (k : Nat) {i : Nat} {s : List Int32} (h : i < n) (e : mr_st (o i) (g i) inp i s = none) : mr_run o g n inp (k + 1) i s = 10001 := by
  rw [mr_run, if_pos h, e]
  rfl
theorem mr_run_s {o g : Nat → Int32} {n : Nat} {inp : Int32} (k : Nat) {i i' : Nat} {s s' : List Int32} (h : i < n) (e : mr_st (o i) (g i) inp i s = some (s', i')) : mr_run o g n inp (k + 1) i s = mr_run o g n inp k i' s' := by
  rw [mr_run, if_pos h, e]
  rfl
def mr_V (o g : Nat → Int32) (n : Nat) : Prop := n ≤ 10 ∧ ∀ i, i < n → (o i, g i) ∈ mr_C
theorem mr_fin_r {s : List Int32} (h : mr_G s) : mr_fin s = 10003 ∨ mr_rg (mr_fin s) := by
  cases s with
  | nil => exact Or.inl rfl
  | cons x t => exact Or.inr (mr_Gh h)
theorem mr_run_r {o g : Nat → Int32} {n : Nat} {inp : Int32} (hV : mr_V o g n) (hi : mr_rg inp) : ∀ (k i : Nat) (s : List Int32), mr_G s →
    mr_run o g n inp k i s = 10001 ∨ mr_run o g n inp k i s = 10002 ∨ mr_run o g n inp k i s = 10003 ∨ mr_rg (mr_run o g n inp k i s) := by
  intro k
  induction k with
  | zero =>
    intro i s hG
    by_cases h : i < n
    · exact Or.inr (Or.inl (mr_run_0 s h))
    · rw [mr_run_f 0 s (by omega)]
      rcases mr_fin_r hG with e | e
      · exact Or.inr (Or.inr (Or.inl e))
      · exact Or.inr (Or.inr (Or.inr e))
  | succ k ih =>
    intro i s hG
    by_cases h : i < n
    · cases e : mr_st (o i) (g i) inp i s with
      | none => exact Or.inl (mr_run_t k h e)
      | some q =>
        obtain ⟨s', i'⟩ := q
        rw [mr_run_s k h e]
        exact ih i' s' (mr_st_ok (hV.2 i h) hi (by have := hV.1; omega) hG e).1
    · rw [mr_run_f (k + 1) s (by omega)]
      rcases mr_fin_r hG with e | e
      · exact Or.inr (Or.inr (Or.inl e))
      · exact Or.inr (Or.inr (Or.inr e))
/-! the pile in an array -/
def mr_pr (p : Nat → Int32) : List Int32 → Prop
  | [] => True
  | x :: t => p t.length = x ∧ mr_pr p t
theorem mr_pr_u {p : Nat → Int32} {k : Nat} {x : Int32} : ∀ {s : List Int32}, mr_pr p s → s.length ≤ k → mr_pr (upd p k x) s := by
  intro s
  induction s with
  | nil => intro _ _; trivial
  | cons y t ih =>
    intro h hk
    have hk' : t.length + 1 ≤ k := hk
    exact ⟨by rw [pk_un (by omega)]; exact h.1, ih h.2 (by omega)⟩
theorem mr_pr_c {p : Nat → Int32} {x : Int32} {s : List Int32} (h : mr_pr p s) : mr_pr (upd p s.length x) (x :: s) := ⟨pk_us, mr_pr_u h (Nat.le_refl _)⟩
