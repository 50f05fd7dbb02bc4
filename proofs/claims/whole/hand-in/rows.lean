section
theorem pk_us {f : Nat → Int32} {k : Nat} {x : Int32} : upd f k x k = x := if_pos rfl
theorem pk_un {f : Nat → Int32} {k j : Nat} {x : Int32} (h : j ≠ k) : upd f k x j = f j := if_neg h
theorem pk_sub {a b : Nat} (h : b ≤ a) : nI a - nI b = nI (a - b) := by
  obtain ⟨c, rfl⟩ : ∃ c, a = c + b := ⟨a - b, by omega⟩
  rw [← nI_add, Int32.add_sub_cancel, Nat.add_sub_cancel]
theorem pk_m1 (n : Nat) : nI (n + 1) + (-1) = nI n := by
  rw [← nI_1, Int32.add_assoc, show (1 : Int32) + (-1) = 0 from rfl, Int32.add_zero]
theorem pk_ix (x : Int32) {n : Nat} (hn : n < 2 ^ 31) : x < 0 ∨ nI n ≤ x ∨ ∃ j : Nat, j < n ∧ x = nI j := by
  by_cases h : x < 0
  · exact Or.inl h
  · obtain ⟨j, hj, rfl⟩ := nI_of h
    by_cases h2 : j < n
    · exact Or.inr (Or.inr ⟨j, h2, rfl⟩)
    · exact Or.inr (Or.inl (nI_le (by omega) hj))
theorem pk_le {x y : Int32} {A B : Prop} (a b : Nat) (f : a ≤ b → A) (g : b < a → B) (hx : x = nI a := by rfl) (hy : y = nI b := by rfl) (ha : a < 2 ^ 31 := by omega) (hb : b < 2 ^ 31 := by omega) : (x ≤ y → A) ∧ (¬ x ≤ y → B) := by
  subst hx hy
  rw [nI_leI ha hb]
  exact ⟨f, fun z => g (by omega)⟩
theorem pk_lt {x y : Int32} {A B : Prop} (a b : Nat) (f : a < b → A) (g : b ≤ a → B) (hx : x = nI a := by rfl) (hy : y = nI b := by rfl) (ha : a < 2 ^ 31 := by omega) (hb : b < 2 ^ 31 := by omega) : (x < y → A) ∧ (¬ x < y → B) := by
  subst hx hy
  rw [nI_ltI ha hb]
  exact ⟨f, fun z => g (by omega)⟩
theorem pk_eq {x y : Int32} {A B : Prop} (a b : Nat) (f : a = b → A) (g : a ≠ b → B) (hx : x = nI a := by rfl) (hy : y = nI b := by rfl) (ha : a < 2 ^ 31 := by omega) (hb : b < 2 ^ 31 := by omega) : (x = y → A) ∧ (¬ x = y → B) := by
  subst hx hy
  rw [nI_eq ha hb]
  exact ⟨f, g⟩
theorem pk_in {x : Int32} (n N : Nat) (h : n < N) (hx : x = nI n := by rfl) (hN : N < 2 ^ 31 := by omega) : vp_in x N := by
  subst hx
  exact vp_in_nI h hN
theorem pk_cl {x : Int32} (n : Nat) (hx : x = nI n := by rfl) (h : n < 2 ^ 31 := by omega) : x.toNatClampNeg = n := by
  subst hx
  exact nI_clamp h
theorem pk_loop {σ : Type} (W : Nat → Nat → σ → Prop) (I : Nat → σ → Prop) (e i0 : Nat) (s : σ) (hi : i0 ≤ e) (h0 : I i0 s) (hx : ∀ n s, I e s → W (n + 1) e s)
    (hs : ∀ n i s, i < e → I i s → (∀ s', I (i + 1) s' → W n (i + 1) s') → W (n + 1) i s) : ∃ n, W n i0 s :=
  ⟨e + 1, loop_i W I e hx hs (e + 1) i0 s hi (by omega) h0⟩
theorem s_l : ∀ n, n < 32 → ((nI n &&& 31).toBitVec.smod 32).toNat = n := by decide +kernel
theorem nx_and (a b : Nat) : nI a &&& nI b = nI (a &&& b) := by
  apply Int32.toBitVec_inj.1
  show BitVec.ofNat 32 a &&& BitVec.ofNat 32 b = BitVec.ofNat 32 (a &&& b)
  apply BitVec.eq_of_getLsbD_eq
  intro i hi
  simp [hi]
theorem mr_31 {a : Nat} (h : a ≤ 100) : a < 2 ^ 31 := by omega
/-- the inputs -8 .. 7 -/
def mr_in (j : Nat) : Int32 := nI j + (-8)
theorem mr_in_of {x : Int32} (h0 : -8 ≤ x) (h1 : x ≤ 7) : ∃ j, j < 16 ∧ x = mr_in j := by
  rw [Int32.le_iff_toInt_le] at h0 h1
  have e0 : (-8 : Int32).toInt = -8 := by decide
  have e1 : (7 : Int32).toInt = 7 := by decide
  rw [e0] at h0
  rw [e1] at h1
  refine ⟨(x.toInt + 8).toNat, by omega, Int32.toInt_inj.mp ?_⟩
  unfold mr_in
  rw [Int32.toInt_add, nI_toInt (by omega), e0, Int.bmod_eq_of_le (by omega) (by omega)]
  omega
theorem mr_in_0 : mr_in 0 = -8 := by decide
theorem mr_in_s (j : Nat) : mr_in j + 1 = mr_in (j + 1) := by
  unfold mr_in
  rw [Int32.add_assoc, Int32.add_comm (-8) 1, ← Int32.add_assoc, nI_1]
theorem mr_in_b : ∀ j, j < 16 → (-8 ≤ mr_in j ∧ mr_in j ≤ 7 ∧ mr_in j < 8) := by decide +kernel
theorem mr_in_e : ¬ mr_in 16 ≤ 7 ∧ ¬ mr_in 16 < 8 := by decide
/-- the numbers that a pile holds -/
def mr_rg (x : Int32) : Prop := -1000 ≤ x ∧ x ≤ 1000
theorem mr_rg_in : ∀ j, j < 16 → (-1000 ≤ mr_in j ∧ mr_in j ≤ 1000) := by decide +kernel
theorem mr_or : ∀ t, t < 6 → ∀ s, s < 64 → s < 2 ^ t → nI s ||| ((1 : Int32) <<< (nI t &&& 31)) = nI (s + 2 ^ t) := by decide +kernel
theorem mr_sh : ∀ t, t < 7 → ((1 : Int32) <<< (nI t &&& 31)) = nI (2 ^ t) := by decide +kernel
theorem mr_bt : ∀ t, t < 6 → ∀ s, s < 64 → ((nI s) >>> (nI t &&& 31)) &&& 1 = nI (s / 2 ^ t % 2) := by decide +kernel
theorem mr_p2 : ∀ t, t < 7 → 1 ≤ 2 ^ t ∧ 2 ^ t ≤ 64 := by decide
end
section
/-! the machine: a step on a pile (top first) -/
def mr_put (x : Int32) (s : List Int32) (j : Nat) : Option (List Int32 × Nat) := if s.length < 6 then some (x :: s, j) else none
def mr_dup (j : Nat) : List Int32 → Option (List Int32 × Nat)
  | [] => none
  | x :: t => mr_put x (x :: t) j
def mr_swp (j : Nat) : List Int32 → Option (List Int32 × Nat)
  | [] => none
  | [_] => none
  | x :: y :: t => some (y :: x :: t, j)
def mr_skp (j k : Nat) : List Int32 → Option (List Int32 × Nat)
  | [] => none
  | x :: t => some (t, if x = 0 then j else j + k)
def mr_bck (j k : Nat) : List Int32 → Option (List Int32 × Nat)
  | [] => none
  | x :: t => some (t, if 0 < x then k else j)
def mr_ar (op x y : Int32) : Int32 := if op = 2 then x + y else if op = 3 then x - y else if op = 4 then x * y else if x < y then 1 else 0
def mr_cmb (op : Int32) (j : Nat) : List Int32 → Option (List Int32 × Nat)
  | [] => none
  | [_] => none
  | y :: x :: t => if mr_ar op x y < -1000 ∨ 1000 < mr_ar op x y then none else some (mr_ar op x y :: t, j)
def mr_st (op a inp : Int32) (i : Nat) (s : List Int32) : Option (List Int32 × Nat) :=
  if op = 0 then mr_put a s (i + 1)
  else if op = 1 then mr_put inp s (i + 1)
  else if op = 6 then mr_dup (i + 1) s
  else if op = 7 then mr_swp (i + 1) s
  else if op = 8 then mr_skp (i + 1) a.toNatClampNeg s
  else if op = 9 then mr_bck (i + 1) a.toNatClampNeg s
  else mr_cmb op (i + 1) s
theorem mr_st_0 (a inp : Int32) (i : Nat) (s : List Int32) : mr_st 0 a inp i s = mr_put a s (i + 1) := by simp [mr_st]
theorem mr_st_1 (a inp : Int32) (i : Nat) (s : List Int32) : mr_st 1 a inp i s = mr_put inp s (i + 1) := by simp [mr_st]
theorem mr_st_6 (a inp : Int32) (i : Nat) (s : List Int32) : mr_st 6 a inp i s = mr_dup (i + 1) s := by simp [mr_st]
theorem mr_st_7 (a inp : Int32) (i : Nat) (s : List Int32) : mr_st 7 a inp i s = mr_swp (i + 1) s := by simp [mr_st]
theorem mr_st_8 (a inp : Int32) (i : Nat) (s : List Int32) : mr_st 8 a inp i s = mr_skp (i + 1) a.toNatClampNeg s := by simp [mr_st]
theorem mr_st_9 (a inp : Int32) (i : Nat) (s : List Int32) : mr_st 9 a inp i s = mr_bck (i + 1) a.toNatClampNeg s := by simp [mr_st]
theorem mr_st_c {op : Int32} (h : op = 2 ∨ op = 3 ∨ op = 4 ∨ op = 5) (a inp : Int32) (i : Nat) (s : List Int32) : mr_st op a inp i s = mr_cmb op (i + 1) s := by
  rcases h with rfl | rfl | rfl | rfl <;> simp [mr_st]
def mr_G (s : List Int32) : Prop := s.length ≤ 6 ∧ ∀ x ∈ s, mr_rg x
theorem mr_G0 : mr_G [] := ⟨by simp, fun x h => by cases h⟩
theorem mr_Gt {x : Int32} {s : List Int32} (h : mr_G (x :: s)) : mr_G s :=
  ⟨Nat.le_of_succ_le h.1, fun y hy => h.2 y (List.mem_cons_of_mem _ hy)⟩
theorem mr_Gh {x : Int32} {s : List Int32} (h : mr_G (x :: s)) : mr_rg x := h.2 x List.mem_cons_self
theorem mr_Gc {x : Int32} {s : List Int32} (hl : s.length < 6) (hx : mr_rg x) (h : mr_G s) : mr_G (x :: s) :=
  ⟨hl, fun y hy => by
    rcases List.mem_cons.mp hy with e | e
    · rw [e]; exact hx
    · exact h.2 y e⟩
theorem mr_put_G {x : Int32} {s s' : List Int32} {j j' : Nat} (hG : mr_G s) (hx : mr_rg x) (h : mr_put x s j = some (s', j')) : mr_G s' ∧ j' = j := by
  unfold mr_put at h
  split at h
  · rename_i hl
    cases h
    exact ⟨mr_Gc hl hx hG, rfl⟩
  · cases h
theorem mr_rg_n {x : Int32} (h : ¬ (x < -1000 ∨ 1000 < x)) : mr_rg x := by
  unfold mr_rg
  constructor
  · exact Int32.not_lt.mp (fun z => h (Or.inl z))
  · exact Int32.not_lt.mp (fun z => h (Or.inr z))
/-- the codes: an instruction with its number (0 where it has none) -/
def mr_C : List (Int32 × Int32) :=
  (List.range 16).map (fun j => ((0 : Int32), mr_in j)) ++ ([((1 : Int32), (0 : Int32)), (2, 0), (3, 0), (4, 0), (5, 0), (6, 0), (7, 0)] ++ ((List.range 4).map (fun j => ((8 : Int32), nI j)) ++ (List.range 10).map (fun j => ((9 : Int32), nI j))))
theorem mr_C_op : ∀ c ∈ mr_C, c.1 = 0 ∨ c.1 = 1 ∨ c.1 = 6 ∨ c.1 = 7 ∨ c.1 = 8 ∨ c.1 = 9 ∨ c.1 = 2 ∨ c.1 = 3 ∨ c.1 = 4 ∨ c.1 = 5 := by decide +kernel
theorem mr_C_0 : ∀ c ∈ mr_C, c.1 = 0 → (-1000 ≤ c.2 ∧ c.2 ≤ 1000) := by decide +kernel
theorem mr_C_8 : ∀ c ∈ mr_C, c.1 = 8 → (c.2 = nI c.2.toNatClampNeg ∧ c.2.toNatClampNeg ≤ 3) := by decide +kernel
theorem mr_C_9 : ∀ c ∈ mr_C, c.1 = 9 → (c.2 = nI c.2.toNatClampNeg ∧ c.2.toNatClampNeg ≤ 9) := by decide +kernel
theorem mr_C_0i : ∀ j, j < 16 → ((0 : Int32), mr_in j) ∈ mr_C := by decide +kernel
theorem mr_C_8i : ∀ j, j < 4 → ((8 : Int32), nI j) ∈ mr_C := by decide +kernel
theorem mr_C_9i : ∀ j, j < 10 → ((9 : Int32), nI j) ∈ mr_C := by decide +kernel
theorem mr_C_m : ∀ j, j < 8 → 1 ≤ j → (nI j, (0 : Int32)) ∈ mr_C := by decide +kernel
theorem mr_st_ok {op a inp : Int32} {i i' : Nat} {s s' : List Int32} (hC : (op, a) ∈ mr_C) (hi : mr_rg inp) (hn : i < 10) (hG : mr_G s) (h : mr_st op a inp i s = some (s', i')) : mr_G s' ∧ i' ≤ 13 := by
  rcases mr_C_op _ hC with e | e | e | e | e | e | e
  · change op = 0 at e
    have h0 := mr_C_0 _ hC e
    subst e
    rw [mr_st_0] at h
    obtain ⟨h1, h2⟩ := mr_put_G hG h0 h
    exact ⟨h1, by omega⟩
  · change op = 1 at e
    subst e
    rw [mr_st_1] at h
    obtain ⟨h1, h2⟩ := mr_put_G hG hi h
    exact ⟨h1, by omega⟩
  · change op = 6 at e
    subst e
    rw [mr_st_6] at h
    cases s with
    | nil => cases h
    | cons x t =>
      obtain ⟨h1, h2⟩ := mr_put_G hG (mr_Gh hG) h
      exact ⟨h1, by omega⟩
  · change op = 7 at e
    subst e
    rw [mr_st_7] at h
    cases s with
    | nil => cases h
    | cons x t =>
      cases t with
      | nil => cases h
      | cons y t =>
        cases h
        have h2 := mr_Gt (mr_Gt hG)
        have hl : t.length + 2 ≤ 6 := hG.1
        exact ⟨mr_Gc (show t.length + 1 < 6 by omega) (mr_Gh (mr_Gt hG)) (mr_Gc (by omega) (mr_Gh hG) h2), by omega⟩
  · change op = 8 at e
    have h0 := (mr_C_8 _ hC e).2
    subst e
    rw [mr_st_8] at h
    cases s with
    | nil => cases h
    | cons x t =>
      cases h
      refine ⟨mr_Gt hG, ?_⟩
      change a.toNatClampNeg ≤ 3 at h0
      split <;> omega
  · change op = 9 at e
    have h0 := (mr_C_9 _ hC e).2
    subst e
    rw [mr_st_9] at h
    cases s with
    | nil => cases h
    | cons x t =>
      cases h
      refine ⟨mr_Gt hG, ?_⟩
      change a.toNatClampNeg ≤ 9 at h0
      split <;> omega
  · change op = 2 ∨ op = 3 ∨ op = 4 ∨ op = 5 at e
    rw [mr_st_c e] at h
    cases s with
    | nil => cases h
    | cons y t =>
      cases t with
      | nil => cases h
      | cons x t =>
        simp only [mr_cmb] at h
        split at h
        · cases h
        · rename_i hr
          cases h
          have hl : t.length + 2 ≤ 6 := hG.1
          exact ⟨mr_Gc (by omega) (mr_rg_n hr) (mr_Gt (mr_Gt hG)), by omega⟩
/-! a run -/
def mr_fin : List Int32 → Int32
  | [] => 10003
  | x :: _ => x
def mr_run (o g : Nat → Int32) (n : Nat) (inp : Int32) : Nat → Nat → List Int32 → Int32
  | 0, i, s => if i < n then 10002 else mr_fin s
  | k + 1, i, s => if i < n then (mr_st (o i) (g i) inp i s).elim 10001 (fun q => mr_run o g n inp k q.2 q.1) else mr_fin s
theorem mr_run_f {o g : Nat → Int32} {n : Nat} {inp : Int32} (k : Nat) {i : Nat} (s : List Int32) (h : n ≤ i) : mr_run o g n inp k i s = mr_fin s := by
  cases k with
  | zero => rw [mr_run, if_neg (by omega)]
  | succ k => rw [mr_run, if_neg (by omega)]
theorem mr_run_0 {o g : Nat → Int32} {n : Nat} {inp : Int32} {i : Nat} (s : List Int32) (h : i < n) : mr_run o g n inp 0 i s = 10002 := by
  rw [mr_run, if_pos h]
theorem mr_run_t {o g : Nat → Int32} {n : Nat} {inp : Int32} (k : Nat) {i : Nat} {s : List Int32} (h : i < n) (e : mr_st (o i) (g i) inp i s = none) : mr_run o g n inp (k + 1) i s = 10001 := by
  rw [mr_run, if_pos h, e]
  rfl
theorem mr_run_s {o g : Nat → Int32} {n : Nat} {inp : Int32} (k : Nat) {i i' : Nat} {s s' : List Int32} (h : i < n) (e : mr_st (o i) (g i) inp i s = some (s', i')) : mr_run o g n inp (k + 1) i s = mr_run o g n inp k i' s' := by
  rw [mr_run, if_pos h, e]
  rfl
def mr_V (o g : Nat → Int32) (n : Nat) : Prop := n ≤ 10 ∧ ∀ i, i < n → (o i, g i) ∈ mr_C
theorem mr_fin_r {s : List Int32} (h : mr_G s) : mr_fin s = 10003 ∨ mr_rg (mr_fin s) := by
  cases s with
  | nil => exact Or.inl rfl
  | cons x t => exact Or.inr (mr_Gh h)
theorem mr_run_r {o g : Nat → Int32} {n : Nat} {inp : Int32} (hV : mr_V o g n) (hi : mr_rg inp) : ∀ (k i : Nat) (s : List Int32), mr_G s →
    mr_run o g n inp k i s = 10001 ∨ mr_run o g n inp k i s = 10002 ∨ mr_run o g n inp k i s = 10003 ∨ mr_rg (mr_run o g n inp k i s) := by
  intro k
  induction k with
  | zero =>
    intro i s hG
    by_cases h : i < n
    · exact Or.inr (Or.inl (mr_run_0 s h))
    · rw [mr_run_f 0 s (by omega)]
      rcases mr_fin_r hG with e | e
      · exact Or.inr (Or.inr (Or.inl e))
      · exact Or.inr (Or.inr (Or.inr e))
  | succ k ih =>
    intro i s hG
    by_cases h : i < n
    · cases e : mr_st (o i) (g i) inp i s with
      | none => exact Or.inl (mr_run_t k h e)
      | some q =>
        obtain ⟨s', i'⟩ := q
        rw [mr_run_s k h e]
        exact ih i' s' (mr_st_ok (hV.2 i h) hi (by have := hV.1; omega) hG e).1
    · rw [mr_run_f (k + 1) s (by omega)]
      rcases mr_fin_r hG with e | e
      · exact Or.inr (Or.inr (Or.inl e))
      · exact Or.inr (Or.inr (Or.inr e))
/-! the pile in an array -/
def mr_pr (p : Nat → Int32) : List Int32 → Prop
  | [] => True
  | x :: t => p t.length = x ∧ mr_pr p t
theorem mr_pr_u {p : Nat → Int32} {k : Nat} {x : Int32} : ∀ {s : List Int32}, mr_pr p s → s.length ≤ k → mr_pr (upd p k x) s := by
  intro s
  induction s with
  | nil => intro _ _; trivial
  | cons y t ih =>
    intro h hk
    have hk' : t.length + 1 ≤ k := hk
    exact ⟨by rw [pk_un (by omega)]; exact h.1, ih h.2 (by omega)⟩
theorem mr_pr_c {p : Nat → Int32} {x : Int32} {s : List Int32} (h : mr_pr p s) : mr_pr (upd p s.length x) (x :: s) := ⟨pk_us, mr_pr_u h (Nat.le_refl _)⟩
end
section
/-! the mutants of an instruction, of a program -/
def mr_mk (op a : Int32) : List (Int32 × Int32) :=
  if op = 0 then (if a < 7 then [((0 : Int32), a + 1)] else []) ++ (if -8 < a then [((0 : Int32), a - 1)] else [])
  else if op = 8 then (if a < 3 then [((8 : Int32), a + 1)] else []) ++ (if 0 < a then [((8 : Int32), a - 1)] else [])
  else if op = 9 then (if 0 < a then [((9 : Int32), a - 1)] else [])
  else if op = 1 then [(0, 0)]
  else if op = 6 then [(1, 0)]
  else if op = 7 then [(6, 0)]
  else if op = 2 then [(3, 0), (4, 0), (5, 0)]
  else if op = 3 then [(2, 0), (4, 0), (5, 0)]
  else if op = 4 then [(2, 0), (3, 0), (5, 0)]
  else [(2, 0), (3, 0), (4, 0)]
theorem mr_mk_len : ∀ c ∈ mr_C, (mr_mk c.1 c.2).length ≤ 3 := by decide +kernel
theorem mr_mk_C : ∀ c ∈ mr_C, ∀ d ∈ mr_mk c.1 c.2, d ∈ mr_C := by decide +kernel
def mr_ml (o g : Nat → Int32) : Nat → List (Nat × Int32 × Int32)
  | 0 => []
  | n + 1 => mr_ml o g n ++ (mr_mk (o n) (g n)).map (fun q => (n, q))
theorem mr_ml_len {o g : Nat → Int32} : ∀ {n : Nat}, (∀ i, i < n → (o i, g i) ∈ mr_C) → (mr_ml o g n).length ≤ 3 * n := by
  intro n
  induction n with
  | zero => intro _; exact Nat.le_refl 0
  | succ n ih =>
    intro h
    have h1 := ih (fun i hi => h i (by omega))
    have h2 := mr_mk_len _ (h n (by omega))
    have h3 : (mr_mk (o n) (g n)).length ≤ 3 := h2
    rw [mr_ml, List.length_append, List.length_map]
    omega
theorem mr_ml_cg {o g o' g' : Nat → Int32} : ∀ {n : Nat}, (∀ i, i < n → o i = o' i) → (∀ i, i < n → g i = g' i) → mr_ml o g n = mr_ml o' g' n := by
  intro n
  induction n with
  | zero => intro _ _; rfl
  | succ n ih =>
    intro h1 h2
    rw [mr_ml, mr_ml, ih (fun i hi => h1 i (by omega)) (fun i hi => h2 i (by omega)), h1 n (by omega), h2 n (by omega)]
theorem mr_ml_pre {o g : Nat → Int32} {i m : Nat} {e : Nat × Int32 × Int32} (he : (mr_ml o g i)[m]? = some e) : ∀ d, (mr_ml o g (i + d))[m]? = some e := by
  intro d
  induction d with
  | zero => exact he
  | succ d ih =>
    obtain ⟨hl, _⟩ := List.getElem?_eq_some_iff.mp ih
    show (mr_ml o g (i + d) ++ _)[m]? = _
    rw [List.getElem?_append_left hl]
    exact ih
theorem mr_ml_at {o g : Nat → Int32} {i l : Nat} {q : Int32 × Int32} (hq : (mr_mk (o i) (g i))[l]? = some q) : (mr_ml o g (i + 1))[(mr_ml o g i).length + l]? = some (i, q) := by
  rw [mr_ml, List.getElem?_append_right (Nat.le_add_right _ _), Nat.add_sub_cancel_left, List.getElem?_map, hq]
  rfl
theorem mr_ml_V {o g : Nat → Int32} : ∀ {n : Nat}, (∀ i, i < n → (o i, g i) ∈ mr_C) → ∀ e ∈ mr_ml o g n, e.1 < n ∧ e.2 ∈ mr_C := by
  intro n
  induction n with
  | zero => intro _ e he; cases he
  | succ n ih =>
    intro h e he
    rw [mr_ml] at he
    rcases List.mem_append.mp he with h1 | h1
    · obtain ⟨a, b⟩ := ih (fun i hi => h i (by omega)) e h1
      exact ⟨by omega, b⟩
    · obtain ⟨q, hq, rfl⟩ := List.mem_map.mp h1
      exact ⟨Nat.lt_succ_self n, mr_mk_C _ (h n (by omega)) q hq⟩
/-- a program (none) or a mutant of it -/
def mr_po (o : Nat → Int32) : Option (Nat × Int32 × Int32) → Nat → Int32
  | none => o
  | some e => upd o e.1 e.2.1
def mr_pg (g : Nat → Int32) : Option (Nat × Int32 × Int32) → Nat → Int32
  | none => g
  | some e => upd g e.1 e.2.2
theorem mr_po_V {o g : Nat → Int32} {n : Nat} {e : Option (Nat × Int32 × Int32)} (h : mr_V o g n) (he : ∀ x, e = some x → x.2 ∈ mr_C) : mr_V (mr_po o e) (mr_pg g e) n := by
  cases e with
  | none => exact h
  | some x =>
    refine ⟨h.1, fun i hi => ?_⟩
    show (upd o x.1 x.2.1 i, upd g x.1 x.2.2 i) ∈ mr_C
    by_cases hx : i = x.1
    · subst hx
      rw [pk_us, pk_us]
      exact he x rfl
    · rw [pk_un hx, pk_un hx]
      exact h.2 i hi
def mr_R (o g : Nat → Int32) (n : Nat) (e : Option (Nat × Int32 × Int32)) (inp : Int32) : Int32 := mr_run (mr_po o e) (mr_pg g e) n inp 40 0 []
theorem mr_ml_e {o g : Nat → Int32} {n m : Nat} {e : Nat × Int32 × Int32} (h : mr_V o g n) (he : (mr_ml o g n)[m]? = some e) : e.1 < n ∧ e.2 ∈ mr_C :=
  mr_ml_V h.2 e (List.mem_of_getElem? he)
theorem mr_ml_30 {o g : Nat → Int32} {n : Nat} (h : mr_V o g n) : (mr_ml o g n).length ≤ 30 := by
  have := mr_ml_len h.2
  have := h.1
  omega
theorem mr_ml_lt {o g : Nat → Int32} {n m : Nat} (h : m < (mr_ml o g n).length) : ∃ e, (mr_ml o g n)[m]? = some e := ⟨_, List.getElem?_eq_getElem h⟩
theorem mr_ml_no {o g : Nat → Int32} {n m : Nat} (h : (mr_ml o g n).length ≤ m) : (mr_ml o g n)[m]? = none := List.getElem?_eq_none h
/-! killer sets -/
def mr_ks (A B : Nat → Int32) : Nat → Nat
  | 0 => 0
  | t + 1 => mr_ks A B t + (if A t = B t then 0 else 2 ^ t)
theorem mr_ks_lt (A B : Nat → Int32) : ∀ t, mr_ks A B t < 2 ^ t := by
  intro t
  induction t with
  | zero => exact Nat.zero_lt_one
  | succ t ih =>
    rw [mr_ks, Nat.pow_succ]
    split <;> omega
def mr_KE (o g : Nat → Int32) (n : Nat) (tr : Nat → Int32) (t : Nat) (e : Nat × Int32 × Int32) : Nat :=
  mr_ks (fun j => mr_R o g n (some e) (tr j)) (fun j => mr_R o g n none (tr j)) t
def mr_K (o g : Nat → Int32) (n : Nat) (tr : Nat → Int32) (t : Nat) (m : Nat) : Nat := ((mr_ml o g n)[m]?).elim 0 (fun e => mr_KE o g n tr t e)
theorem mr_K_lt (o g : Nat → Int32) (n : Nat) (tr : Nat → Int32) (t : Nat) (m : Nat) : mr_K o g n tr t m < 2 ^ t := by
  unfold mr_K
  cases (mr_ml o g n)[m]? with
  | none => exact Nat.two_pow_pos t
  | some e => exact mr_ks_lt _ _ t
theorem mr_K_s {o g : Nat → Int32} {n m : Nat} {e : Nat × Int32 × Int32} (he : (mr_ml o g n)[m]? = some e) (tr : Nat → Int32) (t : Nat) : mr_K o g n tr t m = mr_KE o g n tr t e := by
  unfold mr_K
  rw [he]
  rfl
theorem mr_K_0 {o g : Nat → Int32} {n m : Nat} (h : (mr_ml o g n).length ≤ m) (tr : Nat → Int32) (t : Nat) : mr_K o g n tr t m = 0 := by
  unfold mr_K
  rw [mr_ml_no h]
  rfl
theorem mr_64 {t : Nat} (ht : t ≤ 6) : 2 ^ t ≤ 64 := (mr_p2 t (by omega)).2
/-- the least input at which A and B differ, of the k inputs from the j-th -/
def mr_lk (A B : Nat → Int32) : Nat → Nat → Int32
  | 0, _ => -10004
  | k + 1, j => if A j = B j then mr_lk A B k (j + 1) else mr_in j
/-- how many below k -/
noncomputable def mr_ct (P : Nat → Prop) : Nat → Nat
  | 0 => 0
  | k + 1 => mr_ct P k + @ite Nat (P k) (Classical.propDecidable _) 1 0
theorem mr_ct_t {P : Nat → Prop} {k : Nat} (h : P k) : mr_ct P (k + 1) = mr_ct P k + 1 := by
  rw [mr_ct, if_pos h]
theorem mr_ct_f {P : Nat → Prop} {k : Nat} (h : ¬ P k) : mr_ct P (k + 1) = mr_ct P k := by
  rw [mr_ct, if_neg h, Nat.add_zero]
theorem mr_ct_le (P : Nat → Prop) : ∀ k, mr_ct P k ≤ k := by
  intro k
  induction k with
  | zero => exact Nat.le_refl 0
  | succ k ih =>
    by_cases h : P k
    · rw [mr_ct_t h]; omega
    · rw [mr_ct_f h]; omega
theorem mr_ct_x {P : Nat → Prop} {a : Nat} (h : ∀ k, a ≤ k → ¬ P k) : ∀ d, mr_ct P (a + d) = mr_ct P a := by
  intro d
  induction d with
  | zero => rfl
  | succ d ih =>
    show mr_ct P (a + d + 1) = _
    rw [mr_ct_f (h (a + d) (by omega)), ih]
theorem mr_ct_x2 {P : Nat → Prop} {a b : Nat} (h : ∀ k, a ≤ k → ¬ P k) (hab : a ≤ b) : mr_ct P b = mr_ct P a := by
  obtain ⟨d, rfl⟩ : ∃ d, b = a + d := ⟨b - a, by omega⟩
  exact mr_ct_x h d
/-! needed -/
def mr_pc (s : Nat) : Nat → Nat
  | 0 => 0
  | t + 1 => mr_pc s t + s / 2 ^ t % 2
theorem mr_pc_le (s : Nat) : ∀ t, mr_pc s t ≤ t := by
  intro t
  induction t with
  | zero => exact Nat.le_refl 0
  | succ t ih =>
    rw [mr_pc]
    have := Nat.mod_lt (s / 2 ^ t) (show 2 > 0 by decide)
    omega
theorem mr_pc_a : ∀ t, t < 7 → ∀ s, s < 64 → mr_pc (s &&& (2 ^ t - 1)) 6 ≤ mr_pc s 6 := by decide +kernel
theorem mr_pc_m : ∀ t, t < 7 → mr_pc (2 ^ t - 1) 6 = t := by decide +kernel
theorem mr_am : ∀ t, t < 7 → ∀ s, s < 64 → s &&& (2 ^ t - 1) ≤ 2 ^ t - 1 := by decide +kernel
def mr_A (K : Nat → Nat) (n s : Nat) : Prop := ∀ m, m < n → K m ≠ 0 → K m &&& s ≠ 0
def mr_Min (K : Nat → Nat) (n r : Nat) : Prop := (∃ s, s < 64 ∧ mr_A K n s ∧ mr_pc s 6 = r) ∧ ∀ s, s < 64 → mr_A K n s → r ≤ mr_pc s 6
theorem mr_Min_u {K : Nat → Nat} {n r r' : Nat} (h : mr_Min K n r) (h' : mr_Min K n r') : r' = r := by
  obtain ⟨⟨s, a, b, c⟩, d⟩ := h
  obtain ⟨⟨s', a', b', c'⟩, d'⟩ := h'
  have h1 := d s' a' b'
  have h2 := d' s a b
  omega
def mr_MI (K : Nat → Nat) (n b c l : Nat) : Prop := (l = b ∨ ∃ s, s < c ∧ mr_A K n s ∧ mr_pc s 6 = l) ∧ l ≤ b ∧ ∀ s, s < c → mr_A K n s → l ≤ mr_pc s 6
theorem mr_MI_0 (K : Nat → Nat) (n b : Nat) : mr_MI K n b 0 b := ⟨Or.inl rfl, Nat.le_refl _, fun s hs => absurd hs (Nat.not_lt_zero s)⟩
theorem mr_MI_y {K : Nat → Nat} {n b c l : Nat} (h : mr_MI K n b c l) (hl : mr_pc c 6 < l) (hA : mr_A K n c) : mr_MI K n b (c + 1) (mr_pc c 6) := by
  obtain ⟨h1, h2, h3⟩ := h
  refine ⟨Or.inr ⟨c, by omega, hA, rfl⟩, by omega, fun s hs ha => ?_⟩
  by_cases e : s = c
  · rw [e]; omega
  · have := h3 s (by omega) ha
    omega
theorem mr_MI_n {K : Nat → Nat} {n b c l : Nat} (h : mr_MI K n b c l) (hn : l ≤ mr_pc c 6 ∨ ¬ mr_A K n c) : mr_MI K n b (c + 1) l := by
  obtain ⟨h1, h2, h3⟩ := h
  refine ⟨?_, h2, fun s hs ha => ?_⟩
  · rcases h1 with h1 | ⟨s, a, b, d⟩
    · exact Or.inl h1
    · exact Or.inr ⟨s, by omega, b, d⟩
  · by_cases e : s = c
    · rcases hn with hn | hn
      · rw [e]; exact hn
      · rw [e] at ha; exact absurd ha hn
    · exact h3 s (by omega) ha
theorem mr_A_m {K : Nat → Nat} {n t : Nat} (hK : ∀ m, m < n → K m < 2 ^ t) : mr_A K n (2 ^ t - 1) := by
  intro m hm h
  rw [Nat.and_two_pow_sub_one_of_lt_two_pow (hK m hm)]
  exact h
theorem mr_A_a {K : Nat → Nat} {n t s : Nat} (hK : ∀ m, m < n → K m < 2 ^ t) (h : mr_A K n s) : mr_A K n (s &&& (2 ^ t - 1)) := by
  intro m hm hz
  have e : K m &&& (s &&& (2 ^ t - 1)) = K m &&& s := by
    rw [Nat.and_comm s, ← Nat.and_assoc, Nat.and_two_pow_sub_one_of_lt_two_pow (hK m hm)]
  rw [e]
  exact h m hm hz
theorem mr_MI_x {K : Nat → Nat} {n t l : Nat} (ht : t ≤ 6) (hK : ∀ m, m < n → K m < 2 ^ t) (h : mr_MI K n t (2 ^ t - 1) l) : mr_Min K n l := by
  obtain ⟨h1, h2, h3⟩ := h
  have hp := mr_p2 t (by omega)
  constructor
  · rcases h1 with h1 | ⟨s, a, b, d⟩
    · exact ⟨2 ^ t - 1, by omega, mr_A_m hK, by rw [mr_pc_m t (by omega), h1]⟩
    · exact ⟨s, by omega, b, d⟩
  · intro s hs ha
    have q1 := mr_pc_a t (by omega) s hs
    have q2 := mr_am t (by omega) s hs
    by_cases e : s &&& (2 ^ t - 1) = 2 ^ t - 1
    · rw [e, mr_pc_m t (by omega)] at q1
      omega
    · have := h3 (s &&& (2 ^ t - 1)) (by omega) (mr_A_a hK ha)
      omega
theorem mr_MI_f {K : Nat → Nat} {n l : Nat} (hK : ∀ m, m < n → K m < 64) (h : mr_MI K n 6 64 l) : mr_Min K n l := by
  obtain ⟨h1, h2, h3⟩ := h
  constructor
  · rcases h1 with h1 | ⟨s, a, b, d⟩
    · exact ⟨63, by omega, mr_A_m (t := 6) hK, by rw [h1]; exact mr_pc_m 6 (by decide)⟩
    · exact ⟨s, a, b, d⟩
  · exact h3
theorem mr_A_x {K : Nat → Nat} {n k s : Nat} (hk : n ≤ k) (h0 : ∀ m, n ≤ m → K m = 0) : mr_A K k s ↔ mr_A K n s := by
  constructor
  · intro h m hm hz
    exact h m (by omega) hz
  · intro h m hm hz
    by_cases e : m < n
    · exact h m e hz
    · exact absurd (h0 m (by omega)) hz
/-! leading -/
def mr_S (K : Nat → Nat) (m l : Nat) : Prop := K l ≠ 0 ∧ K l ≠ K m ∧ K l &&& K m = K l
def mr_L (K : Nat → Nat) (n m : Nat) : Prop := K m ≠ 0 ∧ ∀ l, l < n → ¬ mr_S K m l
end
section
theorem mr_s2 (k : Nat) : nI (k + 2) - 2 = nI k := pk_sub (a := k + 2) (b := 2) (by omega)
def mr_us (op : Int32) : Prop := op = 0 ∨ op = 8 ∨ op = 9
section
variable {n t mc : Int32} {o go tr mp mo mg ks : Nat → Int32}
theorem xp_put {post : Int32 → SX → Prop} {x nx : Int32} {k : Nat} {p : Nat → Int32} (hl : k ≤ 6)
    (h1 : k < 6 → post 1 (n, t, mc, nI (k + 1), nx, o, go, tr, mp, mo, mg, ks, upd p k x)) (h0 : ¬ k < 6 → post 0 (n, t, mc, nI k, nx, o, go, tr, mp, mo, mg, ks, p)) : wpX_put post (n, t, mc, nI k, nx, o, go, tr, mp, mo, mg, ks, p) x := by
  refine pk_lt k 6 (fun h => ⟨vp_in_nI h (by decide), fun a ea b eb => ?_⟩) (fun h => h0 (by omega))
  rw [ea, eb, nI_clamp (by omega), nI_1]
  exact h1 h
theorem xp_exch2 {post : Int32 → SX → Prop} {nx : Int32} {k : Nat} {p : Nat → Int32} (hk : k + 2 ≤ 6)
    (h : post 1 (n, t, mc, nI (k + 2), nx, o, go, tr, mp, mo, mg, ks, upd (upd p (k + 1) (p k)) k (p (k + 1)))) : wpX_exchange post (n, t, mc, nI (k + 2), nx, o, go, tr, mp, mo, mg, ks, p) := by
  have e1 : nI (k + 2) - 1 = nI (k + 1) := nI_pred (k + 1)
  have e2 : nI (k + 2) - 2 = nI k := mr_s2 k
  have v1 : vp_in (nI (k + 1)) 6 := vp_in_nI (by omega) (by decide)
  have v2 : vp_in (nI k) 6 := vp_in_nI (by omega) (by decide)
  have c1 : (nI (k + 1)).toNatClampNeg = k + 1 := nI_clamp (by omega)
  have c2 : (nI k).toNatClampNeg = k := nI_clamp (by omega)
  unfold wpX_exchange
  dsimp only
  rw [e1, e2, c1, c2]
  exact br_t (nI_le (a := 2) (by omega) (by omega)) ⟨v1, fun a ea => ⟨v2, v1, fun b eb => ⟨v2, fun c ec => by rw [ec, eb, ea]; exact h⟩⟩⟩
theorem xp_exch0 {post : Int32 → SX → Prop} {nx : Int32} {k : Nat} {p : Nat → Int32} (hk : k < 2)
    (h : post 0 (n, t, mc, nI k, nx, o, go, tr, mp, mo, mg, ks, p)) : wpX_exchange post (n, t, mc, nI k, nx, o, go, tr, mp, mo, mg, ks, p) := br_f (nI_ge (b := 2) hk (by decide)) h
theorem xp_skp1 {post : Int32 → SX → Prop} {k i d : Nat} {p : Nat → Int32} (hk : k < 6)
    (hz : p k = 0 → post 1 (n, t, mc, nI k, nI i, o, go, tr, mp, mo, mg, ks, p)) (hn : ¬ p k = 0 → post 1 (n, t, mc, nI k, nI (i + d), o, go, tr, mp, mo, mg, ks, p)) : wpX_skip post (n, t, mc, nI (k + 1), nI i, o, go, tr, mp, mo, mg, ks, p) (nI d) := by
  have c2 : (nI k).toNatClampNeg = k := nI_clamp (by omega)
  refine br_t (nI_le (a := 1) (by omega) (by omega)) (nm_r (nI_pred k) ⟨vp_in_nI hk (by decide), ?_⟩)
  rw [c2]
  exact br_c hz (fun h => nm_r (nI_add i d) (hn h))
theorem xp_skp0 {post : Int32 → SX → Prop} {d nx : Int32} {p : Nat → Int32} (h : post 0 (n, t, mc, nI 0, nx, o, go, tr, mp, mo, mg, ks, p)) : wpX_skip post (n, t, mc, nI 0, nx, o, go, tr, mp, mo, mg, ks, p) d :=
  br_f (nI_ge (a := 0) (b := 1) (by decide) (by decide)) h
theorem xp_bck1 {post : Int32 → SX → Prop} {k : Nat} {d nx : Int32} {p : Nat → Int32} (hk : k < 6)
    (hz : p k ≤ 0 → post 1 (n, t, mc, nI k, nx, o, go, tr, mp, mo, mg, ks, p)) (hn : ¬ p k ≤ 0 → post 1 (n, t, mc, nI k, d, o, go, tr, mp, mo, mg, ks, p)) : wpX_goBack post (n, t, mc, nI (k + 1), nx, o, go, tr, mp, mo, mg, ks, p) d := by
  have c2 : (nI k).toNatClampNeg = k := nI_clamp (by omega)
  refine br_t (nI_le (a := 1) (by omega) (by omega)) (nm_r (nI_pred k) ⟨vp_in_nI hk (by decide), ?_⟩)
  rw [c2]
  exact br_c hz hn
theorem xp_bck0 {post : Int32 → SX → Prop} {d nx : Int32} {p : Nat → Int32} (h : post 0 (n, t, mc, nI 0, nx, o, go, tr, mp, mo, mg, ks, p)) : wpX_goBack post (n, t, mc, nI 0, nx, o, go, tr, mp, mo, mg, ks, p) d :=
  br_f (nI_ge (a := 0) (b := 1) (by decide) (by decide)) h
theorem xp_c82 {post : Int32 → SX → Prop} {x4 nx : Int32} {k : Nat} {p : Nat → Int32} (hk : k + 2 ≤ 6)
    (h0 : (x4 < -1000 ∨ 1000 < x4) → post 0 (n, t, mc, nI (k + 2), nx, o, go, tr, mp, mo, mg, ks, p)) (h1 : ¬ (x4 < -1000 ∨ 1000 < x4) → post 1 (n, t, mc, nI (k + 1), nx, o, go, tr, mp, mo, mg, ks, upd p k x4)) :
    wX_combine_82 post x4 n t mc (nI (k + 2)) nx o go tr mp mo mg ks p := by
  refine br_c (fun h => h0 (Or.inl h)) (fun h => br_c (fun h' => nm_r (nI_pred (k + 1)) ⟨?_, fun a ea => ?_⟩) (fun h' => h0 (Or.inr (Int32.not_le.mp h'))))
  · rw [nI_pred]
    exact vp_in_nI (by omega) (by decide)
  · rw [ea, nI_pred, nI_clamp (by omega)]
    exact h1 (fun z => z.elim h (fun z => absurd h' (Int32.not_le.mpr z)))
theorem xp_c44 {post : Int32 → SX → Prop} {op x y z nx : Int32} {k : Nat} {p : Nat → Int32} (hk : k + 2 ≤ 6) (hz : (if x < y then (1 : Int32) else 0) = z)
    (h0 : (mr_ar op x y < -1000 ∨ 1000 < mr_ar op x y) → post 0 (n, t, mc, nI (k + 2), nx, o, go, tr, mp, mo, mg, ks, p)) (h1 : ¬ (mr_ar op x y < -1000 ∨ 1000 < mr_ar op x y) → post 1 (n, t, mc, nI (k + 1), nx, o, go, tr, mp, mo, mg, ks, upd p k (mr_ar op x y))) :
    wX_combine_44 post op x y z n t mc (nI (k + 2)) nx o go tr mp mo mg ks p := by
  unfold mr_ar at h0 h1
  refine br_c (fun e => nm_e ?_) (fun e2 => br_c (fun e => nm_e ?_) (fun e3 => br_c (fun e => nm_e ?_) (fun e4 => ?_)))
  · rw [if_pos e] at h0 h1
    exact xp_c82 hk h0 h1
  · rw [if_neg e2, if_pos e] at h0 h1
    exact xp_c82 hk h0 h1
  · rw [if_neg e2, if_neg e3, if_pos e] at h0 h1
    exact xp_c82 hk h0 h1
  · rw [if_neg e2, if_neg e3, if_neg e4, hz] at h0 h1
    exact xp_c82 hk h0 h1
theorem xp_comb {post : Int32 → SX → Prop} {op nx : Int32} {k : Nat} {p : Nat → Int32} (hk : k + 2 ≤ 6)
    (h0 : (mr_ar op (p k) (p (k + 1)) < -1000 ∨ 1000 < mr_ar op (p k) (p (k + 1))) → post 0 (n, t, mc, nI (k + 2), nx, o, go, tr, mp, mo, mg, ks, p)) (h1 : ¬ (mr_ar op (p k) (p (k + 1)) < -1000 ∨ 1000 < mr_ar op (p k) (p (k + 1))) → post 1 (n, t, mc, nI (k + 1), nx, o, go, tr, mp, mo, mg, ks, upd p k (mr_ar op (p k) (p (k + 1))))) :
    wpX_combine post (n, t, mc, nI (k + 2), nx, o, go, tr, mp, mo, mg, ks, p) op := by
  have e1 : nI (k + 2) - 1 = nI (k + 1) := nI_pred (k + 1)
  have e2 : nI (k + 2) - 2 = nI k := mr_s2 k
  have v1 : vp_in (nI (k + 1)) 6 := vp_in_nI (by omega) (by decide)
  have v2 : vp_in (nI k) 6 := vp_in_nI (by omega) (by decide)
  have c1 : (nI (k + 1)).toNatClampNeg = k + 1 := nI_clamp (by omega)
  have c2 : (nI k).toNatClampNeg = k := nI_clamp (by omega)
  unfold wpX_combine
  dsimp only
  rw [e1, e2, c1, c2]
  exact br_t (nI_le (a := 2) (by omega) (by omega)) ⟨v2, nm_e ⟨v1, nm_e (br_c (fun h => xp_c44 hk (if_neg (Int32.not_lt.mpr h)) h0 h1) (fun h => xp_c44 hk (if_pos (Int32.not_le.mp h)) h0 h1))⟩⟩
theorem xp_comb0 {post : Int32 → SX → Prop} {op nx : Int32} {k : Nat} {p : Nat → Int32} (hk : k < 2) (h : post 0 (n, t, mc, nI k, nx, o, go, tr, mp, mo, mg, ks, p)) : wpX_combine post (n, t, mc, nI k, nx, o, go, tr, mp, mo, mg, ks, p) op :=
  br_f (nI_ge (b := 2) hk (by decide)) h
theorem xp_124 {post : Int32 → SX → Prop} {op nx : Int32} {s : List Int32} {p : Nat → Int32} {j : Nat} (hG : mr_G s) (hp : mr_pr p s)
    (h0 : mr_cmb op j s = none → ∀ h p', post 0 (n, t, mc, h, nx, o, go, tr, mp, mo, mg, ks, p'))
    (h1 : ∀ s' i', mr_cmb op j s = some (s', i') → ∀ p', mr_pr p' s' → i' = j → post 1 (n, t, mc, nI s'.length, nx, o, go, tr, mp, mo, mg, ks, p')) :
    wX_execute_124 post op n t mc (nI s.length) nx o go tr mp mo mg ks p := by
  unfold wX_execute_124
  match s, hG, hp, h0, h1 with
  | [], hG, hp, h0, h1 => exact xp_comb0 (k := 0) (by decide) ⟨rfl, h0 rfl _ _⟩
  | [y], hG, hp, h0, h1 => exact xp_comb0 (k := 1) (by decide) ⟨rfl, h0 rfl _ _⟩
  | y :: x :: tl, hG, hp, h0, h1 =>
    have hl : tl.length + 2 ≤ 6 := hG.1
    have py : p (tl.length + 1) = y := hp.1
    have px : p tl.length = x := hp.2.1
    refine xp_comb (k := tl.length) hl (fun hr => ⟨rfl, h0 ?_ _ _⟩) (fun hr => ⟨rfl, h1 (mr_ar op x y :: tl) j ?_ _ ?_ rfl⟩)
    · rw [py, px] at hr
      exact if_pos hr
    · rw [py, px] at hr
      exact if_neg hr
    · rw [py, px]
      exact mr_pr_c hp.2.2
end
end
section
section
variable {n t mc : Int32} {o go tr mp mo mg ks : Nat → Int32}
theorem xp_exec {post : Int32 → SX → Prop} {op a a' inp : Int32} {i : Nat} {s : List Int32} {p : Nat → Int32} (hC : (op, a) ∈ mr_C) (ha : mr_us op → a' = a) (hG : mr_G s) (hp : mr_pr p s)
    (h0 : mr_st op a inp i s = none → ∀ h nx p', post 0 (n, t, mc, h, nx, o, go, tr, mp, mo, mg, ks, p'))
    (h1 : ∀ s' i', mr_st op a inp i s = some (s', i') → ∀ p', mr_pr p' s' → post 1 (n, t, mc, nI s'.length, nI i', o, go, tr, mp, mo, mg, ks, p')) :
    wpX_execute post (n, t, mc, nI s.length, nI i, o, go, tr, mp, mo, mg, ks, p) op a' inp := by
  unfold wpX_execute
  dsimp only
  refine nm_r (nI_1 i) ?_
  rcases mr_C_op _ hC with e | e | e | e | e | e | e
  · change op = 0 at e
    subst e
    cases ha (Or.inl rfl)
    rw [mr_st_0] at h0 h1
    refine br_f (by decide) (br_f (by decide) (br_t rfl (xp_put hG.1 (fun hl => ⟨rfl, h1 (a :: s) (i + 1) (if_pos hl) _ (mr_pr_c hp)⟩) (fun hl => ⟨rfl, h0 (if_neg hl) _ _ _⟩))))
  · change op = 1 at e
    subst e
    rw [mr_st_1] at h0 h1
    refine br_f (by decide) (br_f (by decide) (br_f (by decide) (br_t rfl (xp_put hG.1 (fun hl => ⟨rfl, h1 (inp :: s) (i + 1) (if_pos hl) _ (mr_pr_c hp)⟩) (fun hl => ⟨rfl, h0 (if_neg hl) _ _ _⟩)))))
  · change op = 6 at e
    subst e
    rw [mr_st_6] at h0 h1
    refine br_f (by decide) (br_f (by decide) (br_f (by decide) (br_f (by decide) (br_f (by decide) (br_f (by decide) (br_f (by decide) (br_f (by decide) (br_t rfl ?_))))))))
    cases s with
    | nil => exact br_t (by decide) (h0 rfl _ _ _)
    | cons x tl =>
      have hl : tl.length + 1 ≤ 6 := hG.1
      have e1 : nI (tl.length + 1) - 1 = nI tl.length := nI_pred _
      have px : p tl.length = x := hp.1
      have c1 : p (nI (tl.length + 1) - 1).toNatClampNeg = x := by rw [e1, nI_clamp (by omega), px]
      refine br_f (nI_nle (n := tl.length + 1) (by omega) (by omega)) ⟨?_, ?_⟩
      · show vp_in (nI (tl.length + 1) - 1) 6
        rw [e1]
        exact vp_in_nI (by omega) (by decide)
      · show wpX_put _ (n, t, mc, nI (tl.length + 1), nI (i + 1), o, go, tr, mp, mo, mg, ks, p) (p (nI (tl.length + 1) - 1).toNatClampNeg)
        rw [c1]
        exact xp_put hl (fun h => br_f (by decide) (h1 (x :: x :: tl) (i + 1) (if_pos h) _ (mr_pr_c hp))) (fun h => br_t rfl (h0 (if_neg h) _ _ _))
  · change op = 7 at e
    subst e
    rw [mr_st_7] at h0 h1
    refine br_f (by decide) (br_f (by decide) (br_f (by decide) (br_f (by decide) (br_f (by decide) (br_f (by decide) (br_f (by decide) (br_f (by decide) (br_f (by decide) (br_t rfl ?_)))))))))
    match s, hG, hp, h0, h1 with
    | [], hG, hp, h0, h1 => exact xp_exch0 (k := 0) (by decide) ⟨rfl, h0 rfl _ _ _⟩
    | [y], hG, hp, h0, h1 => exact xp_exch0 (k := 1) (by decide) ⟨rfl, h0 rfl _ _ _⟩
    | x :: y :: tl, hG, hp, h0, h1 =>
      have hl : tl.length + 2 ≤ 6 := hG.1
      have px : p (tl.length + 1) = x := hp.1
      have py : p tl.length = y := hp.2.1
      refine xp_exch2 (k := tl.length) hl ⟨rfl, h1 (y :: x :: tl) (i + 1) rfl _ ⟨?_, ?_, ?_⟩⟩
      · show upd (upd p (tl.length + 1) (p tl.length)) tl.length (p (tl.length + 1)) (tl.length + 1) = y
        rw [pk_un (by omega), pk_us, py]
      · rw [px]
        exact pk_us
      · exact mr_pr_u (mr_pr_u hp.2.2 (by omega)) (Nat.le_refl _)
  · change op = 8 at e
    have hk := mr_C_8 _ hC e
    subst e
    cases ha (Or.inr (Or.inl rfl))
    rw [mr_st_8] at h0 h1
    refine br_f (by decide) (br_f (by decide) (br_f (by decide) (br_f (by decide) (br_f (by decide) (br_f (by decide) (br_f (by decide) (br_f (by decide) (br_f (by decide) (br_f (by decide) (br_t rfl ?_))))))))))
    have ea : a = nI a.toNatClampNeg := hk.1
    cases s with
    | nil => exact xp_skp0 ⟨rfl, h0 rfl _ _ _⟩
    | cons x tl =>
      have hl : tl.length + 1 ≤ 6 := hG.1
      have px : p tl.length = x := hp.1
      rw [ea]
      refine xp_skp1 (k := tl.length) (by omega) (fun hz => ⟨rfl, h1 tl (i + 1) ?_ _ hp.2⟩) (fun hz => ⟨rfl, h1 tl (i + 1 + a.toNatClampNeg) ?_ _ hp.2⟩)
      · rw [px] at hz
        show some (tl, if x = 0 then i + 1 else i + 1 + a.toNatClampNeg) = _
        rw [if_pos hz]
      · rw [px] at hz
        show some (tl, if x = 0 then i + 1 else i + 1 + a.toNatClampNeg) = _
        rw [if_neg hz]
  · change op = 9 at e
    have hk := mr_C_9 _ hC e
    subst e
    cases ha (Or.inr (Or.inr rfl))
    rw [mr_st_9] at h0 h1
    refine br_f (by decide) (br_f (by decide) (br_f (by decide) (br_f (by decide) (br_f (by decide) (br_f (by decide) (br_f (by decide) (br_f (by decide) (br_f (by decide) (br_f (by decide) (br_f (by decide) (br_t rfl ?_)))))))))))
    have ea : a = nI a.toNatClampNeg := hk.1
    cases s with
    | nil => exact xp_bck0 ⟨rfl, h0 rfl _ _ _⟩
    | cons x tl =>
      have hl : tl.length + 1 ≤ 6 := hG.1
      have px : p tl.length = x := hp.1
      refine xp_bck1 (k := tl.length) (by omega) (fun hz => ⟨rfl, h1 tl (i + 1) ?_ _ hp.2⟩) (fun hz => ⟨rfl, ?_⟩)
      · rw [px] at hz
        show some (tl, if 0 < x then a.toNatClampNeg else i + 1) = _
        rw [if_neg (Int32.not_lt.mpr hz)]
      · rw [px] at hz
        rw [ea]
        refine h1 tl a.toNatClampNeg ?_ _ hp.2
        show some (tl, if 0 < x then a.toNatClampNeg else i + 1) = _
        rw [if_pos (Int32.not_le.mp hz)]
  · change op = 2 ∨ op = 3 ∨ op = 4 ∨ op = 5 at e
    rw [mr_st_c e] at h0 h1
    have hh : wX_execute_124 post op n t mc (nI s.length) (nI (i + 1)) o go tr mp mo mg ks p := xp_124 (j := i + 1) hG hp (fun h h' p' => h0 h h' _ p') (fun s' i' hs p' hp' hi' => by
      have := h1 s' i' hs p' hp'
      rw [hi'] at this
      exact this)
    rcases e with e | e | e | e
    · subst e
      exact br_f (by decide) (br_f (by decide) (br_f (by decide) (br_f (by decide) (br_t rfl hh))))
    · subst e
      exact br_f (by decide) (br_f (by decide) (br_f (by decide) (br_f (by decide) (br_f (by decide) (br_t rfl hh)))))
    · subst e
      exact br_f (by decide) (br_f (by decide) (br_f (by decide) (br_f (by decide) (br_f (by decide) (br_f (by decide) (br_t rfl hh))))))
    · subst e
      exact br_f (by decide) (br_f (by decide) (br_f (by decide) (br_f (by decide) (br_f (by decide) (br_f (by decide) (br_f (by decide) (br_t rfl hh)))))))
end
section
variable {N : Nat} {t mc : Int32} {o go tr mp mo mg ks : Nat → Int32}
/-- the end of a run -/
theorem xp_fin {post : Int32 → SX → Prop} {i : Nat} {s : List Int32} {p : Nat → Int32} {P Q : Nat → Int32} {inp : Int32} (hN : N ≤ 10) (hi : i ≤ 13) (hl : s.length ≤ 6) (hp : mr_pr p s)
    (H : ∀ h nx p', post (mr_run P Q N inp 0 i s) (nI N, t, mc, h, nx, o, go, tr, mp, mo, mg, ks, p')) :
    wX_run_107 post (nI N) t mc (nI s.length) (nI i) o go tr mp mo mg ks p := by
  refine pk_le N i (fun h => ?_) (fun h => ?_)
  · rw [mr_run_f 0 s h] at H
    cases s with
    | nil => exact br_t (by decide) (H _ _ _)
    | cons x tl =>
      have hl' : tl.length + 1 ≤ 6 := hl
      have px : p tl.length = x := hp.1
      have e1 : nI (tl.length + 1) - 1 = nI tl.length := nI_pred _
      have c1 : p (nI (tl.length + 1) - 1).toNatClampNeg = x := by rw [e1, nI_clamp (by omega), px]
      refine br_f (nI_ne0 (n := tl.length + 1) (by omega) (by omega)) ⟨?_, ?_⟩
      · show vp_in (nI (tl.length + 1) - 1) 6
        rw [e1]
        exact vp_in_nI (by omega) (by decide)
      · show post (p (nI (tl.length + 1) - 1).toNatClampNeg) _
        rw [c1]
        exact H _ _ _
  · rw [mr_run_0 s h] at H
    exact H _ _ _
/-- what X runs (m: a mutant's number or -1) is the program P, Q -/
def xp_E (o go mp mo mg : Nat → Int32) (N : Nat) (m : Int32) (P Q : Nat → Int32) : Prop :=
  (m = -1 → ∀ i, i < N → o i = P i ∧ (mr_us (P i) → go i = Q i)) ∧
  (¬ m = -1 → vp_in m 30 ∧ ∀ i, i < N → (mp m.toNatClampNeg = nI i → mo m.toNatClampNeg = P i ∧ (mr_us (P i) → mg m.toNatClampNeg = Q i)) ∧ (¬ mp m.toNatClampNeg = nI i → o i = P i ∧ (mr_us (P i) → go i = Q i)))
theorem xp_run_l {post : Int32 → SX → Prop} {m inp : Int32} {P Q : Nat → Int32} (hV : mr_V P Q N) (hinp : mr_rg inp) (hE : xp_E o go mp mo mg N m P Q) :
    ∀ (d k i : Nat) (s : List Int32) (p : Nat → Int32), k + d = 40 → mr_G s → mr_pr p s → i ≤ 13 →
    (∀ h nx p', post (mr_run P Q N inp d i s) (nI N, t, mc, h, nx, o, go, tr, mp, mo, mg, ks, p')) →
    wX_run_12 post m inp (d + 1) (nI k) (nI N) t mc (nI s.length) (nI i) o go tr mp mo mg ks p := by
  intro d
  induction d with
  | zero =>
    intro k i s p hk hG hp hi H
    exact br_t (nI_le (a := 40) (by omega) (by omega)) (xp_fin hV.1 hi hG.1 hp H)
  | succ d ih =>
    intro k i s p hk hG hp hi H
    refine br_f (nI_ge (b := 40) (by omega) (by decide)) (pk_le N i (fun h => ?_) (fun h => ?_) rfl rfl (by have := hV.1; omega) (by omega))
    · rw [mr_run_f (d + 1) s h] at H
      refine xp_fin (P := P) (Q := Q) (inp := inp) hV.1 hi hG.1 hp ?_
      rw [mr_run_f 0 s h]
      exact H
    · have hN := hV.1
      have vi : vp_in (nI i) 10 := vp_in_nI (by omega) (by decide)
      have ci : (nI i).toNatClampNeg = i := nI_clamp (by omega)
      have hX : ∀ op a', op = P i → (mr_us (P i) → a' = Q i) → wX_run_85 post (wX_run_12 post m inp (d + 1)) m inp (nI k) op a' (nI N) t mc (nI s.length) (nI i) o go tr mp mo mg ks p := by
        intro op a' e1 e2
        subst e1
        unfold wX_run_85
        refine xp_exec (hV.2 i h) e2 hG hp (fun e h nx p' => ?_) (fun s' i' e p' hp' => ?_)
        · refine br_t rfl ?_
          have := H h nx p'
          rw [mr_run_t d (by assumption) e] at this
          exact this
        · obtain ⟨hG', hi'⟩ := mr_st_ok (hV.2 i h) hinp (by omega) hG e
          refine br_f (by decide) (nm_r (nI_1 k) (ih (k + 1) i' s' p' (by omega) hG' hp' hi' (fun h' nx p'' => ?_)))
          have := H h' nx p''
          rw [mr_run_s d h e] at this
          exact this
      refine ⟨vi, nm_e ⟨vi, nm_e ?_⟩⟩
      rw [ci]
      by_cases hm : m = -1
      · obtain ⟨q1, q2⟩ := hE.1 hm i h
        exact br_t hm (hX _ _ q1 q2)
      · obtain ⟨v, q⟩ := hE.2 hm
        refine br_f hm ⟨v, br_c (fun e => ?_) (fun e => ?_)⟩
        · obtain ⟨q1, q2⟩ := (q i h).1 e
          exact ⟨v, nm_e ⟨v, nm_e (hX _ _ q1 q2)⟩⟩
        · obtain ⟨q1, q2⟩ := (q i h).2 e
          exact hX _ _ q1 q2
theorem xp_run {post : Int32 → SX → Prop} {m inp h nx : Int32} {p P Q : Nat → Int32} (hV : mr_V P Q N) (hinp : mr_rg inp) (hE : xp_E o go mp mo mg N m P Q)
    (H : ∀ h nx p', post (mr_run P Q N inp 40 0 []) (nI N, t, mc, h, nx, o, go, tr, mp, mo, mg, ks, p')) :
    wpX_run post (nI N, t, mc, h, nx, o, go, tr, mp, mo, mg, ks, p) m inp :=
  ⟨41, xp_run_l hV hinp hE 40 0 0 [] p rfl mr_G0 trivial (by decide) H⟩
end
end
section
theorem mr_n10 : ¬ (1 : Int32) = 0 := by decide
section
variable {n t tp pl po pn : Int32} {o g tr ks : Nat → Int32}
theorem yp_pop0 {post : Int32 → SY → Prop} {p : Nat → Int32} (h : post 0 (n, t, nI 0, 1, pl, po, pn, o, g, tr, p, ks)) : wpY_pop post (n, t, nI 0, tp, pl, po, pn, o, g, tr, p, ks) := br_t nI_0 h
theorem yp_popc {post : Int32 → SY → Prop} {k : Nat} {p : Nat → Int32} (hk : k < 6) (h : post (p k) (n, t, nI k, tp, pl, po, pn, o, g, tr, p, ks)) : wpY_pop post (n, t, nI (k + 1), tp, pl, po, pn, o, g, tr, p, ks) := by
  refine br_f (nI_ne0 (n := k + 1) (by omega) (by omega)) (nm_r (nI_pred k) ⟨vp_in_nI hk (by decide), ?_⟩)
  rw [nI_clamp (by omega)]
  exact h
theorem yp_push {post : SY → Prop} {k : Nat} {x : Int32} {p : Nat → Int32} (hk : k < 6) (hx : mr_rg x) (h : post (n, t, nI (k + 1), tp, pl, po, pn, o, g, tr, upd p k x, ks)) : wpY_push post (n, t, nI k, tp, pl, po, pn, o, g, tr, p, ks) x := by
  have e6 : ¬ nI k = 6 := fun z => by
    have := (nI_eq (a := k) (b := 6) (by omega) (by decide)).mp z
    omega
  refine br_f e6 (br_f (Int32.not_lt.mpr hx.1) (br_t hx.2 ⟨vp_in_nI hk (by decide), fun a ea b eb => ?_⟩))
  rw [ea, eb, nI_clamp (by omega), nI_1]
  exact h
theorem yp_pushF {post : SY → Prop} {x : Int32} {p : Nat → Int32} (h : post (n, t, nI 6, 1, pl, po, pn, o, g, tr, p, ks)) : wpY_push post (n, t, nI 6, tp, pl, po, pn, o, g, tr, p, ks) x := br_t rfl h
theorem yp_pushR {post : SY → Prop} {k : Nat} {x : Int32} {p : Nat → Int32} (hx : x < -1000 ∨ 1000 < x) (h : post (n, t, nI k, 1, pl, po, pn, o, g, tr, p, ks)) : wpY_push post (n, t, nI k, tp, pl, po, pn, o, g, tr, p, ks) x :=
  br_c (fun _ => h) (fun _ => br_c (fun _ => h) (fun e2 => br_f (Int32.not_le.mpr (hx.resolve_left e2)) h))
theorem yp_o61 {post : SY → Prop} {k : Nat} {z : Int32} {p : Nat → Int32} (hk : k < 6) (h0 : (z < -1000 ∨ 1000 < z) → post (n, t, nI k, 1, pl, po, pn, o, g, tr, p, ks))
    (h1 : ¬ (z < -1000 ∨ 1000 < z) → post (n, t, nI (k + 1), 0, pl, po, pn, o, g, tr, upd p k z, ks)) : wY_operate_61 post z n t (nI k) 0 pl po pn o g tr p ks := by
  unfold wY_operate_61
  by_cases hz : z < -1000 ∨ 1000 < z
  · exact yp_pushR hz (h0 hz)
  · exact yp_push hk (mr_rg_n hz) (h1 hz)
theorem yp_operate {post : SY → Prop} {op : Int32} {s : List Int32} {p : Nat → Int32} {j : Nat} (hG : mr_G s) (hp : mr_pr p s)
    (h0 : mr_cmb op j s = none → ∀ h p', post (n, t, h, 1, pl, po, pn, o, g, tr, p', ks))
    (h1 : ∀ s' j', mr_cmb op j s = some (s', j') → ∀ p', mr_pr p' s' → j' = j → post (n, t, nI s'.length, 0, pl, po, pn, o, g, tr, p', ks)) :
    wpY_operate post (n, t, nI s.length, 0, pl, po, pn, o, g, tr, p, ks) op := by
  unfold wpY_operate
  dsimp only
  match s, hG, hp, h0, h1 with
  | [], hG, hp, h0, h1 => exact yp_pop0 (yp_pop0 (br_f mr_n10 (h0 rfl _ _)))
  | [y], hG, hp, h0, h1 => exact yp_popc (k := 0) (by decide) (yp_pop0 (br_f mr_n10 (h0 rfl _ _)))
  | y :: x :: tl, hG, hp, h0, h1 =>
    have hl : tl.length + 2 ≤ 6 := hG.1
    have py : p (tl.length + 1) = y := hp.1
    have px : p tl.length = x := hp.2.1
    have key : ∀ z, z = mr_ar op x y → wY_operate_61 post z n t (nI tl.length) 0 pl po pn o g tr p ks := by
      intro z ez
      subst ez
      exact yp_o61 (by omega) (fun hr => h0 (if_pos hr) _ _) (fun hr => h1 (mr_ar op x y :: tl) j (if_neg hr) _ (mr_pr_c hp.2.2) rfl)
    refine yp_popc (k := tl.length + 1) (by omega) (yp_popc (k := tl.length) (by omega) (br_t rfl ?_))
    dsimp only
    rw [py, px]
    unfold mr_ar at key
    refine br_c (fun e => key _ ?_) (fun e2 => br_c (fun e => key _ ?_) (fun e3 => br_c (fun e => key _ ?_) (fun e4 => br_c (fun e => key _ ?_) (fun e => key _ ?_))))
    · rw [if_pos e]
    · rw [if_neg e2, if_pos e]
    · rw [if_neg e2, if_neg e3, if_pos e]
    · rw [if_neg e2, if_neg e3, if_neg e4, if_neg (Int32.not_lt.mpr e)]
    · rw [if_neg e2, if_neg e3, if_neg e4, if_pos (Int32.not_le.mp e)]
theorem yp_rea6 {post : SY → Prop} {s : List Int32} {p : Nat → Int32} {j : Nat} (hG : mr_G s) (hp : mr_pr p s)
    (h0 : mr_dup j s = none → ∀ h p', post (n, t, h, 1, pl, po, pn, o, g, tr, p', ks))
    (h1 : ∀ s' j', mr_dup j s = some (s', j') → ∀ p', mr_pr p' s' → j' = j → post (n, t, nI s'.length, 0, pl, po, pn, o, g, tr, p', ks)) :
    wpY_rearrange post (n, t, nI s.length, 0, pl, po, pn, o, g, tr, p, ks) 6 := by
  unfold wpY_rearrange
  dsimp only
  cases s with
  | nil => exact yp_pop0 (br_t rfl (br_f mr_n10 (br_f (by decide) (h0 rfl _ _))))
  | cons x tl =>
    have hl : tl.length + 1 ≤ 6 := hG.1
    have px : p tl.length = x := hp.1
    refine yp_popc (k := tl.length) (by omega) (br_t rfl (br_t rfl ?_))
    dsimp only
    rw [px]
    refine yp_push (k := tl.length) (by omega) (mr_Gh hG) ?_
    dsimp only
    by_cases h6 : tl.length + 1 < 6
    · exact yp_push (k := tl.length + 1) h6 (mr_Gh hG) (br_f (by decide) (h1 (x :: x :: tl) j (if_pos h6) (upd (upd p tl.length x) (tl.length + 1) x) ⟨pk_us, by rw [pk_un (show (tl.length : Nat) ≠ tl.length + 1 by omega)]; exact pk_us, mr_pr_u (mr_pr_u hp.2 (Nat.le_refl _)) (by omega)⟩ rfl))
    · have e : tl.length + 1 = 6 := by omega
      have hn : mr_dup j (x :: tl) = none := if_neg h6
      rw [e]
      exact yp_pushF (br_f (by decide) (h0 hn _ _))
theorem yp_rea7 {post : SY → Prop} {s : List Int32} {p : Nat → Int32} {j : Nat} (hG : mr_G s) (hp : mr_pr p s)
    (h0 : mr_swp j s = none → ∀ h p', post (n, t, h, 1, pl, po, pn, o, g, tr, p', ks))
    (h1 : ∀ s' j', mr_swp j s = some (s', j') → ∀ p', mr_pr p' s' → j' = j → post (n, t, nI s'.length, 0, pl, po, pn, o, g, tr, p', ks)) :
    wpY_rearrange post (n, t, nI s.length, 0, pl, po, pn, o, g, tr, p, ks) 7 := by
  unfold wpY_rearrange
  dsimp only
  match s, hG, hp, h0, h1 with
  | [], hG, hp, h0, h1 => exact yp_pop0 (br_f (by decide) (br_t rfl (yp_pop0 (br_f mr_n10 (h0 rfl _ _)))))
  | [y], hG, hp, h0, h1 => exact yp_popc (k := 0) (by decide) (br_f (by decide) (br_t rfl (yp_pop0 (br_f mr_n10 (h0 rfl _ _)))))
  | x :: y :: tl, hG, hp, h0, h1 =>
    have hl : tl.length + 2 ≤ 6 := hG.1
    have px : p (tl.length + 1) = x := hp.1
    have py : p tl.length = y := hp.2.1
    refine yp_popc (k := tl.length + 1) (by omega) (br_f (by decide) (br_t rfl (yp_popc (k := tl.length) (by omega) (br_t rfl ?_))))
    dsimp only
    rw [px, py]
    exact yp_push (k := tl.length) (by omega) (mr_Gh hG) (yp_push (k := tl.length + 1) (by omega) (mr_Gh (mr_Gt hG)) (h1 (y :: x :: tl) j rfl (upd (upd p tl.length x) (tl.length + 1) y) ⟨pk_us, by rw [pk_un (show (tl.length : Nat) ≠ tl.length + 1 by omega)]; exact pk_us, mr_pr_u (mr_pr_u hp.2.2 (Nat.le_refl _)) (by omega)⟩ rfl))
theorem yp_29 {post : Int32 → SY → Prop} {k i : Nat} {x : Int32} {p : Nat → Int32} (hk : k ≤ 6) (hx : mr_rg x) (h0 : ¬ k < 6 → ∀ r h p', post r (n, t, h, 1, pl, po, pn, o, g, tr, p', ks))
    (h1 : k < 6 → post (nI (i + 1)) (n, t, nI (k + 1), 0, pl, po, pn, o, g, tr, upd p k x, ks)) : wY_execute_29 post (nI i) x n t (nI k) 0 pl po pn o g tr p ks := by
  unfold wY_execute_29
  rw [nI_1 i]
  by_cases h : k < 6
  · exact yp_push h hx (h1 h)
  · have e : k = 6 := by omega
    subst e
    exact yp_pushF (h0 h _ _ _)
theorem yp_opAt {post : Int32 → Prop} {x op h : Int32} {p : Nat → Int32} (e1 : x = pl → po = op) (e2 : ¬ x = pl → vp_in x 10 ∧ o x.toNatClampNeg = op) (H : post op) : wpY_opAt post (n, t, h, tp, pl, po, pn, o, g, tr, p, ks) x :=
  br_c (fun e => by rw [e1 e]; exact H) (fun e => ⟨(e2 e).1, by rw [(e2 e).2]; exact H⟩)
theorem yp_nuAt {post : Int32 → Prop} {x a h : Int32} {p : Nat → Int32} (e1 : x = pl → pn = a) (e2 : ¬ x = pl → vp_in x 10 ∧ g x.toNatClampNeg = a) (H : post a) : wpY_numberAt post (n, t, h, tp, pl, po, pn, o, g, tr, p, ks) x :=
  br_c (fun e => by rw [e1 e]; exact H) (fun e => ⟨(e2 e).1, by rw [(e2 e).2]; exact H⟩)
theorem yp_exec {post : Int32 → SY → Prop} {op a inp : Int32} {i : Nat} {s : List Int32} {p : Nat → Int32} (hC : (op, a) ∈ mr_C) (hi : i < 10) (hinp : mr_rg inp)
    (e1 : nI i = pl → po = op ∧ pn = a) (e2 : ¬ nI i = pl → o i = op ∧ g i = a) (hG : mr_G s) (hp : mr_pr p s)
    (h0 : mr_st op a inp i s = none → ∀ r h p', post r (n, t, h, 1, pl, po, pn, o, g, tr, p', ks))
    (h1 : ∀ s' i', mr_st op a inp i s = some (s', i') → ∀ p', mr_pr p' s' → post (nI i') (n, t, nI s'.length, 0, pl, po, pn, o, g, tr, p', ks)) :
    wpY_execute post (n, t, nI s.length, 0, pl, po, pn, o, g, tr, p, ks) (nI i) inp := by
  have vi : vp_in (nI i) 10 := vp_in_nI hi (by decide)
  have ci : (nI i).toNatClampNeg = i := nI_clamp (by omega)
  have q1 : ¬ nI i = pl → vp_in (nI i) 10 ∧ o (nI i).toNatClampNeg = op := fun e => ⟨vi, by rw [ci]; exact (e2 e).1⟩
  have q2 : ¬ nI i = pl → vp_in (nI i) 10 ∧ g (nI i).toNatClampNeg = a := fun e => ⟨vi, by rw [ci]; exact (e2 e).2⟩
  unfold wpY_execute
  dsimp only
  refine yp_opAt (fun e => (e1 e).1) q1 (yp_nuAt (fun e => (e1 e).2) q2 ?_)
  rcases mr_C_op _ hC with e | e | e | e | e | e | e
  · change op = 0 at e
    have hx := mr_C_0 _ hC e
    subst e
    rw [mr_st_0] at h0 h1
    exact br_f (by decide) (br_t rfl (yp_29 hG.1 hx (fun hl => h0 (if_neg hl)) (fun hl => h1 (a :: s) (i + 1) (if_pos hl) _ (mr_pr_c hp))))
  · change op = 1 at e
    subst e
    rw [mr_st_1] at h0 h1
    exact br_f (by decide) (br_f (by decide) (yp_29 hG.1 hinp (fun hl => h0 (if_neg hl)) (fun hl => h1 (inp :: s) (i + 1) (if_pos hl) _ (mr_pr_c hp))))
  · change op = 6 at e
    subst e
    rw [mr_st_6] at h0 h1
    refine br_t (by decide) (br_t (by decide) (br_f (by decide) ?_))
    rw [nI_1 i]
    exact yp_rea6 (j := i + 1) hG hp (fun e h p' => h0 e _ h p') (fun s' j' e p' hp' ej => by
      have := h1 s' j' e p' hp'
      rw [ej] at this
      exact this)
  · change op = 7 at e
    subst e
    rw [mr_st_7] at h0 h1
    refine br_t (by decide) (br_t (by decide) (br_f (by decide) ?_))
    rw [nI_1 i]
    exact yp_rea7 (j := i + 1) hG hp (fun e h p' => h0 e _ h p') (fun s' j' e p' hp' ej => by
      have := h1 s' j' e p' hp'
      rw [ej] at this
      exact this)
  · change op = 8 at e
    have hk := mr_C_8 _ hC e
    subst e
    rw [mr_st_8] at h0 h1
    refine br_t (by decide) (br_t (by decide) (br_t (by decide) ?_))
    have ea : a = nI a.toNatClampNeg := hk.1
    rw [nI_1 i]
    cases s with
    | nil => exact yp_pop0 (br_t rfl (br_t rfl (br_f (by decide) (h0 rfl _ _ _))))
    | cons x tl =>
      have hl : tl.length + 1 ≤ 6 := hG.1
      have px : p tl.length = x := hp.1
      refine yp_popc (k := tl.length) (by omega) (br_t rfl ?_)
      dsimp only
      rw [px]
      refine br_c (fun hz => br_f (by decide) ?_) (fun hz => ?_)
      · rw [nI_1 i]
        refine h1 tl (i + 1) ?_ _ hp.2
        show some (tl, if x = 0 then i + 1 else i + 1 + a.toNatClampNeg) = _
        rw [if_pos hz]
      · rw [ea, nI_add]
        refine h1 tl (i + 1 + a.toNatClampNeg) ?_ _ hp.2
        show some (tl, if x = 0 then i + 1 else i + 1 + a.toNatClampNeg) = _
        rw [if_neg hz]
  · change op = 9 at e
    have hk := mr_C_9 _ hC e
    subst e
    rw [mr_st_9] at h0 h1
    refine br_t (by decide) (br_t (by decide) (br_t (by decide) ?_))
    have ea : a = nI a.toNatClampNeg := hk.1
    cases s with
    | nil => exact yp_pop0 (br_f (by decide) (br_t rfl (br_t (by decide) (h0 rfl _ _ _))))
    | cons x tl =>
      have hl : tl.length + 1 ≤ 6 := hG.1
      have px : p tl.length = x := hp.1
      refine yp_popc (k := tl.length) (by omega) (br_f (by decide) (br_t rfl ?_))
      dsimp only
      rw [px]
      refine br_c (fun hz => ?_) (fun hz => ?_)
      · rw [nI_1 i]
        refine h1 tl (i + 1) ?_ _ hp.2
        show some (tl, if 0 < x then a.toNatClampNeg else i + 1) = _
        rw [if_neg (Int32.not_lt.mpr hz)]
      · rw [ea]
        refine h1 tl a.toNatClampNeg ?_ _ hp.2
        show some (tl, if 0 < x then a.toNatClampNeg else i + 1) = _
        rw [if_pos (Int32.not_le.mp hz)]
  · change op = 2 ∨ op = 3 ∨ op = 4 ∨ op = 5 at e
    rw [mr_st_c e] at h0 h1
    have hge : (2 : Int32) ≤ op := by rcases e with e | e | e | e <;> (rw [e]; decide)
    have hlt : ¬ (6 : Int32) ≤ op := by rcases e with e | e | e | e <;> (rw [e]; decide)
    refine br_t hge (br_f hlt ?_)
    rw [nI_1 i]
    exact yp_operate (j := i + 1) hG hp (fun e h p' => h0 e _ h p') (fun s' j' e p' hp' ej => by
      have := h1 s' j' e p' hp'
      rw [ej] at this
      exact this)
end
section
variable {N : Nat} {t pl po pn : Int32} {o g tr ks : Nat → Int32}
theorem yp_fin {post : Int32 → SY → Prop} {i : Nat} {s : List Int32} {p : Nat → Int32} {P Q : Nat → Int32} {inp : Int32} (hN : N ≤ 10) (hi : i ≤ 13) (hl : s.length ≤ 6) (hp : mr_pr p s)
    (H : ∀ h tp p', post (mr_run P Q N inp 0 i s) (nI N, t, h, tp, pl, po, pn, o, g, tr, p', ks)) :
    wY_run_48 post (nI i) (nI N) t (nI s.length) 0 pl po pn o g tr p ks := by
  refine br_t rfl (pk_le N i (fun h => ?_) (fun h => ?_))
  · rw [mr_run_f 0 s h] at H
    cases s with
    | nil => exact br_t (by decide) (H _ _ _)
    | cons x tl =>
      have hl' : tl.length + 1 ≤ 6 := hl
      have px : p tl.length = x := hp.1
      have e1 : nI (tl.length + 1) - 1 = nI tl.length := nI_pred _
      have c1 : p (nI (tl.length + 1) - 1).toNatClampNeg = x := by rw [e1, nI_clamp (by omega), px]
      refine br_f (nI_ne0 (n := tl.length + 1) (by omega) (by omega)) ⟨?_, ?_⟩
      · show vp_in (nI (tl.length + 1) - 1) 6
        rw [e1]
        exact vp_in_nI (by omega) (by decide)
      · show post (p (nI (tl.length + 1) - 1).toNatClampNeg) _
        rw [c1]
        exact H _ _ _
  · rw [mr_run_0 s h] at H
    exact H _ _ _
theorem yp_trp {post : Int32 → SY → Prop} {f : Nat} {x1 x2 x3 h : Int32} {p : Nat → Int32} (H : post 10001 (nI N, t, h, 1, pl, po, pn, o, g, tr, p, ks)) :
    wY_run_14 post x1 (f + 1) x2 x3 (nI N) t h 1 pl po pn o g tr p ks := by
  have e : wY_run_48 post x2 (nI N) t h 1 pl po pn o g tr p ks := br_f (by decide) H
  exact br_c (fun _ => e) (fun _ => br_c (fun _ => e) (fun _ => br_f (by decide) e))
def yp_E (o g : Nat → Int32) (pl po pn : Int32) (N : Nat) (P Q : Nat → Int32) : Prop := ∀ i, i < N → (nI i = pl → po = P i ∧ pn = Q i) ∧ (¬ nI i = pl → o i = P i ∧ g i = Q i)
theorem yp_run_l {post : Int32 → SY → Prop} {inp : Int32} {P Q : Nat → Int32} (hV : mr_V P Q N) (hinp : mr_rg inp) (hE : yp_E o g pl po pn N P Q) :
    ∀ (d k i : Nat) (s : List Int32) (p : Nat → Int32), k + d = 40 → mr_G s → mr_pr p s → i ≤ 13 →
    (∀ h tp p', post (mr_run P Q N inp d i s) (nI N, t, h, tp, pl, po, pn, o, g, tr, p', ks)) →
    wY_run_14 post inp (d + 1) (nI i) (nI k) (nI N) t (nI s.length) 0 pl po pn o g tr p ks := by
  intro d
  induction d with
  | zero =>
    intro k i s p hk hG hp hi H
    exact br_c (fun _ => yp_fin hV.1 hi hG.1 hp H) (fun _ => br_t (nI_le (a := 40) (by omega) (by omega)) (yp_fin hV.1 hi hG.1 hp H))
  | succ d ih =>
    intro k i s p hk hG hp hi H
    refine pk_le N i (fun h => ?_) (fun h => ?_) rfl rfl (by have := hV.1; omega) (by omega)
    · rw [mr_run_f (d + 1) s h] at H
      refine yp_fin (P := P) (Q := Q) (inp := inp) hV.1 hi hG.1 hp ?_
      rw [mr_run_f 0 s h]
      exact H
    · have hN := hV.1
      refine br_f (nI_ge (b := 40) (by omega) (by decide)) (br_t rfl ?_)
      refine yp_exec (hV.2 i h) (by omega) hinp (hE i h).1 (hE i h).2 hG hp (fun e r h' p' => nm_e (yp_trp ?_)) (fun s' i' e p' hp' => ?_)
      · have := H h' 1 p'
        rw [mr_run_t d h e] at this
        exact this
      · obtain ⟨hG', hi'⟩ := mr_st_ok (hV.2 i h) hinp (by omega) hG e
        refine nm_r (nI_1 k) (ih (k + 1) i' s' p' (by omega) hG' hp' hi' (fun h' tp' p'' => ?_))
        have := H h' tp' p''
        rw [mr_run_s d h e] at this
        exact this
theorem yp_run {post : Int32 → SY → Prop} {inp h tp : Int32} {p P Q : Nat → Int32} (hV : mr_V P Q N) (hinp : mr_rg inp) (hE : yp_E o g pl po pn N P Q)
    (H : ∀ h tp p', post (mr_run P Q N inp 40 0 []) (nI N, t, h, tp, pl, po, pn, o, g, tr, p', ks)) :
    wpY_run post (nI N, t, h, tp, pl, po, pn, o, g, tr, p, ks) inp :=
  ⟨41, yp_run_l hV hinp hE 40 0 0 [] p rfl mr_G0 trivial (by decide) H⟩
end
end
section
/-- X's three lists hold l -/
def mr_M (mp mo mg : Nat → Int32) (l : List (Nat × Int32 × Int32)) : Prop := ∀ j e, l[j]? = some e → mp j = nI e.1 ∧ mo j = e.2.1 ∧ mg j = e.2.2
theorem mr_M_c {mp mo mg : Nat → Int32} {l : List (Nat × Int32 × Int32)} {q : Nat} {op a : Int32} (h : mr_M mp mo mg l) : mr_M (upd mp l.length (nI q)) (upd mo l.length op) (upd mg l.length a) (l ++ [(q, op, a)]) := by
  intro j e he
  by_cases hj : j < l.length
  · rw [List.getElem?_append_left hj] at he
    have hn : j ≠ l.length := by omega
    rw [pk_un hn, pk_un hn, pk_un hn]
    exact h j e he
  · rw [List.getElem?_append_right (by omega)] at he
    by_cases hz : j = l.length
    · subst hz
      rw [Nat.sub_self] at he
      cases he
      exact ⟨pk_us, pk_us, pk_us⟩
    · rw [List.getElem?_eq_none (by show 1 ≤ j - l.length; omega)] at he
      cases he
/-- the other operations, from the x-th on -/
def mr_oth (op : Int32) : Nat → Nat → List (Int32 × Int32)
  | 0, _ => []
  | d + 1, x => (if nI x = op then [] else [(nI x, 0)]) ++ mr_oth op d (x + 1)
theorem mr_oth_2 : mr_oth 2 4 2 = mr_mk 2 0 := by decide +kernel
theorem mr_oth_3 : mr_oth 3 4 2 = mr_mk 3 0 := by decide +kernel
theorem mr_oth_4 : mr_oth 4 4 2 = mr_mk 4 0 := by decide +kernel
theorem mr_oth_5 : mr_oth 5 4 2 = mr_mk 5 0 := by decide +kernel
theorem mr_mk_0 (a : Int32) : mr_mk 0 a = (if a < 7 then [((0 : Int32), a + 1)] else []) ++ (if -8 < a then [((0 : Int32), a - 1)] else []) := by simp [mr_mk]
theorem mr_mk_8 (a : Int32) : mr_mk 8 a = (if a < 3 then [((8 : Int32), a + 1)] else []) ++ (if 0 < a then [((8 : Int32), a - 1)] else []) := by simp [mr_mk]
theorem mr_mk_9 (a : Int32) : mr_mk 9 a = (if 0 < a then [((9 : Int32), a - 1)] else []) := by simp [mr_mk]
theorem mr_mk_1 (a : Int32) : mr_mk 1 a = [(0, 0)] := by simp [mr_mk]
theorem mr_mk_6 (a : Int32) : mr_mk 6 a = [(1, 0)] := by simp [mr_mk]
theorem mr_mk_7 (a : Int32) : mr_mk 7 a = [(6, 0)] := by simp [mr_mk]
theorem mr_mk_2 (a : Int32) : mr_mk 2 a = mr_mk 2 0 := by simp [mr_mk]
theorem mr_mk_3 (a : Int32) : mr_mk 3 a = mr_mk 3 0 := by simp [mr_mk]
theorem mr_mk_4 (a : Int32) : mr_mk 4 a = mr_mk 4 0 := by simp [mr_mk]
theorem mr_mk_5 (a : Int32) : mr_mk 5 a = mr_mk 5 0 := by simp [mr_mk]
section
variable {n t h nx : Int32} {o go tr mp mo mg ks p : Nat → Int32}
theorem xa_mut {post : SX → Prop} {l : List (Nat × Int32 × Int32)} {q : Nat} {op a : Int32} (hl : l.length < 30) (hM : mr_M mp mo mg l)
    (H : ∀ mp' mo' mg', mr_M mp' mo' mg' (l ++ [(q, op, a)]) → post (n, t, nI (l ++ [(q, op, a)]).length, h, nx, o, go, tr, mp', mo', mg', ks, p)) :
    wpX_addMutant post (n, t, nI l.length, h, nx, o, go, tr, mp, mo, mg, ks, p) (nI q) op a := by
  have v : vp_in (nI l.length) 30 := vp_in_nI hl (by decide)
  have c : (nI l.length).toNatClampNeg = l.length := nI_clamp (by omega)
  refine br_f (nI_ge (b := 30) hl (by decide)) ⟨v, fun a1 e1 => ⟨v, fun a2 e2 => ⟨v, fun a3 e3 => fun b eb => ?_⟩⟩⟩
  rw [e1, e2, e3, eb, c, nI_1]
  have := H _ _ _ (mr_M_c (q := q) (op := op) (a := a) hM)
  rw [List.length_append] at this
  exact this
theorem xa_29 {post : SX → Prop} {l : List (Nat × Int32 × Int32)} {q : Nat} {lo a : Int32} (hq : q < 10) (hl : l.length < 30) (hM : mr_M mp mo mg l)
    (H : ∀ mp' mo' mg' l', l' = l ++ (if lo < a then [(q, o q, a - 1)] else []) → mr_M mp' mo' mg' l' → post (n, t, nI l'.length, h, nx, o, go, tr, mp', mo', mg', ks, p)) :
    wX_addNeighbours_29 post (nI q) lo a n t (nI l.length) h nx o go tr mp mo mg ks p := by
  have cq : (nI q).toNatClampNeg = q := nI_clamp (by omega)
  refine br_c (fun z => ?_) (fun z => ⟨vp_in_nI hq (by decide), ?_⟩)
  · exact H mp mo mg l (by rw [if_neg (Int32.not_lt.mpr z), List.append_nil]) hM
  · rw [cq]
    exact xa_mut hl hM (fun mp' mo' mg' hM' => H mp' mo' mg' _ (by rw [if_pos (Int32.not_le.mp z)]) hM')
theorem xa_nb {post : SX → Prop} {l : List (Nat × Int32 × Int32)} {q : Nat} {lo hi : Int32} (hq : q < 10) (hl : l.length + 2 ≤ 30) (hM : mr_M mp mo mg l)
    (H : ∀ mp' mo' mg' l', l' = (l ++ (if go q < hi then [(q, o q, go q + 1)] else [])) ++ (if lo < go q then [(q, o q, go q - 1)] else []) → mr_M mp' mo' mg' l' → post (n, t, nI l'.length, h, nx, o, go, tr, mp', mo', mg', ks, p)) :
    wpX_addNeighbours post (n, t, nI l.length, h, nx, o, go, tr, mp, mo, mg, ks, p) (nI q) lo hi := by
  have cq : (nI q).toNatClampNeg = q := nI_clamp (by omega)
  have vq : vp_in (nI q) 10 := vp_in_nI hq (by decide)
  unfold wpX_addNeighbours
  dsimp only
  rw [cq]
  refine ⟨vq, nm_e (br_c (fun z => ?_) (fun z => ⟨vq, ?_⟩))⟩
  · exact xa_29 hq (by omega) hM (fun mp' mo' mg' l' e hM' => H mp' mo' mg' l' (by rw [if_neg (Int32.not_lt.mpr z), List.append_nil]; exact e) hM')
  · refine xa_mut (by omega) hM (fun mp' mo' mg' hM' => ?_)
    exact xa_29 hq (by rw [List.length_append]; show l.length + 1 < 30; omega) hM' (fun mp'' mo'' mg'' l' e hM'' => H mp'' mo'' mg'' l' (by rw [if_pos (Int32.not_le.mp z)]; exact e) hM'')
theorem xa_oth {post : SX → Prop} {q : Nat} (hq : q < 10) : ∀ (d x : Nat) (l : List (Nat × Int32 × Int32)) (mp mo mg : Nat → Int32), x + d = 6 → l.length + (mr_oth (o q) d x).length ≤ 30 → mr_M mp mo mg l →
    (∀ mp' mo' mg', mr_M mp' mo' mg' (l ++ (mr_oth (o q) d x).map (fun e => (q, e))) → post (n, t, nI (l ++ (mr_oth (o q) d x).map (fun e => (q, e))).length, h, nx, o, go, tr, mp', mo', mg', ks, p)) →
    wX_addOtherArithmetic_2 post (nI q) (d + 1) (nI x) n t (nI l.length) h nx o go tr mp mo mg ks p := by
  intro d
  induction d with
  | zero =>
    intro x l mp mo mg hx hl hM H
    have H1 := H mp mo mg
    rw [show mr_oth (o q) 0 x = [] from rfl, List.map_nil, List.append_nil] at H1
    exact br_t (nI_lt (a := 5) (b := x) (by omega) (by omega)) (H1 hM)
  | succ d ih =>
    intro x l mp mo mg hx hl hM H
    have cq : (nI q).toNatClampNeg = q := nI_clamp (by omega)
    refine br_f (nI_nlt (a := 5) (b := x) (by omega) (by decide)) ⟨vp_in_nI hq (by decide), ?_⟩
    rw [cq]
    have eo : mr_oth (o q) (d + 1) x = (if nI x = o q then [] else [(nI x, 0)]) ++ mr_oth (o q) d (x + 1) := rfl
    have hlt : nI x = o q → l.length + (mr_oth (o q) d (x + 1)).length ≤ 30 := fun z => by
      rw [eo, if_pos z, List.nil_append] at hl
      exact hl
    have hlf : ¬ nI x = o q → l.length + 1 + (mr_oth (o q) d (x + 1)).length ≤ 30 := fun z => by
      rw [eo, if_neg z, List.length_append] at hl
      change l.length + (1 + (mr_oth (o q) d (x + 1)).length) ≤ 30 at hl
      omega
    refine br_c (fun z => nm_r (nI_1 x) (ih (x + 1) l mp mo mg (by omega) (hlt z) hM ?_)) (fun z => xa_mut (by have := hlf z; omega) hM (fun mp' mo' mg' hM' => nm_r (nI_1 x) (ih (x + 1) _ mp' mo' mg' (by omega) (by rw [List.length_append]; exact hlf z) hM' ?_)))
    · intro mp' mo' mg' hM'
      have H1 := H mp' mo' mg'
      rw [eo, if_pos z, List.nil_append] at H1
      exact H1 hM'
    · intro mp'' mo'' mg'' hM''
      have H1 := H mp'' mo'' mg''
      rw [eo, if_neg z, List.map_append, ← List.append_assoc] at H1
      exact H1 hM''
theorem xa_138 {post : SX → Prop} {q : Nat} {l m : List (Nat × Int32 × Int32)} (hq : q < 10) (hl : l.length + m.length ≤ 30) (hM : mr_M mp mo mg l) (hm : (mr_oth (o q) 4 2).map (fun e => (q, e)) = m)
    (H : ∀ mp' mo' mg', mr_M mp' mo' mg' (l ++ m) → post (n, t, nI (l ++ m).length, h, nx, o, go, tr, mp', mo', mg', ks, p)) :
    wX_addMutantsAt_138 post (nI q) n t (nI l.length) h nx o go tr mp mo mg ks p := by
  subst hm
  unfold wX_addMutantsAt_138
  rw [List.length_map] at hl
  exact ⟨5, xa_oth hq 4 2 l mp mo mg rfl hl hM H⟩
theorem xa_at {post : SX → Prop} {q : Nat} {l : List (Nat × Int32 × Int32)} {op a : Int32} (hq : q < 10) (hl : l.length + 3 ≤ 30) (hM : mr_M mp mo mg l) (hC : (op, a) ∈ mr_C) (ho : o q = op) (hg : mr_us op → go q = a)
    (H : ∀ mp' mo' mg', mr_M mp' mo' mg' (l ++ (mr_mk op a).map (fun e => (q, e))) → post (n, t, nI (l ++ (mr_mk op a).map (fun e => (q, e))).length, h, nx, o, go, tr, mp', mo', mg', ks, p)) :
    wpX_addMutantsAt post (n, t, nI l.length, h, nx, o, go, tr, mp, mo, mg, ks, p) (nI q) := by
  have cq : (nI q).toNatClampNeg = q := nI_clamp (by omega)
  have vq : vp_in (nI q) 10 := vp_in_nI hq (by decide)
  have hlm : ((mr_mk op a).map (fun e => (q, e))).length ≤ 3 := by
    rw [List.length_map]
    exact mr_mk_len _ hC
  unfold wpX_addMutantsAt
  dsimp only
  rw [cq]
  refine ⟨vq, nm_e ⟨vq, nm_r ho ?_⟩⟩
  rcases mr_C_op _ hC with e | e | e | e | e | e | e
  · change op = 0 at e
    subst e
    have hg' : go q = a := hg (Or.inl rfl)
    refine br_f (by decide) (br_f (by decide) (br_t rfl (xa_nb hq (by omega) hM (fun mp' mo' mg' l' el hM' => ?_))))
    have e2 : l' = l ++ (mr_mk 0 a).map (fun e => (q, e)) := by
      rw [el, mr_mk_0, hg', ho, List.append_assoc, List.map_append]
      congr 1
      congr 1 <;> split <;> rfl
    subst e2
    exact H mp' mo' mg' hM'
  · change op = 1 at e
    subst e
    rw [mr_mk_1] at H
    exact br_f (by decide) (br_f (by decide) (br_f (by decide) (br_t rfl (xa_mut (by omega) hM H))))
  · change op = 6 at e
    subst e
    rw [mr_mk_6] at H
    exact br_f (by decide) (br_f (by decide) (br_f (by decide) (br_f (by decide) (br_f (by decide) (br_f (by decide) (br_f (by decide) (br_f (by decide) (br_t rfl (xa_mut (by omega) hM H)))))))))
  · change op = 7 at e
    subst e
    rw [mr_mk_7] at H
    exact br_f (by decide) (br_f (by decide) (br_f (by decide) (br_f (by decide) (br_f (by decide) (br_f (by decide) (br_f (by decide) (br_f (by decide) (br_f (by decide) (br_t rfl (xa_mut (by omega) hM H))))))))))
  · change op = 8 at e
    subst e
    have hg' : go q = a := hg (Or.inr (Or.inl rfl))
    refine br_f (by decide) (br_f (by decide) (br_f (by decide) (br_f (by decide) (br_f (by decide) (br_f (by decide) (br_f (by decide) (br_f (by decide) (br_f (by decide) (br_f (by decide) (br_t rfl (xa_nb hq (by omega) hM (fun mp' mo' mg' l' el hM' => ?_))))))))))))
    have e2 : l' = l ++ (mr_mk 8 a).map (fun e => (q, e)) := by
      rw [el, mr_mk_8, hg', ho, List.append_assoc, List.map_append]
      congr 1
      congr 1 <;> split <;> rfl
    subst e2
    exact H mp' mo' mg' hM'
  · change op = 9 at e
    subst e
    have hg' : go q = a := hg (Or.inr (Or.inr rfl))
    rw [mr_mk_9] at H
    refine br_f (by decide) (br_f (by decide) (br_f (by decide) (br_f (by decide) (br_f (by decide) (br_f (by decide) (br_f (by decide) (br_f (by decide) (br_f (by decide) (br_f (by decide) (br_f (by decide) (br_t rfl ?_)))))))))))
    rw [hg']
    refine br_c (fun z => ?_) (fun z => ?_)
    · rw [if_neg (Int32.not_lt.mpr z), List.map_nil, List.append_nil] at H
      exact H mp mo mg hM
    · rw [if_pos (Int32.not_le.mp z)] at H
      exact xa_mut (by omega) hM H
  · change op = 2 ∨ op = 3 ∨ op = 4 ∨ op = 5 at e
    have hm : (mr_oth (o q) 4 2).map (fun e => (q, e)) = (mr_mk op a).map (fun e => (q, e)) := by
      rw [ho]
      rcases e with e | e | e | e <;> subst e
      · rw [mr_oth_2, ← mr_mk_2 a]
      · rw [mr_oth_3, ← mr_mk_3 a]
      · rw [mr_oth_4, ← mr_mk_4 a]
      · rw [mr_oth_5, ← mr_mk_5 a]
    have hh : wX_addMutantsAt_138 post (nI q) n t (nI l.length) h nx o go tr mp mo mg ks p := xa_138 hq (by omega) hM hm H
    rcases e with e | e | e | e
    · subst e
      exact br_f (by decide) (br_f (by decide) (br_f (by decide) (br_f (by decide) (br_t rfl hh))))
    · subst e
      exact br_f (by decide) (br_f (by decide) (br_f (by decide) (br_f (by decide) (br_f (by decide) (br_t rfl hh)))))
    · subst e
      exact br_f (by decide) (br_f (by decide) (br_f (by decide) (br_f (by decide) (br_f (by decide) (br_f (by decide) (br_t rfl hh))))))
    · subst e
      exact br_f (by decide) (br_f (by decide) (br_f (by decide) (br_f (by decide) (br_f (by decide) (br_f (by decide) (br_f (by decide) (br_t rfl hh)))))))
/-- addInstruction: op with the number a' behind the N instructions; its number counts as a -/
theorem xa_ins {post : SX → Prop} {N : Nat} {l : List (Nat × Int32 × Int32)} {op a a' : Int32} (hN : N < 10) (hl : l.length + 3 ≤ 30) (hM : mr_M mp mo mg l) (hC : (op, a) ∈ mr_C) (hg : mr_us op → a' = a)
    (H : ∀ mp' mo' mg', mr_M mp' mo' mg' (l ++ (mr_mk op a).map (fun e => (N, e))) → post (nI (N + 1), t, nI (l ++ (mr_mk op a).map (fun e => (N, e))).length, h, nx, upd o N op, upd go N a', tr, mp', mo', mg', ks, p)) :
    wpX_addInstruction post (nI N, t, nI l.length, h, nx, o, go, tr, mp, mo, mg, ks, p) op a' := by
  have cN : (nI N).toNatClampNeg = N := nI_clamp (by omega)
  have vN : vp_in (nI N) 10 := vp_in_nI hN (by decide)
  unfold wpX_addInstruction
  dsimp only
  rw [cN, nI_1 N]
  refine ⟨vN, nm_e ⟨vN, nm_e (nm_e ?_)⟩⟩
  exact xa_at hN hl hM hC pk_us (fun hu => by rw [pk_us]; exact hg hu) H
end
end
section
/-- what X's state says of the program o, g, N -/
def mr_XI (o g go : Nat → Int32) (N : Nat) (mp mo mg : Nat → Int32) : Prop := mr_V o g N ∧ (∀ i, i < N → mr_us (o i) → go i = g i) ∧ mr_M mp mo mg (mr_ml o g N)
def mr_TI (tr : Nat → Int32) (T : Nat) : Prop := T ≤ 6 ∧ ∀ i, i < T → ∃ q, q < 16 ∧ tr i = mr_in q
theorem mr_TI_r {tr : Nat → Int32} {T i : Nat} (h : mr_TI tr T) (hi : i < T) : mr_rg (tr i) := by
  obtain ⟨q, hq, e⟩ := h.2 i hi
  rw [e]
  exact mr_rg_in q hq
theorem mr_nm1 {m : Nat} (h : m < 2 ^ 31) : ¬ nI m = -1 := fun z => by
  have := nI_pos h
  rw [z] at this
  exact this (by decide)
theorem xk_E0 {o g go mp mo mg : Nat → Int32} {N : Nat} (h : mr_XI o g go N mp mo mg) : xp_E o go mp mo mg N (-1) (mr_po o none) (mr_pg g none) :=
  ⟨fun _ i hi => ⟨rfl, h.2.1 i hi⟩, fun z => absurd rfl z⟩
theorem xk_E1 {o g go mp mo mg : Nat → Int32} {N m : Nat} {e : Nat × Int32 × Int32} (h : mr_XI o g go N mp mo mg) (he : (mr_ml o g N)[m]? = some e) : xp_E o go mp mo mg N (nI m) (mr_po o (some e)) (mr_pg g (some e)) := by
  have hm : m < 30 := by
    obtain ⟨hl, _⟩ := List.getElem?_eq_some_iff.mp he
    have := mr_ml_30 h.1
    omega
  have cm : (nI m).toNatClampNeg = m := nI_clamp (by omega)
  obtain ⟨a1, a2, a3⟩ := h.2.2 m e he
  refine ⟨fun z => absurd z (mr_nm1 (by omega)), fun _ => ⟨vp_in_nI hm (by decide), fun i hi => ?_⟩⟩
  have hN := h.1.1
  have h1 := (mr_ml_e h.1 he).1
  rw [cm, a1, a2, a3]
  show (nI e.1 = nI i → e.2.1 = upd o e.1 e.2.1 i ∧ (mr_us (upd o e.1 e.2.1 i) → e.2.2 = upd g e.1 e.2.2 i)) ∧ (¬ nI e.1 = nI i → o i = upd o e.1 e.2.1 i ∧ (mr_us (upd o e.1 e.2.1 i) → go i = upd g e.1 e.2.2 i))
  rw [nI_eq (by omega) (by omega)]
  refine ⟨fun z => ?_, fun z => ?_⟩
  · rw [← z, pk_us, pk_us]
    exact ⟨rfl, fun _ => rfl⟩
  · have z' : i ≠ e.1 := fun y => z y.symm
    rw [pk_un z', pk_un z']
    exact ⟨rfl, h.2.1 i hi⟩
section
variable {N T : Nat} {h nx : Int32} {o g go tr mp mo mg ks p : Nat → Int32}
theorem xk_r0 {post : Int32 → SX → Prop} {t mc inp : Int32} (hX : mr_XI o g go N mp mo mg) (hi : mr_rg inp)
    (H : ∀ h nx p', post (mr_R o g N none inp) (nI N, t, mc, h, nx, o, go, tr, mp, mo, mg, ks, p')) : wpX_run post (nI N, t, mc, h, nx, o, go, tr, mp, mo, mg, ks, p) (-1) inp :=
  xp_run (P := mr_po o none) (Q := mr_pg g none) (mr_po_V hX.1 (fun x hx => by cases hx)) hi (xk_E0 hX) H
theorem xk_r1 {post : Int32 → SX → Prop} {t mc inp : Int32} {m : Nat} {e : Nat × Int32 × Int32} (hX : mr_XI o g go N mp mo mg) (he : (mr_ml o g N)[m]? = some e) (hi : mr_rg inp)
    (H : ∀ h nx p', post (mr_R o g N (some e) inp) (nI N, t, mc, h, nx, o, go, tr, mp, mo, mg, ks, p')) : wpX_run post (nI N, t, mc, h, nx, o, go, tr, mp, mo, mg, ks, p) (nI m) inp :=
  xp_run (P := mr_po o (some e)) (Q := mr_pg g (some e)) (mr_po_V hX.1 (fun x hx => by cases hx; exact (mr_ml_e hX.1 he).2)) hi (xk_E1 hX he) H
theorem xk_set_l {post : Int32 → SX → Prop} {mc : Int32} {m : Nat} {e : Nat × Int32 × Int32} (hX : mr_XI o g go N mp mo mg) (hT : mr_TI tr T) (he : (mr_ml o g N)[m]? = some e)
    (H : ∀ h nx p', post (nI (mr_KE o g N tr T e)) (nI N, nI T, mc, h, nx, o, go, tr, mp, mo, mg, ks, p')) :
    ∀ (d j : Nat) (h nx : Int32) (p : Nat → Int32), j + d = T → wX_killerSet_4 post (nI m) (d + 1) (nI (mr_KE o g N tr j e)) (nI j) (nI N) (nI T) mc h nx o go tr mp mo mg ks p := by
  intro d
  have hT6 := hT.1
  induction d with
  | zero =>
    intro j h nx p hj
    have ej : j = T := by omega
    subst ej
    exact br_t (nI_le (Nat.le_refl _) (by omega)) (H _ _ _)
  | succ d ih =>
    intro j h nx p hj
    have cj : (nI j).toNatClampNeg = j := nI_clamp (by omega)
    have hr := mr_TI_r hT (show j < T by omega)
    have hs : mr_KE o g N tr j e < 2 ^ j := mr_ks_lt _ _ j
    have h2 : 2 ^ j ≤ 64 := mr_64 (by omega)
    refine br_f (nI_ge (by omega) (by omega)) ⟨vp_in_nI (by omega) (by decide), ?_⟩
    rw [cj]
    refine nm_e (xk_r1 hX he hr (fun h1 nx1 p1 => xk_r0 hX hr (fun h2 nx2 p2 => ?_)))
    refine br_c (fun z => nm_r (nI_1 j) ?_) (fun z => nm_r (mr_or j (by omega) _ (by omega) hs) (nm_r (nI_1 j) ?_))
    · have q := ih (j + 1) h2 nx2 p2 (by omega)
      have e1 : mr_KE o g N tr (j + 1) e = mr_KE o g N tr j e := by
        show mr_KE o g N tr j e + (if mr_R o g N (some e) (tr j) = mr_R o g N none (tr j) then 0 else 2 ^ j) = _
        rw [if_pos z, Nat.add_zero]
      rw [e1] at q
      exact q
    · have q := ih (j + 1) h2 nx2 p2 (by omega)
      have e1 : mr_KE o g N tr (j + 1) e = mr_KE o g N tr j e + 2 ^ j := by
        show mr_KE o g N tr j e + (if mr_R o g N (some e) (tr j) = mr_R o g N none (tr j) then 0 else 2 ^ j) = _
        rw [if_neg z]
      rw [e1] at q
      exact q
theorem xk_set {post : Int32 → SX → Prop} {mc : Int32} {m : Nat} {e : Nat × Int32 × Int32} (hX : mr_XI o g go N mp mo mg) (hT : mr_TI tr T) (he : (mr_ml o g N)[m]? = some e)
    (H : ∀ h nx p', post (nI (mr_KE o g N tr T e)) (nI N, nI T, mc, h, nx, o, go, tr, mp, mo, mg, ks, p')) :
    wpX_killerSet post (nI N, nI T, mc, h, nx, o, go, tr, mp, mo, mg, ks, p) (nI m) :=
  ⟨T + 1, xk_set_l hX hT he H T 0 h nx p (by omega)⟩
theorem xk_lk_l {post : Int32 → SX → Prop} {t mc : Int32} {m : Nat} {e : Nat × Int32 × Int32} (hX : mr_XI o g go N mp mo mg) (he : (mr_ml o g N)[m]? = some e) :
    ∀ (d j : Nat) (h nx : Int32) (p : Nat → Int32), j + d = 16 →
    (∀ h nx p', post (mr_lk (fun j => mr_R o g N (some e) (mr_in j)) (fun j => mr_R o g N none (mr_in j)) d j) (nI N, t, mc, h, nx, o, go, tr, mp, mo, mg, ks, p')) →
    wX_leastKiller_3 post (nI m) (d + 1) (mr_in j) (nI N) t mc h nx o go tr mp mo mg ks p := by
  intro d
  induction d with
  | zero =>
    intro j h nx p hj H
    have ej : j = 16 := by omega
    subst ej
    exact br_t (by decide) (H _ _ _)
  | succ d ih =>
    intro j h nx p hj H
    have hr := mr_rg_in j (by omega)
    refine br_f (Int32.not_lt.mpr (mr_in_b j (by omega)).2.1) (xk_r1 hX he hr (fun h1 nx1 p1 => xk_r0 hX hr (fun h2 nx2 p2 => ?_)))
    refine br_c (fun z => nm_r (mr_in_s j) (ih (j + 1) h2 nx2 p2 (by omega) ?_)) (fun z => ?_)
    · intro h3 nx3 p3
      have q := H h3 nx3 p3
      rw [mr_lk, if_pos z] at q
      exact q
    · have q := H h2 nx2 p2
      rw [mr_lk, if_neg z] at q
      exact q
def mr_LE (o g : Nat → Int32) (N : Nat) (e : Nat × Int32 × Int32) : Int32 := mr_lk (fun j => mr_R o g N (some e) (mr_in j)) (fun j => mr_R o g N none (mr_in j)) 16 0
theorem xk_lk {post : Int32 → SX → Prop} {t mc : Int32} {m : Nat} {e : Nat × Int32 × Int32} (hX : mr_XI o g go N mp mo mg) (he : (mr_ml o g N)[m]? = some e)
    (H : ∀ h nx p', post (mr_LE o g N e) (nI N, t, mc, h, nx, o, go, tr, mp, mo, mg, ks, p')) :
    wpX_leastKiller post (nI N, t, mc, h, nx, o, go, tr, mp, mo, mg, ks, p) (nI m) :=
  ⟨17, xk_lk_l hX he 16 0 h nx p rfl H⟩
/-- killed -/
def mr_Pk (o g : Nat → Int32) (N : Nat) (tr : Nat → Int32) (T m : Nat) : Prop := ¬ mr_K o g N tr T m = 0
theorem xk_killed_l {post : Int32 → SX → Prop} (hX : mr_XI o g go N mp mo mg) (hT : mr_TI tr T)
    (H : ∀ h nx p', post (nI (mr_ct (mr_Pk o g N tr T) (mr_ml o g N).length)) (nI N, nI T, nI (mr_ml o g N).length, h, nx, o, go, tr, mp, mo, mg, ks, p')) :
    ∀ (d j : Nat) (h nx : Int32) (p : Nat → Int32), j + d = (mr_ml o g N).length → wX_killed_4 post (d + 1) (nI (mr_ct (mr_Pk o g N tr T) j)) (nI j) (nI N) (nI T) (nI (mr_ml o g N).length) h nx o go tr mp mo mg ks p := by
  intro d
  have h30 := mr_ml_30 hX.1
  induction d with
  | zero =>
    intro j h nx p hj
    have ej : j = (mr_ml o g N).length := by omega
    subst ej
    exact br_t (nI_le (Nat.le_refl _) (by omega)) (H _ _ _)
  | succ d ih =>
    intro j h nx p hj
    obtain ⟨e, he⟩ := mr_ml_lt (o := o) (g := g) (n := N) (m := j) (by omega)
    have ek := mr_K_s he tr T
    have hlt := mr_K_lt o g N tr T j
    have h64 := mr_64 hT.1
    refine br_f (nI_ge (by omega) (by omega)) (xk_set hX hT he (fun h1 nx1 p1 => ?_))
    have q := ih (j + 1) h1 nx1 p1 (by omega)
    refine br_c (fun z => nm_r (nI_1 j) ?_) (fun z => nm_r (nI_1 _) (nm_r (nI_1 j) ?_))
    · have z' : mr_KE o g N tr T e = 0 := (nI_eq (b := 0) (by omega) (by decide)).mp z
      have hn : ¬ mr_Pk o g N tr T j := fun y => y (by rw [ek]; exact z')
      rw [mr_ct_f hn] at q
      exact q
    · have hn : mr_Pk o g N tr T j := fun y => z (by rw [ek] at y; rw [y]; rfl)
      rw [mr_ct_t hn] at q
      exact q
theorem xk_killed {post : Int32 → SX → Prop} (hX : mr_XI o g go N mp mo mg) (hT : mr_TI tr T)
    (H : ∀ h nx p', post (nI (mr_ct (mr_Pk o g N tr T) (mr_ml o g N).length)) (nI N, nI T, nI (mr_ml o g N).length, h, nx, o, go, tr, mp, mo, mg, ks, p')) :
    wpX_killed post (nI N, nI T, nI (mr_ml o g N).length, h, nx, o, go, tr, mp, mo, mg, ks, p) :=
  ⟨(mr_ml o g N).length + 1, xk_killed_l hX hT H _ 0 h nx p (by omega)⟩
/-- equalOnes -/
def mr_Pe (o g : Nat → Int32) (N m : Nat) : Prop := ∃ e, (mr_ml o g N)[m]? = some e ∧ mr_LE o g N e = -10004
theorem xk_equal_l {post : Int32 → SX → Prop} {t : Int32} (hX : mr_XI o g go N mp mo mg)
    (H : ∀ h nx p', post (nI (mr_ct (mr_Pe o g N) (mr_ml o g N).length)) (nI N, t, nI (mr_ml o g N).length, h, nx, o, go, tr, mp, mo, mg, ks, p')) :
    ∀ (d j : Nat) (h nx : Int32) (p : Nat → Int32), j + d = (mr_ml o g N).length → wX_equalOnes_4 post (d + 1) (nI (mr_ct (mr_Pe o g N) j)) (nI j) (nI N) t (nI (mr_ml o g N).length) h nx o go tr mp mo mg ks p := by
  intro d
  have h30 := mr_ml_30 hX.1
  induction d with
  | zero =>
    intro j h nx p hj
    have ej : j = (mr_ml o g N).length := by omega
    subst ej
    exact br_t (nI_le (Nat.le_refl _) (by omega)) (H _ _ _)
  | succ d ih =>
    intro j h nx p hj
    obtain ⟨e, he⟩ := mr_ml_lt (o := o) (g := g) (n := N) (m := j) (by omega)
    refine br_f (nI_ge (by omega) (by omega)) (xk_lk hX he (fun h1 nx1 p1 => ?_))
    have q := ih (j + 1) h1 nx1 p1 (by omega)
    refine br_c (fun z => nm_r (nI_1 _) (nm_r (nI_1 j) ?_)) (fun z => nm_r (nI_1 j) ?_)
    · have hn : mr_Pe o g N j := ⟨e, he, z⟩
      rw [mr_ct_t hn] at q
      exact q
    · have hn : ¬ mr_Pe o g N j := fun y => by
        obtain ⟨e', he', z'⟩ := y
        rw [he] at he'
        cases he'
        exact z z'
      rw [mr_ct_f hn] at q
      exact q
theorem xk_equal {post : Int32 → SX → Prop} {t : Int32} (hX : mr_XI o g go N mp mo mg)
    (H : ∀ h nx p', post (nI (mr_ct (mr_Pe o g N) (mr_ml o g N).length)) (nI N, t, nI (mr_ml o g N).length, h, nx, o, go, tr, mp, mo, mg, ks, p')) :
    wpX_equalOnes post (nI N, t, nI (mr_ml o g N).length, h, nx, o, go, tr, mp, mo, mg, ks, p) :=
  ⟨(mr_ml o g N).length + 1, xk_equal_l hX H _ 0 h nx p (by omega)⟩
/-- numbers -/
def mr_Pn (o g : Nat → Int32) (N j : Nat) : Prop := ¬ 1000 < mr_R o g N none (mr_in j)
theorem xk_num_l {post : Int32 → SX → Prop} {t mc : Int32} (hX : mr_XI o g go N mp mo mg)
    (H : ∀ h nx p', post (nI (mr_ct (mr_Pn o g N) 16)) (nI N, t, mc, h, nx, o, go, tr, mp, mo, mg, ks, p')) :
    ∀ (d j : Nat) (h nx : Int32) (p : Nat → Int32), j + d = 16 → wX_numbers_5 post (d + 1) (nI (mr_ct (mr_Pn o g N) j)) (mr_in j) (nI N) t mc h nx o go tr mp mo mg ks p := by
  intro d
  induction d with
  | zero =>
    intro j h nx p hj
    have ej : j = 16 := by omega
    subst ej
    exact br_t (by decide) (H _ _ _)
  | succ d ih =>
    intro j h nx p hj
    have hr := mr_rg_in j (by omega)
    refine br_f (Int32.not_lt.mpr (mr_in_b j (by omega)).2.1) (xk_r0 hX hr (fun h1 nx1 p1 => ?_))
    have q := ih (j + 1) h1 nx1 p1 (by omega)
    have hf : ∀ x : Int32, mr_R o g N none (mr_in j) = x → 1000 < x → wX_numbers_5 post (d + 1) (nI (mr_ct (mr_Pn o g N) j)) (mr_in (j + 1)) (nI N) t mc h1 nx1 o go tr mp mo mg ks p1 := fun x e1 e2 => by
      have hn : ¬ mr_Pn o g N j := fun y => y (by rw [e1]; exact e2)
      rw [mr_ct_f hn] at q
      exact q
    refine br_c (fun z => nm_r (mr_in_s j) (hf _ z (by decide))) (fun z1 => br_c (fun z => nm_r (mr_in_s j) (hf _ z (by decide))) (fun z2 => br_c (fun z => nm_r (mr_in_s j) (hf _ z (by decide))) (fun z3 => nm_r (nI_1 _) (nm_r (mr_in_s j) ?_))))
    have hn : mr_Pn o g N j := by
      rcases mr_run_r (mr_po_V (e := none) hX.1 (fun x hx => by cases hx)) hr 40 0 [] mr_G0 with e | e | e | e
      · exact absurd e z1
      · exact absurd e z2
      · exact absurd e z3
      · exact Int32.not_lt.mpr e.2
    rw [mr_ct_t hn] at q
    exact q
theorem xk_num {post : Int32 → SX → Prop} {t mc : Int32} (hX : mr_XI o g go N mp mo mg)
    (H : ∀ h nx p', post (nI (mr_ct (mr_Pn o g N) 16)) (nI N, t, mc, h, nx, o, go, tr, mp, mo, mg, ks, p')) :
    wpX_numbers post (nI N, t, mc, h, nx, o, go, tr, mp, mo, mg, ks, p) :=
  ⟨17, xk_num_l hX H 16 0 h nx p rfl⟩
end
end
section
theorem mr_and0 {a b : Nat} (ha : a < 64) : nI a &&& nI b = 0 ↔ a &&& b = 0 := by
  rw [nx_and]
  have : a &&& b ≤ a := Nat.and_le_left
  exact nI_eq (b := 0) (by omega) (by decide)
theorem mr_andE {a b c : Nat} (ha : a < 64) (hc : c < 64) : nI a &&& nI b = nI c ↔ a &&& b = c := by
  rw [nx_and]
  have : a &&& b ≤ a := Nat.and_le_left
  exact nI_eq (by omega) (by omega)
theorem mr_mem_l {post : Int32 → Prop} {s : Nat} (hs : s < 64) (H : post (nI (mr_pc s 6))) : ∀ d j, j + d = 6 → wX_membersOf_4 post (nI s) (d + 1) (nI (mr_pc s j)) (nI j) := by
  intro d
  induction d with
  | zero =>
    intro j hj
    have ej : j = 6 := by omega
    subst ej
    exact br_t (by decide) H
  | succ d ih =>
    intro j hj
    refine br_f (nI_ge (b := 6) (by omega) (by decide)) (nm_r (e' := nI (mr_pc s (j + 1))) ?_ (nm_r (nI_1 j) (ih (j + 1) (by omega))))
    rw [mr_bt j (by omega) s hs, nI_add]
    rfl
theorem xn_mem {post : Int32 → Prop} {s : Nat} (hs : s < 64) (H : post (nI (mr_pc s 6))) : wpX_membersOf post (nI s) := ⟨7, mr_mem_l hs H 6 0 rfl⟩
section
variable {N T L : Nat} {h nx : Int32} {o g go tr mp mo mg ks p : Nat → Int32} {K : Nat → Nat}
theorem xn_fill_l {post : SX → Prop} (hX : mr_XI o g go N mp mo mg) (hT : mr_TI tr T)
    (H : ∀ h nx ks' p', (∀ j, j < (mr_ml o g N).length → ks' j = nI (mr_K o g N tr T j)) → post (nI N, nI T, nI (mr_ml o g N).length, h, nx, o, go, tr, mp, mo, mg, ks', p')) :
    ∀ (d j : Nat) (h nx : Int32) (ks p : Nat → Int32), j + d = (mr_ml o g N).length → (∀ i, i < j → ks i = nI (mr_K o g N tr T i)) → wX_fillKillerSets_2 post (d + 1) (nI j) (nI N) (nI T) (nI (mr_ml o g N).length) h nx o go tr mp mo mg ks p := by
  intro d
  have h30 := mr_ml_30 hX.1
  induction d with
  | zero =>
    intro j h nx ks p hj hk
    have ej : j = (mr_ml o g N).length := by omega
    subst ej
    exact br_t (nI_le (Nat.le_refl _) (by omega)) (H _ _ _ _ hk)
  | succ d ih =>
    intro j h nx ks p hj hk
    obtain ⟨e, he⟩ := mr_ml_lt (o := o) (g := g) (n := N) (m := j) (by omega)
    have ek := mr_K_s he tr T
    have cj : (nI j).toNatClampNeg = j := nI_clamp (by omega)
    refine br_f (nI_ge (by omega) (by omega)) (xk_set hX hT he (fun h1 nx1 p1 => ⟨vp_in_nI (by omega) (by decide), nm_e (nm_r (nI_1 j) (ih (j + 1) h1 nx1 _ p1 (by omega) (fun i hi => ?_)))⟩))
    rw [cj]
    by_cases ei : i = j
    · subst ei
      rw [pk_us, ek]
    · rw [pk_un ei]
      exact hk i (by omega)
theorem xn_fill {post : SX → Prop} (hX : mr_XI o g go N mp mo mg) (hT : mr_TI tr T)
    (H : ∀ h nx ks' p', (∀ j, j < (mr_ml o g N).length → ks' j = nI (mr_K o g N tr T j)) → post (nI N, nI T, nI (mr_ml o g N).length, h, nx, o, go, tr, mp, mo, mg, ks', p')) :
    wpX_fillKillerSets post (nI N, nI T, nI (mr_ml o g N).length, h, nx, o, go, tr, mp, mo, mg, ks, p) :=
  ⟨(mr_ml o g N).length + 1, xn_fill_l hX hT H _ 0 h nx ks p (by omega) (fun i hi => absurd hi (Nat.not_lt_zero i))⟩
theorem xn_all_l {post : Int32 → Prop} {n t : Int32} {s : Nat} (hL : L ≤ 30) (hK : ∀ j, j < L → ks j = nI (K j) ∧ K j < 64) (h1 : mr_A K L s → post 1) (h0 : ¬ mr_A K L s → post 0) :
    ∀ (d j : Nat), j + d = L → (∀ m, m < j → K m ≠ 0 → K m &&& s ≠ 0) → wX_killsAllKilled_2 post (nI s) n t (nI L) h nx o go tr mp mo mg ks p (d + 1) (nI j) := by
  intro d
  induction d with
  | zero =>
    intro j hj hA
    have ej : j = L := by omega
    subst ej
    exact br_t (nI_le (Nat.le_refl _) (by omega)) (h1 hA)
  | succ d ih =>
    intro j hj hA
    have cj : (nI j).toNatClampNeg = j := nI_clamp (by omega)
    have vj : vp_in (nI j) 30 := vp_in_nI (by omega) (by decide)
    obtain ⟨ej, hj64⟩ := hK j (by omega)
    refine br_f (nI_ge (by omega) (by omega)) ⟨vj, ?_⟩
    rw [cj, ej]
    refine br_c (fun z => nm_r (nI_1 j) (ih (j + 1) (by omega) ?_)) (fun z => ⟨vj, br_c (fun y => h0 ?_) (fun y => nm_r (nI_1 j) (ih (j + 1) (by omega) ?_))⟩)
    · have z' : K j = 0 := (nI_eq (b := 0) (by omega) (by decide)).mp z
      exact lt_s hA (fun q => absurd z' q)
    · intro hall
      have y' := (mr_and0 hj64).mp y
      exact hall j (by omega) (fun q => z (by rw [q]; rfl)) y'
    · exact lt_s hA (fun _ q => y ((mr_and0 hj64).mpr q))
theorem xn_all {post : Int32 → Prop} {n t : Int32} {s : Nat} (hL : L ≤ 30) (hK : ∀ j, j < L → ks j = nI (K j) ∧ K j < 64) (h1 : mr_A K L s → post 1) (h0 : ¬ mr_A K L s → post 0) :
    wpX_killsAllKilled post (n, t, nI L, h, nx, o, go, tr, mp, mo, mg, ks, p) (nI s) :=
  ⟨L + 1, xn_all_l hL hK h1 h0 L 0 (by omega) (fun m hm => absurd hm (Nat.not_lt_zero m))⟩
theorem xn_need_l {post : Int32 → SX → Prop} {n t : Int32} {E b : Nat} (hE : E ≤ 63) (hb : b ≤ 6) (hL : L ≤ 30) (hK : ∀ j, j < L → ks j = nI (K j) ∧ K j < 64)
    (H : ∀ r, mr_MI K L b E r → post (nI r) (n, t, nI L, h, nx, o, go, tr, mp, mo, mg, ks, p)) :
    ∀ (d c r : Nat), c + d = E → mr_MI K L b c r → wX_needed_20 post (nI E) n t (nI L) h nx o go tr mp mo mg ks p (d + 1) (nI r) (nI c) := by
  intro d
  induction d with
  | zero =>
    intro c r hc hM
    have ec : c = E := by omega
    subst ec
    exact br_t (nI_le (Nat.le_refl _) (by omega)) (H r hM)
  | succ d ih =>
    intro c r hc hM
    have hr : r ≤ b := hM.2.1
    have hp := mr_pc_le c 6
    refine br_f (nI_ge (by omega) (by omega)) (xn_mem (by omega) ?_)
    refine pk_le r (mr_pc c 6) (fun z => nm_r (nI_1 c) (ih (c + 1) r (by omega) (mr_MI_n hM (Or.inl z)))) (fun z => xn_all hL hK (fun hA => br_f (by decide) (nm_r (nI_1 c) (ih (c + 1) _ (by omega) (mr_MI_y hM z hA)))) (fun hA => br_t rfl (nm_r (nI_1 c) (ih (c + 1) r (by omega) (mr_MI_n hM (Or.inr hA))))))
theorem xn_needed {post : Int32 → SX → Prop} (hX : mr_XI o g go N mp mo mg) (hT : mr_TI tr T)
    (H : ∀ r h nx ks' p', mr_Min (mr_K o g N tr T) (mr_ml o g N).length r → post (nI r) (nI N, nI T, nI (mr_ml o g N).length, h, nx, o, go, tr, mp, mo, mg, ks', p')) :
    wpX_needed post (nI N, nI T, nI (mr_ml o g N).length, h, nx, o, go, tr, mp, mo, mg, ks, p) := by
  unfold wpX_needed
  dsimp only
  have hT6 := hT.1
  have h30 := mr_ml_30 hX.1
  have h2 := mr_p2 T (by omega)
  refine xn_fill hX hT (fun h1 nx1 ks1 p1 hk => nm_r (e' := nI (2 ^ T - 1)) ?_ ⟨2 ^ T - 1 + 1, ?_⟩)
  · dsimp only
    rw [mr_sh T (by omega)]
    exact pk_sub (a := 2 ^ T) (b := 1) h2.1
  · refine xn_need_l (K := mr_K o g N tr T) (b := T) (by omega) hT6 h30 (fun j hj => ⟨hk j hj, ?_⟩) (fun r hr => H r h1 nx1 ks1 p1 (mr_MI_x hT6 (fun m hm => mr_K_lt o g N tr T m) hr)) (2 ^ T - 1) 0 T (by omega) (mr_MI_0 _ _ _)
    have := mr_K_lt o g N tr T j
    omega
theorem xn_sm_l {post : Int32 → Prop} {n t : Int32} {m : Nat} (hL : L ≤ 30) (hm : K m < 64) (hK : ∀ j, j < L → ks j = nI (K j) ∧ K j < 64) (h1 : (∃ l, l < L ∧ mr_S K m l) → post 1) (h0 : (∀ l, l < L → ¬ mr_S K m l) → post 0) :
    ∀ (d j : Nat), j + d = L → (∀ l, l < j → ¬ mr_S K m l) → wX_hasSmallerSet_2 post (nI (K m)) n t (nI L) h nx o go tr mp mo mg ks p (d + 1) (nI j) := by
  intro d
  induction d with
  | zero =>
    intro j hj hA
    have ej : j = L := by omega
    subst ej
    exact br_t (nI_le (Nat.le_refl _) (by omega)) (h0 hA)
  | succ d ih =>
    intro j hj hA
    have cj : (nI j).toNatClampNeg = j := nI_clamp (by omega)
    have vj : vp_in (nI j) 30 := vp_in_nI (by omega) (by decide)
    obtain ⟨ej, hj64⟩ := hK j (by omega)
    refine br_f (nI_ge (by omega) (by omega)) ⟨vj, ?_⟩
    rw [cj, ej]
    refine nm_e (br_c (fun z => nm_r (nI_1 j) (ih (j + 1) (by omega) ?_)) (fun z => br_c (fun y => nm_r (nI_1 j) (ih (j + 1) (by omega) ?_)) (fun y => br_c (fun x => h1 ?_) (fun x => nm_r (nI_1 j) (ih (j + 1) (by omega) ?_)))))
    · have z' : K j = 0 := (nI_eq (b := 0) (by omega) (by decide)).mp z
      exact lt_s hA (fun q => q.1 z')
    · have y' : K j = K m := (nI_eq (by omega) (by omega)).mp y
      exact lt_s hA (fun q => q.2.1 y')
    · exact ⟨j, by omega, fun q => z (by rw [q]; rfl), fun q => y (by rw [q]), (mr_andE hj64 hj64).mp x⟩
    · exact lt_s hA (fun q => x ((mr_andE hj64 hj64).mpr q.2.2))
theorem xn_sm {post : Int32 → Prop} {n t : Int32} {m : Nat} (hL : L ≤ 30) (hm : K m < 64) (hK : ∀ j, j < L → ks j = nI (K j) ∧ K j < 64) (h1 : (∃ l, l < L ∧ mr_S K m l) → post 1) (h0 : (∀ l, l < L → ¬ mr_S K m l) → post 0) :
    wpX_hasSmallerSet post (n, t, nI L, h, nx, o, go, tr, mp, mo, mg, ks, p) (nI (K m)) :=
  ⟨L + 1, xn_sm_l hL hm hK h1 h0 L 0 (by omega) (fun m hm => absurd hm (Nat.not_lt_zero m))⟩
theorem xn_lead_l {post : Int32 → SX → Prop} {n t : Int32} (hL : L ≤ 30) (hK : ∀ j, j < L → ks j = nI (K j) ∧ K j < 64)
    (H : post (nI (mr_ct (mr_L K L) L)) (n, t, nI L, h, nx, o, go, tr, mp, mo, mg, ks, p)) :
    ∀ (d j : Nat), j + d = L → wX_leading_8 post n t (nI L) h nx o go tr mp mo mg ks p (d + 1) (nI (mr_ct (mr_L K L) j)) (nI j) := by
  intro d
  induction d with
  | zero =>
    intro j hj
    have ej : j = L := by omega
    subst ej
    exact br_t (nI_le (Nat.le_refl _) (by omega)) H
  | succ d ih =>
    intro j hj
    have cj : (nI j).toNatClampNeg = j := nI_clamp (by omega)
    have vj : vp_in (nI j) 30 := vp_in_nI (by omega) (by decide)
    obtain ⟨ej, hj64⟩ := hK j (by omega)
    have q := ih (j + 1) (by omega)
    refine br_f (nI_ge (by omega) (by omega)) ⟨vj, ?_⟩
    rw [cj, ej]
    refine br_c (fun z => nm_r (nI_1 j) ?_) (fun z => ⟨vj, xn_sm hL hj64 hK (fun y => br_f (by decide) (nm_r (nI_1 j) ?_)) (fun y => br_t rfl (nm_r (nI_1 _) (nm_r (nI_1 j) ?_)))⟩)
    · have z' : K j = 0 := (nI_eq (b := 0) (by omega) (by decide)).mp z
      have hn : ¬ mr_L K L j := fun w => w.1 z'
      rw [mr_ct_f hn] at q
      exact q
    · obtain ⟨l, hl, hs⟩ := y
      have hn : ¬ mr_L K L j := fun w => w.2 l hl hs
      rw [mr_ct_f hn] at q
      exact q
    · have hn : mr_L K L j := ⟨fun w => z (by rw [w]; rfl), y⟩
      rw [mr_ct_t hn] at q
      exact q
theorem xn_leading {post : Int32 → SX → Prop} (hX : mr_XI o g go N mp mo mg) (hT : mr_TI tr T)
    (H : ∀ h nx ks' p', post (nI (mr_ct (mr_L (mr_K o g N tr T) (mr_ml o g N).length) (mr_ml o g N).length)) (nI N, nI T, nI (mr_ml o g N).length, h, nx, o, go, tr, mp, mo, mg, ks', p')) :
    wpX_leading post (nI N, nI T, nI (mr_ml o g N).length, h, nx, o, go, tr, mp, mo, mg, ks, p) := by
  unfold wpX_leading
  dsimp only
  have h64 := mr_64 hT.1
  have h30 := mr_ml_30 hX.1
  refine xn_fill hX hT (fun h1 nx1 ks1 p1 hk => ⟨(mr_ml o g N).length + 1, ?_⟩)
  refine xn_lead_l (K := mr_K o g N tr T) h30 (fun j hj => ⟨hk j hj, ?_⟩) (H h1 nx1 ks1 p1) (mr_ml o g N).length 0 (by omega)
  have := mr_K_lt o g N tr T j
  omega
end
end
section
theorem mr_mk_2l (a : Int32) : mr_mk 2 a = [(3, 0), (4, 0), (5, 0)] := by simp [mr_mk]
theorem mr_mk_3l (a : Int32) : mr_mk 3 a = [(2, 0), (4, 0), (5, 0)] := by simp [mr_mk]
theorem mr_mk_4l (a : Int32) : mr_mk 4 a = [(2, 0), (3, 0), (5, 0)] := by simp [mr_mk]
theorem mr_mk_5l (a : Int32) : mr_mk 5 a = [(2, 0), (3, 0), (4, 0)] := by simp [mr_mk]
section
variable {n t h tp pl po pn : Int32} {o g tr p ks : Nat → Int32}
theorem yf_made {post : Int32 → Prop} {i : Nat} (hi : i < 10) (hC : (o i, g i) ∈ mr_C) (H : post (nI (mr_mk (o i) (g i)).length)) :
    wpY_madeAt post (n, t, h, tp, pl, po, pn, o, g, tr, p, ks) (nI i) := by
  have ci : (nI i).toNatClampNeg = i := nI_clamp (by omega)
  have v : vp_in (nI i) 10 := vp_in_nI hi (by decide)
  unfold wpY_madeAt
  dsimp only
  rw [ci]
  refine ⟨v, nm_e ⟨v, ?_⟩⟩
  generalize o i = op at *
  generalize g i = a at *
  rcases mr_C_op _ hC with e | e | e | e | e | e | e | e | e | e
  · change op = 0 at e
    subst e
    rw [mr_mk_0] at H
    refine br_t rfl (br_c (fun z => br_c (fun y => ?_) (fun y => ?_)) (fun z => br_c (fun y => ?_) (fun y => ?_)))
    · rw [if_neg (Int32.not_lt.mpr z), if_neg (Int32.not_lt.mpr y)] at H
      exact H
    · rw [if_neg (Int32.not_lt.mpr z), if_pos (Int32.not_le.mp y)] at H
      exact H
    · rw [if_pos (Int32.not_le.mp z), if_neg (Int32.not_lt.mpr y)] at H
      exact H
    · rw [if_pos (Int32.not_le.mp z), if_pos (Int32.not_le.mp y)] at H
      exact H
  · change op = 1 at e
    subst e
    rw [mr_mk_1] at H
    exact br_f (by decide) ⟨v, br_f (by decide) ⟨v, br_f (by decide) ⟨v, br_t (by decide) H⟩⟩⟩
  · change op = 6 at e
    subst e
    rw [mr_mk_6] at H
    exact br_f (by decide) ⟨v, br_f (by decide) ⟨v, br_f (by decide) ⟨v, br_f (by decide) ⟨v, br_t (by decide) H⟩⟩⟩⟩
  · change op = 7 at e
    subst e
    rw [mr_mk_7] at H
    exact br_f (by decide) ⟨v, br_f (by decide) ⟨v, br_f (by decide) ⟨v, br_f (by decide) ⟨v, br_t (by decide) H⟩⟩⟩⟩
  · change op = 8 at e
    subst e
    rw [mr_mk_8] at H
    refine br_f (by decide) ⟨v, br_t rfl (br_c (fun z => br_c (fun y => ?_) (fun y => ?_)) (fun z => br_c (fun y => ?_) (fun y => ?_)))⟩
    · rw [if_neg (Int32.not_lt.mpr z), if_neg (Int32.not_lt.mpr y)] at H
      exact H
    · rw [if_neg (Int32.not_lt.mpr z), if_pos (Int32.not_le.mp y)] at H
      exact H
    · rw [if_pos (Int32.not_le.mp z), if_neg (Int32.not_lt.mpr y)] at H
      exact H
    · rw [if_pos (Int32.not_le.mp z), if_pos (Int32.not_le.mp y)] at H
      exact H
  · change op = 9 at e
    subst e
    rw [mr_mk_9] at H
    refine br_f (by decide) ⟨v, br_f (by decide) ⟨v, br_t rfl (br_c (fun y => ?_) (fun y => ?_))⟩⟩
    · rw [if_neg (Int32.not_lt.mpr y)] at H
      exact H
    · rw [if_pos (Int32.not_le.mp y)] at H
      exact H
  · change op = 2 at e
    subst e
    rw [mr_mk_2l] at H
    exact br_f (by decide) ⟨v, br_f (by decide) ⟨v, br_f (by decide) ⟨v, br_f (by decide) ⟨v, br_f (by decide) H⟩⟩⟩⟩
  · change op = 3 at e
    subst e
    rw [mr_mk_3l] at H
    exact br_f (by decide) ⟨v, br_f (by decide) ⟨v, br_f (by decide) ⟨v, br_f (by decide) ⟨v, br_f (by decide) H⟩⟩⟩⟩
  · change op = 4 at e
    subst e
    rw [mr_mk_4l] at H
    exact br_f (by decide) ⟨v, br_f (by decide) ⟨v, br_f (by decide) ⟨v, br_f (by decide) ⟨v, br_f (by decide) H⟩⟩⟩⟩
  · change op = 5 at e
    subst e
    rw [mr_mk_5l] at H
    exact br_f (by decide) ⟨v, br_f (by decide) ⟨v, br_f (by decide) ⟨v, br_f (by decide) ⟨v, br_f (by decide) H⟩⟩⟩⟩
theorem yf_choose {post : SY → Prop} {i l : Nat} {q : Int32 × Int32} (hi : i < 10) (hC : (o i, g i) ∈ mr_C) (hq : (mr_mk (o i) (g i))[l]? = some q)
    (H : post (n, t, h, tp, nI i, q.1, q.2, o, g, tr, p, ks)) : wpY_choose post (n, t, h, tp, pl, po, pn, o, g, tr, p, ks) (nI i) (nI l) := by
  have ci : (nI i).toNatClampNeg = i := nI_clamp (by omega)
  have v : vp_in (nI i) 10 := vp_in_nI hi (by decide)
  have nz1 : ¬ nI 1 = 0 := by decide
  unfold wpY_choose
  dsimp only
  rw [ci]
  refine ⟨v, nm_e ⟨v, nm_e ⟨v, ?_⟩⟩⟩
  generalize o i = op at *
  generalize g i = a at *
  rcases mr_C_op _ hC with e | e | e | e | e | e | e | e | e | e
  · change op = 0 at e
    subst e
    rw [mr_mk_0] at hq
    refine br_t rfl ?_
    by_cases z : a < 7
    · rw [if_pos z] at hq
      match l, hq with
      | 0, hq =>
        cases hq
        exact br_t rfl (br_f (Int32.not_le.mpr z) (nm_e H))
      | 1, hq =>
        by_cases y : -8 < a
        · rw [if_pos y] at hq
          cases hq
          exact br_f nz1 (nm_e H)
        · rw [if_neg y] at hq
          cases hq
      | l + 2, hq =>
        by_cases y : -8 < a
        · rw [if_pos y] at hq
          cases hq
        · rw [if_neg y] at hq
          cases hq
    · rw [if_neg z] at hq
      by_cases y : -8 < a
      · rw [if_pos y] at hq
        match l, hq with
        | 0, hq =>
          cases hq
          exact br_t rfl (br_t (Int32.not_lt.mp z) (nm_e H))
        | l + 1, hq => cases hq
      · rw [if_neg y] at hq
        cases hq
  · change op = 1 at e
    subst e
    rw [mr_mk_1] at hq
    match l, hq with
    | 0, hq =>
      cases hq
      exact br_f (by decide) ⟨v, br_f (by decide) ⟨v, br_f (by decide) ⟨v, br_t rfl H⟩⟩⟩
    | l + 1, hq => cases hq
  · change op = 6 at e
    subst e
    rw [mr_mk_6] at hq
    match l, hq with
    | 0, hq =>
      cases hq
      exact br_f (by decide) ⟨v, br_f (by decide) ⟨v, br_f (by decide) ⟨v, br_f (by decide) ⟨v, br_f (by decide) ⟨v, br_t rfl H⟩⟩⟩⟩⟩
    | l + 1, hq => cases hq
  · change op = 7 at e
    subst e
    rw [mr_mk_7] at hq
    match l, hq with
    | 0, hq =>
      cases hq
      exact br_f (by decide) ⟨v, br_f (by decide) ⟨v, br_f (by decide) ⟨v, br_f (by decide) ⟨v, br_f (by decide) ⟨v, br_f (by decide) H⟩⟩⟩⟩⟩
    | l + 1, hq => cases hq
  · change op = 8 at e
    subst e
    rw [mr_mk_8] at hq
    refine br_f (by decide) ⟨v, br_t rfl ?_⟩
    by_cases z : a < 3
    · rw [if_pos z] at hq
      match l, hq with
      | 0, hq =>
        cases hq
        exact br_t rfl (br_f (Int32.not_le.mpr z) (nm_e H))
      | 1, hq =>
        by_cases y : 0 < a
        · rw [if_pos y] at hq
          cases hq
          exact br_f nz1 (nm_e H)
        · rw [if_neg y] at hq
          cases hq
      | l + 2, hq =>
        by_cases y : 0 < a
        · rw [if_pos y] at hq
          cases hq
        · rw [if_neg y] at hq
          cases hq
    · rw [if_neg z] at hq
      by_cases y : 0 < a
      · rw [if_pos y] at hq
        match l, hq with
        | 0, hq =>
          cases hq
          exact br_t rfl (br_t (Int32.not_lt.mp z) (nm_e H))
        | l + 1, hq => cases hq
      · rw [if_neg y] at hq
        cases hq
  · change op = 9 at e
    subst e
    rw [mr_mk_9] at hq
    refine br_f (by decide) ⟨v, br_f (by decide) ⟨v, br_t rfl ?_⟩⟩
    by_cases y : 0 < a
    · rw [if_pos y] at hq
      match l, hq with
      | 0, hq =>
        cases hq
        exact nm_e H
      | l + 1, hq => cases hq
    · rw [if_neg y] at hq
      cases hq
  · change op = 2 at e
    subst e
    rw [mr_mk_2l] at hq
    refine br_f (by decide) ⟨v, br_f (by decide) ⟨v, br_f (by decide) ⟨v, br_f (by decide) ⟨v, br_t (by decide) ⟨v, ?_⟩⟩⟩⟩⟩
    match l, hq with
    | 0, hq => cases hq; exact br_t (by decide) (nm_r (by decide) H)
    | 1, hq => cases hq; exact br_t (by decide) (nm_r (by decide) H)
    | 2, hq => cases hq; exact br_t (by decide) (nm_r (by decide) H)
    | l + 3, hq => cases hq
  · change op = 3 at e
    subst e
    rw [mr_mk_3l] at hq
    refine br_f (by decide) ⟨v, br_f (by decide) ⟨v, br_f (by decide) ⟨v, br_f (by decide) ⟨v, br_t (by decide) ⟨v, ?_⟩⟩⟩⟩⟩
    match l, hq with
    | 0, hq => cases hq; exact br_f (by decide) (nm_r (by decide) H)
    | 1, hq => cases hq; exact br_t (by decide) (nm_r (by decide) H)
    | 2, hq => cases hq; exact br_t (by decide) (nm_r (by decide) H)
    | l + 3, hq => cases hq
  · change op = 4 at e
    subst e
    rw [mr_mk_4l] at hq
    refine br_f (by decide) ⟨v, br_f (by decide) ⟨v, br_f (by decide) ⟨v, br_f (by decide) ⟨v, br_t (by decide) ⟨v, ?_⟩⟩⟩⟩⟩
    match l, hq with
    | 0, hq => cases hq; exact br_f (by decide) (nm_r (by decide) H)
    | 1, hq => cases hq; exact br_f (by decide) (nm_r (by decide) H)
    | 2, hq => cases hq; exact br_t (by decide) (nm_r (by decide) H)
    | l + 3, hq => cases hq
  · change op = 5 at e
    subst e
    rw [mr_mk_5l] at hq
    refine br_f (by decide) ⟨v, br_f (by decide) ⟨v, br_f (by decide) ⟨v, br_f (by decide) ⟨v, br_t (by decide) ⟨v, ?_⟩⟩⟩⟩⟩
    match l, hq with
    | 0, hq => cases hq; exact br_f (by decide) (nm_r (by decide) H)
    | 1, hq => cases hq; exact br_f (by decide) (nm_r (by decide) H)
    | 2, hq => cases hq; exact br_f (by decide) (nm_r (by decide) H)
    | l + 3, hq => cases hq
end
section
variable {N : Nat} {t h tp pl po pn : Int32} {o g tr p ks : Nat → Int32}
theorem mr_ml_sl (o g : Nat → Int32) (i : Nat) : (mr_ml o g (i + 1)).length = (mr_ml o g i).length + (mr_mk (o i) (g i)).length := by
  rw [mr_ml, List.length_append, List.length_map]
theorem yf_find_l {post : Int32 → SY → Prop} {m : Nat} (hV : mr_V o g N) (hm : m < 2 ^ 31)
    (h1 : ∀ e, (mr_ml o g N)[m]? = some e → post 1 (nI N, t, h, tp, nI e.1, e.2.1, e.2.2, o, g, tr, p, ks))
    (h0 : (mr_ml o g N).length ≤ m → post 0 (nI N, t, h, tp, pl, po, pn, o, g, tr, p, ks)) :
    ∀ (d i l : Nat), i + d = N → (mr_ml o g i).length + l = m → wY_find_4 post (nI N) t h tp pl po pn o g tr p ks (d + 1) (nI l) (nI i) := by
  intro d
  have hN := hV.1
  induction d with
  | zero =>
    intro i l hi hl
    have ei : i = N := by omega
    subst ei
    exact br_t (nI_le (Nat.le_refl _) (by omega)) (h0 (by omega))
  | succ d ih =>
    intro i l hi hl
    have hC := hV.2 i (by omega)
    have h3 : (mr_mk (o i) (g i)).length ≤ 3 := mr_mk_len _ hC
    refine br_f (nI_ge (by omega) (by omega)) (br_f (nI_pos (by omega)) (yf_made (by omega) hC ?_))
    refine pk_le (mr_mk (o i) (g i)).length l (fun z => nm_r (pk_sub z) (nm_r (nI_1 i) (ih (i + 1) _ (by omega) (by rw [mr_ml_sl]; omega)))) (fun z => yf_choose (q := (mr_mk (o i) (g i))[l]) (by omega) hC (List.getElem?_eq_getElem z) (h1 (i, (mr_mk (o i) (g i))[l]) ?_))
    have q := mr_ml_pre (mr_ml_at (o := o) (g := g) (List.getElem?_eq_getElem z)) d
    rw [show i + 1 + d = N by omega, hl] at q
    exact q
theorem yf_find {post : Int32 → SY → Prop} {m : Nat} (hV : mr_V o g N) (hm : m < 2 ^ 31)
    (h1 : ∀ e, (mr_ml o g N)[m]? = some e → post 1 (nI N, t, h, tp, nI e.1, e.2.1, e.2.2, o, g, tr, p, ks))
    (h0 : (mr_ml o g N).length ≤ m → post 0 (nI N, t, h, tp, pl, po, pn, o, g, tr, p, ks)) :
    wpY_find post (nI N, t, h, tp, pl, po, pn, o, g, tr, p, ks) (nI m) :=
  ⟨N + 1, yf_find_l hV hm h1 h0 N 0 m (by omega) (Nat.zero_add m)⟩
theorem yf_findN {post : Int32 → SY → Prop} {m : Int32} (hm : m < 0) (h0 : post 0 (nI N, t, h, tp, pl, po, pn, o, g, tr, p, ks)) : wpY_find post (nI N, t, h, tp, pl, po, pn, o, g, tr, p, ks) m :=
  ⟨1, br_c (fun _ => h0) (fun _ => br_t hm h0)⟩
theorem yf_mut_l {post : Int32 → Prop} (hV : mr_V o g N) (H : post (nI (mr_ml o g N).length)) :
    ∀ (d i : Nat), i + d = N → wY_mutants_4 post (nI N) t h tp pl po pn o g tr p ks (d + 1) (nI (mr_ml o g i).length) (nI i) := by
  intro d
  have hN := hV.1
  induction d with
  | zero =>
    intro i hi
    have ei : i = N := by omega
    subst ei
    exact br_t (nI_le (Nat.le_refl _) (by omega)) H
  | succ d ih =>
    intro i hi
    refine br_f (nI_ge (by omega) (by omega)) (yf_made (by omega) (hV.2 i (by omega)) (nm_r ?_ (nm_r (nI_1 i) (ih (i + 1) (by omega)))))
    rw [nI_add, mr_ml_sl]
theorem yf_mut {post : Int32 → Prop} (hV : mr_V o g N) (H : post (nI (mr_ml o g N).length)) : wpY_mutants post (nI N, t, h, tp, pl, po, pn, o, g, tr, p, ks) :=
  ⟨N + 1, yf_mut_l hV H N 0 (by omega)⟩
end
end
section
theorem yk_E0 {o g : Nat → Int32} {po pn : Int32} {N : Nat} (hN : N ≤ 10) : yp_E o g (-1) po pn N (mr_po o none) (mr_pg g none) :=
  fun i hi => ⟨fun z => absurd z (mr_nm1 (by omega)), fun _ => ⟨rfl, rfl⟩⟩
theorem yk_E1 {o g : Nat → Int32} {N : Nat} {e : Nat × Int32 × Int32} (hN : N ≤ 10) (he : e.1 < N) : yp_E o g (nI e.1) e.2.1 e.2.2 N (mr_po o (some e)) (mr_pg g (some e)) := by
  intro i hi
  show (nI i = nI e.1 → e.2.1 = upd o e.1 e.2.1 i ∧ e.2.2 = upd g e.1 e.2.2 i) ∧ (¬ nI i = nI e.1 → o i = upd o e.1 e.2.1 i ∧ g i = upd g e.1 e.2.2 i)
  rw [nI_eq (by omega) (by omega)]
  refine ⟨fun z => ?_, fun z => ?_⟩
  · rw [z, pk_us, pk_us]
    exact ⟨rfl, rfl⟩
  · rw [pk_un z, pk_un z]
    exact ⟨rfl, rfl⟩
section
variable {N T : Nat} {h tp pl po pn : Int32} {o g tr p ks : Nat → Int32}
theorem yk_prog {post : Int32 → SY → Prop} {t inp : Int32} (hV : mr_V o g N) (hi : mr_rg inp)
    (H : ∀ h tp pl po pn p', post (mr_R o g N none inp) (nI N, t, h, tp, pl, po, pn, o, g, tr, p', ks)) : wpY_runProgram post (nI N, t, h, tp, pl, po, pn, o, g, tr, p, ks) inp := by
  unfold wpY_runProgram
  exact yp_run (P := mr_po o none) (Q := mr_pg g none) (mr_po_V hV (fun x hx => by cases hx)) hi (yk_E0 hV.1) (fun h tp p' => H h tp _ _ _ p')
theorem yk_in {post : Int32 → Prop} {n t : Int32} {q : Nat} (hq : q < 16) (H : post 1) : wpY_isInput post (n, t, h, tp, pl, po, pn, o, g, tr, p, ks) (mr_in q) :=
  br_f (Int32.not_lt.mpr (mr_in_b q hq).1) (br_f (Int32.not_lt.mpr (mr_in_b q hq).2.1) H)
theorem yk_out {post : Int32 → SY → Prop} {t inp : Int32} {m q : Nat} {e : Nat × Int32 × Int32} (hV : mr_V o g N) (he : (mr_ml o g N)[m]? = some e) (hq : q < 16) (ei : inp = mr_in q)
    (H : ∀ h tp pl po pn p', post (mr_R o g N (some e) inp) (nI N, t, h, tp, pl, po, pn, o, g, tr, p', ks)) : wpY_outcomeOf post (nI N, t, h, tp, pl, po, pn, o, g, tr, p, ks) (nI m) inp := by
  have hm : m < 30 := by
    obtain ⟨hl, _⟩ := List.getElem?_eq_some_iff.mp he
    have := mr_ml_30 hV
    omega
  subst ei
  have hE := mr_ml_e hV he
  unfold wpY_outcomeOf
  dsimp only
  refine yk_in hq (br_f mr_n10 (yf_find hV (by omega) (fun e' he' => ?_) (fun hl => ?_)))
  · rw [he] at he'
    cases he'
    exact br_f mr_n10 (yp_run (P := mr_po o (some e)) (Q := mr_pg g (some e)) (mr_po_V hV (fun x hx => by cases hx; exact hE.2)) (mr_rg_in q hq) (yk_E1 hV.1 hE.1) (fun h tp p' => H h tp _ _ _ p'))
  · rw [mr_ml_no hl] at he
    cases he
theorem yk_set_l {post : Int32 → SY → Prop} {m : Nat} {e : Nat × Int32 × Int32} (hV : mr_V o g N) (hT : mr_TI tr T) (he : (mr_ml o g N)[m]? = some e)
    (H : ∀ h tp pl po pn p', post (nI (mr_KE o g N tr T e)) (nI N, nI T, h, tp, pl, po, pn, o, g, tr, p', ks)) :
    ∀ (d j : Nat) (h tp pl po pn : Int32) (p : Nat → Int32), j + d = T → wY_killers_16 post (nI m) (d + 1) (nI (mr_KE o g N tr j e)) (nI j) (nI N) (nI T) h tp pl po pn o g tr p ks := by
  intro d
  have hT6 := hT.1
  induction d with
  | zero =>
    intro j h tp pl po pn p hj
    have ej : j = T := by omega
    subst ej
    exact br_t (nI_le (Nat.le_refl _) (by omega)) (H _ _ _ _ _ _)
  | succ d ih =>
    intro j h tp pl po pn p hj
    have cj : (nI j).toNatClampNeg = j := nI_clamp (by omega)
    have vj : vp_in (nI j) 6 := vp_in_nI (by omega) (by decide)
    have hr := mr_TI_r hT (show j < T by omega)
    obtain ⟨q, hq, eq⟩ := hT.2 j (by omega)
    refine br_f (nI_ge (by omega) (by omega)) ⟨vj, ?_⟩
    rw [cj]
    refine yk_out hV he hq eq (fun h1 tp1 pl1 po1 pn1 p1 => ⟨vj, yk_prog hV hr (fun h2 tp2 pl2 po2 pn2 p2 => ?_)⟩)
    have w := ih (j + 1) h2 tp2 pl2 po2 pn2 p2 (by omega)
    refine br_c (fun z => nm_r (nI_1 j) ?_) (fun z => nm_r (e' := nI (mr_KE o g N tr j e + 2 ^ j)) ?_ (nm_r (nI_1 j) ?_))
    · have e1 : mr_KE o g N tr (j + 1) e = mr_KE o g N tr j e := by
        show mr_KE o g N tr j e + (if mr_R o g N (some e) (tr j) = mr_R o g N none (tr j) then 0 else 2 ^ j) = _
        rw [if_pos z, Nat.add_zero]
      rw [e1] at w
      exact w
    · rw [mr_sh j (by omega), nI_add]
    · have e1 : mr_KE o g N tr (j + 1) e = mr_KE o g N tr j e + 2 ^ j := by
        show mr_KE o g N tr j e + (if mr_R o g N (some e) (tr j) = mr_R o g N none (tr j) then 0 else 2 ^ j) = _
        rw [if_neg z]
      rw [e1] at w
      exact w
theorem yk_set {post : Int32 → SY → Prop} {m : Nat} (hV : mr_V o g N) (hT : mr_TI tr T) (hm : m < 2 ^ 31)
    (H : ∀ e, (mr_ml o g N)[m]? = some e → ∀ h tp pl po pn p', post (nI (mr_KE o g N tr T e)) (nI N, nI T, h, tp, pl, po, pn, o, g, tr, p', ks))
    (H0 : (mr_ml o g N).length ≤ m → ∀ h tp pl po pn p', post (-10004) (nI N, nI T, h, tp, pl, po, pn, o, g, tr, p', ks)) :
    wpY_killers post (nI N, nI T, h, tp, pl, po, pn, o, g, tr, p, ks) (nI m) := by
  unfold wpY_killers
  dsimp only
  exact yf_find hV hm (fun e he => br_f mr_n10 ⟨T + 1, yk_set_l hV hT he (H e he) T 0 _ _ _ _ _ _ (by omega)⟩) (fun hl => br_t rfl (H0 hl _ _ _ _ _ _))
theorem yk_lk_l {post : Int32 → SY → Prop} {t : Int32} {m : Nat} {e : Nat × Int32 × Int32} (hV : mr_V o g N) (he : (mr_ml o g N)[m]? = some e) :
    ∀ (d j : Nat) (h tp pl po pn : Int32) (p : Nat → Int32), j + d = 16 →
    (∀ h tp pl po pn p', post (mr_lk (fun j => mr_R o g N (some e) (mr_in j)) (fun j => mr_R o g N none (mr_in j)) d j) (nI N, t, h, tp, pl, po, pn, o, g, tr, p', ks)) →
    wY_killer_15 post (nI m) (d + 1) (mr_in j) (nI N) t h tp pl po pn o g tr p ks := by
  intro d
  induction d with
  | zero =>
    intro j h tp pl po pn p hj H
    have ej : j = 16 := by omega
    subst ej
    exact br_t (by decide) (H _ _ _ _ _ _)
  | succ d ih =>
    intro j h tp pl po pn p hj H
    have hr := mr_rg_in j (by omega)
    refine br_f (Int32.not_le.mpr (mr_in_b j (by omega)).2.2) (yk_out hV he (by omega) rfl (fun h1 tp1 pl1 po1 pn1 p1 => yk_prog hV hr (fun h2 tp2 pl2 po2 pn2 p2 => ?_)))
    refine br_c (fun z => nm_r (mr_in_s j) (ih (j + 1) h2 tp2 pl2 po2 pn2 p2 (by omega) ?_)) (fun z => ?_)
    · intro h3 tp3 pl3 po3 pn3 p3
      have q := H h3 tp3 pl3 po3 pn3 p3
      rw [mr_lk, if_pos z] at q
      exact q
    · have q := H h2 tp2 pl2 po2 pn2 p2
      rw [mr_lk, if_neg z] at q
      exact q
theorem yk_lk {post : Int32 → SY → Prop} {t : Int32} {m : Nat} (hV : mr_V o g N) (hm : m < 2 ^ 31)
    (H : ∀ e, (mr_ml o g N)[m]? = some e → ∀ h tp pl po pn p', post (mr_LE o g N e) (nI N, t, h, tp, pl, po, pn, o, g, tr, p', ks))
    (H0 : (mr_ml o g N).length ≤ m → ∀ h tp pl po pn p', post (-10004) (nI N, t, h, tp, pl, po, pn, o, g, tr, p', ks)) :
    wpY_killer post (nI N, t, h, tp, pl, po, pn, o, g, tr, p, ks) (nI m) := by
  unfold wpY_killer
  dsimp only
  exact yf_find hV hm (fun e he => br_f mr_n10 ⟨17, yk_lk_l hV he 16 0 _ _ _ _ _ _ rfl (H e he)⟩) (fun hl => br_t rfl (H0 hl _ _ _ _ _ _))
theorem yk_killed_l {post : Int32 → SY → Prop} (hV : mr_V o g N) (hT : mr_TI tr T)
    (H : ∀ h tp pl po pn p', post (nI (mr_ct (mr_Pk o g N tr T) 30)) (nI N, nI T, h, tp, pl, po, pn, o, g, tr, p', ks)) :
    ∀ (d j : Nat) (h tp pl po pn : Int32) (p : Nat → Int32), j + d = 30 → wY_killed_4 post (d + 1) (nI (mr_ct (mr_Pk o g N tr T) j)) (nI j) (nI N) (nI T) h tp pl po pn o g tr p ks := by
  intro d
  induction d with
  | zero =>
    intro j h tp pl po pn p hj
    have ej : j = 30 := by omega
    subst ej
    exact br_t (by decide) (H _ _ _ _ _ _)
  | succ d ih =>
    intro j h tp pl po pn p hj
    have hlt := mr_K_lt o g N tr T j
    have h64 := mr_64 hT.1
    refine br_f (nI_ge (b := 30) (by omega) (by decide)) (yk_set hV hT (by omega) (fun e he h1 tp1 pl1 po1 pn1 p1 => ?_) (fun hl h1 tp1 pl1 po1 pn1 p1 => ?_))
    · have ek := mr_K_s he tr T
      have w := ih (j + 1) h1 tp1 pl1 po1 pn1 p1 (by omega)
      refine pk_le (mr_KE o g N tr T e) 0 (fun z => nm_r (nI_1 j) ?_) (fun z => nm_r (nI_1 _) (nm_r (nI_1 j) ?_))
      · have hn : ¬ mr_Pk o g N tr T j := fun y => y (by omega)
        rw [mr_ct_f hn] at w
        exact w
      · have hn : mr_Pk o g N tr T j := fun y => by omega
        rw [mr_ct_t hn] at w
        exact w
    · have w := ih (j + 1) h1 tp1 pl1 po1 pn1 p1 (by omega)
      have hn : ¬ mr_Pk o g N tr T j := fun y => y (mr_K_0 hl tr T)
      rw [mr_ct_f hn] at w
      exact br_t (by decide) (nm_r (nI_1 j) w)
theorem mr_Pk_30 (hV : mr_V o g N) : mr_ct (mr_Pk o g N tr T) 30 = mr_ct (mr_Pk o g N tr T) (mr_ml o g N).length :=
  mr_ct_x2 (fun k hk y => y (mr_K_0 hk tr T)) (mr_ml_30 hV)
theorem yk_killed {post : Int32 → SY → Prop} (hV : mr_V o g N) (hT : mr_TI tr T)
    (H : ∀ h tp pl po pn p', post (nI (mr_ct (mr_Pk o g N tr T) (mr_ml o g N).length)) (nI N, nI T, h, tp, pl, po, pn, o, g, tr, p', ks)) :
    wpY_killed post (nI N, nI T, h, tp, pl, po, pn, o, g, tr, p, ks) :=
  ⟨31, yk_killed_l hV hT (by rw [mr_Pk_30 hV]; exact H) 30 0 _ _ _ _ _ _ rfl⟩
theorem yk_equal_l {post : Int32 → SY → Prop} {t : Int32} (hV : mr_V o g N)
    (H : ∀ h tp pl po pn p', post (nI (mr_ct (mr_Pe o g N) (mr_ml o g N).length)) (nI N, t, h, tp, pl, po, pn, o, g, tr, p', ks)) :
    ∀ (d j : Nat) (h tp pl po pn : Int32) (p : Nat → Int32), j + d = (mr_ml o g N).length → wY_equalOnes_9 post (nI (mr_ml o g N).length) (d + 1) (nI (mr_ct (mr_Pe o g N) j)) (nI j) (nI N) t h tp pl po pn o g tr p ks := by
  intro d
  have h30 := mr_ml_30 hV
  induction d with
  | zero =>
    intro j h tp pl po pn p hj
    have ej : j = (mr_ml o g N).length := by omega
    subst ej
    exact br_t (nI_le (Nat.le_refl _) (by omega)) (H _ _ _ _ _ _)
  | succ d ih =>
    intro j h tp pl po pn p hj
    refine br_f (nI_ge (by omega) (by omega)) (yk_lk hV (by omega) (fun e he h1 tp1 pl1 po1 pn1 p1 => ?_) (fun hl => absurd hl (by omega)))
    have w := ih (j + 1) h1 tp1 pl1 po1 pn1 p1 (by omega)
    refine br_c (fun z => nm_r (nI_1 _) (nm_r (nI_1 j) ?_)) (fun z => nm_r (nI_1 j) ?_)
    · have hn : mr_Pe o g N j := ⟨e, he, z⟩
      rw [mr_ct_t hn] at w
      exact w
    · have hn : ¬ mr_Pe o g N j := fun y => by
        obtain ⟨e', he', z'⟩ := y
        rw [he] at he'
        cases he'
        exact z z'
      rw [mr_ct_f hn] at w
      exact w
theorem yk_equal {post : Int32 → SY → Prop} {t : Int32} (hV : mr_V o g N)
    (H : ∀ h tp pl po pn p', post (nI (mr_ct (mr_Pe o g N) (mr_ml o g N).length)) (nI N, t, h, tp, pl, po, pn, o, g, tr, p', ks)) :
    wpY_equalOnes post (nI N, t, h, tp, pl, po, pn, o, g, tr, p, ks) := by
  unfold wpY_equalOnes
  dsimp only
  exact yf_mut hV ⟨(mr_ml o g N).length + 1, yk_equal_l hV H _ 0 _ _ _ _ _ _ (by omega)⟩
theorem yk_num_l {post : Int32 → SY → Prop} {t : Int32} (hV : mr_V o g N)
    (H : ∀ h tp pl po pn p', post (nI (mr_ct (mr_Pn o g N) 16)) (nI N, t, h, tp, pl, po, pn, o, g, tr, p', ks)) :
    ∀ (d j : Nat) (h tp pl po pn : Int32) (p : Nat → Int32), j + d = 16 → wY_numbers_5 post (d + 1) (nI (mr_ct (mr_Pn o g N) j)) (mr_in j) (nI N) t h tp pl po pn o g tr p ks := by
  intro d
  induction d with
  | zero =>
    intro j h tp pl po pn p hj
    have ej : j = 16 := by omega
    subst ej
    exact br_t (by decide) (H _ _ _ _ _ _)
  | succ d ih =>
    intro j h tp pl po pn p hj
    have hr := mr_rg_in j (by omega)
    refine br_f (Int32.not_le.mpr (mr_in_b j (by omega)).2.2) (yk_prog hV hr (fun h1 tp1 pl1 po1 pn1 p1 => ?_))
    have w := ih (j + 1) h1 tp1 pl1 po1 pn1 p1 (by omega)
    refine br_c (fun z => nm_r (mr_in_s j) ?_) (fun z => nm_r (nI_1 _) (nm_r (mr_in_s j) ?_))
    · have hn : ¬ mr_Pn o g N j := fun y => y z
      rw [mr_ct_f hn] at w
      exact w
    · have hn : mr_Pn o g N j := z
      rw [mr_ct_t hn] at w
      exact w
theorem yk_num {post : Int32 → SY → Prop} {t : Int32} (hV : mr_V o g N)
    (H : ∀ h tp pl po pn p', post (nI (mr_ct (mr_Pn o g N) 16)) (nI N, t, h, tp, pl, po, pn, o, g, tr, p', ks)) :
    wpY_numbers post (nI N, t, h, tp, pl, po, pn, o, g, tr, p, ks) :=
  ⟨17, yk_num_l hV H 16 0 _ _ _ _ _ _ rfl⟩
end
end
section
section
variable {N T : Nat} {h tp pl po pn : Int32} {o g tr p ks : Nat → Int32} {K : Nat → Nat}
theorem yn_list_l {post : SY → Prop} (hV : mr_V o g N) (hT : mr_TI tr T)
    (H : ∀ h tp pl po pn p' ks', (∀ j, j < 30 → ks' j = nI (mr_K o g N tr T j)) → post (nI N, nI T, h, tp, pl, po, pn, o, g, tr, p', ks')) :
    ∀ (d j : Nat) (h tp pl po pn : Int32) (p ks : Nat → Int32), j + d = 30 → (∀ i, i < j → ks i = nI (mr_K o g N tr T i)) → wY_listKills_2 post (d + 1) (nI j) (nI N) (nI T) h tp pl po pn o g tr p ks := by
  intro d
  induction d with
  | zero =>
    intro j h tp pl po pn p ks hj hk
    have ej : j = 30 := by omega
    subst ej
    exact br_t (by decide) (H _ _ _ _ _ _ _ hk)
  | succ d ih =>
    intro j h tp pl po pn p ks hj hk
    have hlt := mr_K_lt o g N tr T j
    have h64 := mr_64 hT.1
    have cj : (nI j).toNatClampNeg = j := nI_clamp (by omega)
    have vj : vp_in (nI j) 30 := vp_in_nI (by omega) (by decide)
    have hu : ∀ x, x = nI (mr_K o g N tr T j) → ∀ i, i < j + 1 → upd ks (nI j).toNatClampNeg x i = nI (mr_K o g N tr T i) := by
      intro x ex i hi
      rw [cj]
      by_cases ei : i = j
      · subst ei
        rw [pk_us, ex]
      · rw [pk_un ei]
        exact hk i (by omega)
    refine br_f (nI_ge (b := 30) (by omega) (by decide)) (yk_set hV hT (by omega) (fun e he h1 tp1 pl1 po1 pn1 p1 => ?_) (fun hl h1 tp1 pl1 po1 pn1 p1 => ?_))
    · have ek := mr_K_s he tr T
      refine pk_le (mr_KE o g N tr T e) 0 (fun z => ⟨vj, nm_e (nm_r (nI_1 j) (ih (j + 1) h1 tp1 pl1 po1 pn1 p1 _ (by omega) (hu 0 ?_)))⟩) (fun z => ⟨vj, nm_e (nm_r (nI_1 j) (ih (j + 1) h1 tp1 pl1 po1 pn1 p1 _ (by omega) (hu _ ?_)))⟩)
      · have e0 : mr_K o g N tr T j = 0 := by omega
        rw [e0]
        rfl
      · rw [ek]
    · have e0 := mr_K_0 hl tr T
      refine br_t (by decide) ⟨vj, nm_e (nm_r (nI_1 j) (ih (j + 1) h1 tp1 pl1 po1 pn1 p1 _ (by omega) (hu 0 ?_)))⟩
      rw [e0]
      rfl
theorem yn_list {post : SY → Prop} (hV : mr_V o g N) (hT : mr_TI tr T)
    (H : ∀ h tp pl po pn p' ks', (∀ j, j < 30 → ks' j = nI (mr_K o g N tr T j)) → post (nI N, nI T, h, tp, pl, po, pn, o, g, tr, p', ks')) :
    wpY_listKills post (nI N, nI T, h, tp, pl, po, pn, o, g, tr, p, ks) :=
  ⟨31, yn_list_l hV hT H 30 0 _ _ _ _ _ _ _ rfl (fun i hi => absurd hi (Nat.not_lt_zero i))⟩
theorem yn_all_l {post : Int32 → Prop} {n t : Int32} {s : Nat} (hK : ∀ j, j < 30 → ks j = nI (K j) ∧ K j < 64) (h1 : mr_A K 30 s → post 1) (h0 : ¬ mr_A K 30 s → post 0) :
    ∀ (d j : Nat), j + d = 30 → (∀ m, m < j → K m ≠ 0 → K m &&& s ≠ 0) → wY_doesAll_2 post (nI s) n t h tp pl po pn o g tr p ks (d + 1) (nI j) := by
  intro d
  induction d with
  | zero =>
    intro j hj hA
    have ej : j = 30 := by omega
    subst ej
    exact br_t (by decide) (h1 hA)
  | succ d ih =>
    intro j hj hA
    have cj : (nI j).toNatClampNeg = j := nI_clamp (by omega)
    have vj : vp_in (nI j) 30 := vp_in_nI (by omega) (by decide)
    obtain ⟨ej, hj64⟩ := hK j (by omega)
    refine br_f (nI_ge (b := 30) (by omega) (by decide)) ⟨vj, ?_⟩
    rw [cj, ej]
    refine br_c (fun z => nm_r (nI_1 j) (ih (j + 1) (by omega) ?_)) (fun z => ⟨vj, br_c (fun y => h0 ?_) (fun y => nm_r (nI_1 j) (ih (j + 1) (by omega) ?_))⟩)
    · have z' : K j = 0 := (nI_eq (b := 0) (by omega) (by decide)).mp z
      exact lt_s hA (fun q => absurd z' q)
    · intro hall
      have y' := (mr_and0 hj64).mp y
      exact hall j (by omega) (fun q => z (by rw [q]; rfl)) y'
    · exact lt_s hA (fun _ q => y ((mr_and0 hj64).mpr q))
theorem yn_all {post : Int32 → Prop} {n t : Int32} {s : Nat} (hK : ∀ j, j < 30 → ks j = nI (K j) ∧ K j < 64) (h1 : mr_A K 30 s → post 1) (h0 : ¬ mr_A K 30 s → post 0) :
    wpY_doesAll post (n, t, h, tp, pl, po, pn, o, g, tr, p, ks) (nI s) :=
  ⟨31, yn_all_l hK h1 h0 30 0 rfl (fun m hm => absurd hm (Nat.not_lt_zero m))⟩
theorem yn_sz_l {post : Int32 → Prop} {n t : Int32} {s : Nat} (hs : s < 64) (H : post (nI (mr_pc s 6))) : ∀ d j, j + d = 6 → wY_sizeOf_4 post (nI s) n t h tp pl po pn o g tr p ks (d + 1) (nI (mr_pc s j)) (nI j) := by
  intro d
  induction d with
  | zero =>
    intro j hj
    have ej : j = 6 := by omega
    subst ej
    exact br_t (by decide) H
  | succ d ih =>
    intro j hj
    refine br_f (nI_ge (b := 6) (by omega) (by decide)) (nm_r (e' := nI (mr_pc s (j + 1))) ?_ (nm_r (nI_1 j) (ih (j + 1) (by omega))))
    rw [mr_bt j (by omega) s hs, nI_add]
    rfl
theorem yn_sz {post : Int32 → Prop} {n t : Int32} {s : Nat} (hs : s < 64) (H : post (nI (mr_pc s 6))) : wpY_sizeOf post (n, t, h, tp, pl, po, pn, o, g, tr, p, ks) (nI s) := ⟨7, yn_sz_l hs H 6 0 rfl⟩
theorem yn_need_l {post : Int32 → SY → Prop} {n t : Int32} (hK : ∀ j, j < 30 → ks j = nI (K j) ∧ K j < 64)
    (H : ∀ r, mr_MI K 30 6 64 r → post (nI r) (n, t, h, tp, pl, po, pn, o, g, tr, p, ks)) :
    ∀ (d c r : Nat), c + d = 64 → mr_MI K 30 6 c r → wY_needed_9 post n t h tp pl po pn o g tr p ks (d + 1) (nI r) (nI c) := by
  intro d
  induction d with
  | zero =>
    intro c r hc hM
    have ec : c = 64 := by omega
    subst ec
    exact br_t (by decide) (H r hM)
  | succ d ih =>
    intro c r hc hM
    have hr : r ≤ 6 := hM.2.1
    have hp := mr_pc_le c 6
    refine br_f (nI_ge (b := 64) (by omega) (by decide)) (yn_sz (by omega) ?_)
    refine pk_le r (mr_pc c 6) (fun z => nm_r (nI_1 c) (ih (c + 1) r (by omega) (mr_MI_n hM (Or.inl z)))) (fun z => yn_all hK (fun hA => br_f (by decide) (yn_sz (by omega) (nm_r (nI_1 c) (ih (c + 1) _ (by omega) (mr_MI_y hM z hA))))) (fun hA => br_t rfl (nm_r (nI_1 c) (ih (c + 1) r (by omega) (mr_MI_n hM (Or.inr hA))))))
theorem mr_Min_30 {r : Nat} (hV : mr_V o g N) (h : mr_Min (mr_K o g N tr T) 30 r) : mr_Min (mr_K o g N tr T) (mr_ml o g N).length r := by
  have hx : ∀ s, mr_A (mr_K o g N tr T) 30 s ↔ mr_A (mr_K o g N tr T) (mr_ml o g N).length s := fun s => mr_A_x (mr_ml_30 hV) (fun m hm => mr_K_0 hm tr T)
  obtain ⟨⟨s, a, b, c⟩, d⟩ := h
  exact ⟨⟨s, a, (hx s).mp b, c⟩, fun s' a' b' => d s' a' ((hx s').mpr b')⟩
theorem yn_needed {post : Int32 → SY → Prop} (hV : mr_V o g N) (hT : mr_TI tr T)
    (H : ∀ r h tp pl po pn p' ks', mr_Min (mr_K o g N tr T) (mr_ml o g N).length r → post (nI r) (nI N, nI T, h, tp, pl, po, pn, o, g, tr, p', ks')) :
    wpY_needed post (nI N, nI T, h, tp, pl, po, pn, o, g, tr, p, ks) := by
  unfold wpY_needed
  dsimp only
  have h64 := mr_64 hT.1
  have hK : ∀ j, mr_K o g N tr T j < 64 := fun j => by
    have := mr_K_lt o g N tr T j
    omega
  refine yn_list hV hT (fun h1 tp1 pl1 po1 pn1 p1 ks1 hk => ⟨65, ?_⟩)
  exact yn_need_l (K := mr_K o g N tr T) (fun j hj => ⟨hk j hj, hK j⟩) (fun r hr => H r h1 tp1 pl1 po1 pn1 p1 ks1 (mr_Min_30 hV (mr_MI_f (fun m _ => hK m) hr))) 64 0 6 rfl (mr_MI_0 _ _ _)
theorem yn_ld_l {post : Int32 → Prop} {n t : Int32} {m : Nat} (hm : m < 30) (hK : ∀ j, j < 30 → ks j = nI (K j) ∧ K j < 64) (h1 : mr_L K 30 m → post 1) (h0 : ¬ mr_L K 30 m → post 0) :
    ∀ (d j : Nat), j + d = 30 → (∀ l, l < j → ¬ mr_S K m l) → wY_leads_2 post (nI m) n t h tp pl po pn o g tr p ks (d + 1) (nI j) := by
  intro d
  have cm : (nI m).toNatClampNeg = m := nI_clamp (by omega)
  have vm : vp_in (nI m) 30 := vp_in_nI hm (by decide)
  obtain ⟨em, hm64⟩ := hK m hm
  induction d with
  | zero =>
    intro j hj hA
    have ej : j = 30 := by omega
    subst ej
    refine br_t (by decide) ⟨vm, ?_⟩
    rw [cm, em]
    refine br_c (fun z => h0 (fun w => w.1 ((nI_eq (b := 0) (by omega) (by decide)).mp z))) (fun z => h1 ⟨fun w => z (by rw [w]; rfl), hA⟩)
  | succ d ih =>
    intro j hj hA
    have cj : (nI j).toNatClampNeg = j := nI_clamp (by omega)
    have vj : vp_in (nI j) 30 := vp_in_nI (by omega) (by decide)
    obtain ⟨ej, hj64⟩ := hK j (by omega)
    refine br_f (nI_ge (b := 30) (by omega) (by decide)) ⟨vj, ?_⟩
    rw [cj, cm, ej, em]
    refine br_c (fun z => nm_r (nI_1 j) (ih (j + 1) (by omega) ?_)) (fun z => ⟨vj, vm, br_c (fun y => nm_r (nI_1 j) (ih (j + 1) (by omega) ?_)) (fun y => ⟨vj, vm, vj, br_c (fun x => h0 ?_) (fun x => nm_r (nI_1 j) (ih (j + 1) (by omega) ?_))⟩)⟩)
    · have z' : K j = 0 := (nI_eq (b := 0) (by omega) (by decide)).mp z
      exact lt_s hA (fun q => q.1 z')
    · have y' : K j = K m := (nI_eq (by omega) (by omega)).mp y
      exact lt_s hA (fun q => q.2.1 y')
    · exact fun w => w.2 j (by omega) ⟨fun q => z (by rw [q]; rfl), fun q => y (by rw [q]), (mr_andE hj64 hj64).mp x⟩
    · exact lt_s hA (fun q => x ((mr_andE hj64 hj64).mpr q.2.2))
theorem yn_ld {post : Int32 → Prop} {n t : Int32} {m : Nat} (hm : m < 30) (hK : ∀ j, j < 30 → ks j = nI (K j) ∧ K j < 64) (h1 : mr_L K 30 m → post 1) (h0 : ¬ mr_L K 30 m → post 0) :
    wpY_leads post (n, t, h, tp, pl, po, pn, o, g, tr, p, ks) (nI m) :=
  ⟨31, yn_ld_l hm hK h1 h0 30 0 rfl (fun m hm => absurd hm (Nat.not_lt_zero m))⟩
theorem yn_lead_l {post : Int32 → SY → Prop} {n t : Int32} (hK : ∀ j, j < 30 → ks j = nI (K j) ∧ K j < 64)
    (H : post (nI (mr_ct (mr_L K 30) 30)) (n, t, h, tp, pl, po, pn, o, g, tr, p, ks)) :
    ∀ (d j : Nat), j + d = 30 → wY_leading_8 post n t h tp pl po pn o g tr p ks (d + 1) (nI (mr_ct (mr_L K 30) j)) (nI j) := by
  intro d
  induction d with
  | zero =>
    intro j hj
    have ej : j = 30 := by omega
    subst ej
    exact br_t (by decide) H
  | succ d ih =>
    intro j hj
    have q := ih (j + 1) (by omega)
    refine br_f (nI_ge (b := 30) (by omega) (by decide)) (yn_ld (by omega) hK (fun y => br_f (by decide) (nm_r (nI_1 _) (nm_r (nI_1 j) ?_))) (fun y => br_t rfl (nm_r (nI_1 j) ?_)))
    · rw [mr_ct_t y] at q
      exact q
    · rw [mr_ct_f y] at q
      exact q
theorem mr_ct_c {P Q : Nat → Prop} (h : ∀ k, P k ↔ Q k) : ∀ n, mr_ct P n = mr_ct Q n := by
  intro n
  induction n with
  | zero => rfl
  | succ n ih =>
    by_cases hp : P n
    · rw [mr_ct_t hp, mr_ct_t ((h n).mp hp), ih]
    · rw [mr_ct_f hp, mr_ct_f (fun q => hp ((h n).mpr q)), ih]
theorem mr_L_30 (hV : mr_V o g N) : mr_ct (mr_L (mr_K o g N tr T) 30) 30 = mr_ct (mr_L (mr_K o g N tr T) (mr_ml o g N).length) (mr_ml o g N).length := by
  have h30 := mr_ml_30 hV
  have hx : ∀ m, mr_L (mr_K o g N tr T) 30 m ↔ mr_L (mr_K o g N tr T) (mr_ml o g N).length m := by
    intro m
    refine ⟨fun w => ⟨w.1, fun l hl => w.2 l (by omega)⟩, fun w => ⟨w.1, fun l hl hs => ?_⟩⟩
    by_cases e : l < (mr_ml o g N).length
    · exact w.2 l e hs
    · exact hs.1 (mr_K_0 (by omega) tr T)
  rw [mr_ct_c hx 30]
  exact mr_ct_x2 (fun k hk w => w.1 (mr_K_0 hk tr T)) h30
theorem yn_leading {post : Int32 → SY → Prop} (hV : mr_V o g N) (hT : mr_TI tr T)
    (H : ∀ h tp pl po pn p' ks', post (nI (mr_ct (mr_L (mr_K o g N tr T) (mr_ml o g N).length) (mr_ml o g N).length)) (nI N, nI T, h, tp, pl, po, pn, o, g, tr, p', ks')) :
    wpY_leading post (nI N, nI T, h, tp, pl, po, pn, o, g, tr, p, ks) := by
  unfold wpY_leading
  dsimp only
  have h64 := mr_64 hT.1
  refine yn_list hV hT (fun h1 tp1 pl1 po1 pn1 p1 ks1 hk => ⟨31, ?_⟩)
  refine yn_lead_l (K := mr_K o g N tr T) (fun j hj => ⟨hk j hj, ?_⟩) (by rw [mr_L_30 hV]; exact H h1 tp1 pl1 po1 pn1 p1 ks1) 30 0 rfl
  have := mr_K_lt o g N tr T j
  omega
end
end
section
theorem mr_C_i0 : ∀ c ∈ mr_C, c.1 = 0 → (-8 ≤ c.2 ∧ c.2 ≤ 7) := by decide +kernel
theorem mr_C_i8 : ∀ c ∈ mr_C, c.1 = 8 → (0 ≤ c.2 ∧ c.2 ≤ 3) := by decide +kernel
theorem mr_C_i9 : ∀ c ∈ mr_C, c.1 = 9 → (0 ≤ c.2 ∧ c.2 ≤ 9) := by decide +kernel
theorem mr_C_ib : ∀ c ∈ mr_C, 0 ≤ c.1 ∧ c.1 ≤ 9 := by decide +kernel
theorem mr_C_im : ∀ c ∈ mr_C, ¬ c.1 = 0 → ¬ c.1 = 8 → ¬ c.1 = 9 → (¬ c.1 < 1 ∧ ¬ 7 < c.1) := by decide +kernel
theorem mr_C_a0 {a : Int32} (h : ¬ a < -8) (h' : ¬ 7 < a) : ((0 : Int32), a) ∈ mr_C := by
  obtain ⟨j, hj, rfl⟩ := mr_in_of (Int32.not_lt.mp h) (Int32.not_lt.mp h')
  exact mr_C_0i j hj
theorem mr_C_a8 {a : Int32} (h : ¬ a < 0) (h' : a ≤ 3) : ((8 : Int32), a) ∈ mr_C := by
  obtain ⟨j, hj, rfl⟩ := nI_of2 (M := 3) (n := 3) (by decide) h h'
  exact mr_C_8i j (by omega)
theorem mr_C_a9 {a : Int32} (h : ¬ a < 0) (h' : a ≤ 9) : ((9 : Int32), a) ∈ mr_C := by
  obtain ⟨j, hj, rfl⟩ := nI_of2 (M := 9) (n := 9) (by decide) h h'
  exact mr_C_9i j (by omega)
theorem mr_C_am {op : Int32} (h : ¬ op < 0) (h0 : ¬ op = 0) (h' : op ≤ 7) : (op, (0 : Int32)) ∈ mr_C := by
  obtain ⟨j, hj, rfl⟩ := nI_of2 (M := 7) (n := 7) (by decide) h h'
  refine mr_C_m j (by omega) ?_
  rcases Nat.eq_zero_or_pos j with e | e
  · subst e
    exact absurd nI_0 h0
  · exact e
/-- the number that an instruction counts with -/
def mr_nm (op a : Int32) : Int32 := if op = 0 ∨ 7 < op then a else 0
theorem mr_nm_us {op a : Int32} (h : mr_us op) : a = mr_nm op a := by
  unfold mr_nm
  rw [if_pos]
  rcases h with e | e | e
  · exact Or.inl e
  · rw [e]; exact Or.inr (by decide)
  · rw [e]; exact Or.inr (by decide)
theorem mr_nm_m {op a : Int32} (h0 : ¬ op = 0) (h7 : ¬ 7 < op) : mr_nm op a = 0 := if_neg (fun z => z.elim h0 h7)
theorem mr_lt1 {op : Int32} (h : ¬ op < 1) : ¬ op < 0 := fun z => h (Int32.lt_trans z (by decide))
theorem xq_ins {post : Int32 → Prop} {op a : Int32} (h1 : (op, mr_nm op a) ∈ mr_C → post 1) (h0 : ¬ (op, mr_nm op a) ∈ mr_C → post 0) : wpX_isInstruction post op a := by
  refine br_c (fun e => ?_) (fun e0 => br_c (fun e => ?_) (fun e8 => br_c (fun e => ?_) (fun e9 => ?_)))
  · subst e
    have en : mr_nm 0 a = a := (mr_nm_us (Or.inl rfl)).symm
    rw [en] at h0 h1
    refine br_c (fun z => ⟨rfl, h0 (fun w => ?_)⟩) (fun z => br_c (fun y => ⟨rfl, h0 (fun w => ?_)⟩) (fun y => ⟨rfl, h1 (mr_C_a0 z y)⟩))
    · exact Int32.not_lt.mpr (mr_C_i0 _ w rfl).1 z
    · exact Int32.not_lt.mpr (mr_C_i0 _ w rfl).2 y
  · subst e
    have en : mr_nm 8 a = a := (mr_nm_us (Or.inr (Or.inl rfl))).symm
    rw [en] at h0 h1
    refine br_c (fun z => h0 (fun w => ?_)) (fun z => br_c (fun y => h0 (fun w => ?_)) (fun y => h1 (mr_C_a8 z (Int32.not_lt.mp y))))
    · exact Int32.not_lt.mpr (mr_C_i8 _ w rfl).1 z
    · exact Int32.not_lt.mpr (mr_C_i8 _ w rfl).2 y
  · subst e
    have en : mr_nm 9 a = a := (mr_nm_us (Or.inr (Or.inr rfl))).symm
    rw [en] at h0 h1
    refine br_c (fun z => h0 (fun w => ?_)) (fun z => br_c (fun y => h0 (fun w => ?_)) (fun y => h1 (mr_C_a9 z (Int32.not_lt.mp y))))
    · exact Int32.not_lt.mpr (mr_C_i9 _ w rfl).1 z
    · exact Int32.not_lt.mpr (mr_C_i9 _ w rfl).2 y
  · refine br_c (fun z => h0 (fun w => (mr_C_im _ w e0 e8 e9).1 z)) (fun z => br_c (fun y => h0 (fun w => (mr_C_im _ w e0 e8 e9).2 y)) (fun y => h1 ?_))
    rw [mr_nm_m e0 y]
    exact mr_C_am (mr_lt1 z) e0 (Int32.not_lt.mp y)
section
variable {N : Nat} {t h tp pl po pn : Int32} {o g tr p ks : Nat → Int32}
theorem yq_56 {post : Int32 → SY → Prop} {op a : Int32} (hN : N ≤ 10) (hF : N = 10 → post (-10002) (nI N, t, h, tp, pl, po, pn, o, g, tr, p, ks))
    (h1 : N < 10 → post (nI N) (nI (N + 1), t, h, tp, pl, po, pn, upd o N op, upd g N (mr_nm op a), tr, p, ks)) : wY_append_56 post op a (nI N) t h tp pl po pn o g tr p ks := by
  have cN : (nI N).toNatClampNeg = N := nI_clamp (by omega)
  refine pk_eq N 10 hF (fun z => ?_)
  have hlt : N < 10 := by omega
  have v : vp_in (nI N) 10 := vp_in_nI hlt (by decide)
  have key : ∀ b, b = mr_nm op a → wY_append_102 post b (nI N) (nI N) t h tp pl po pn (upd o N op) g tr p ks := by
    intro b eb
    refine ⟨v, fun x ex y ey => ?_⟩
    rw [ex, ey, cN, nI_1 N, nI_pred, eb]
    exact h1 hlt
  refine ⟨v, ?_⟩
  rw [cN]
  refine nm_e (br_c (fun e => key _ ?_) (fun e => br_c (fun y => key _ ?_) (fun y => key _ ?_)))
  · exact (if_pos (Or.inl e)).symm
  · exact (mr_nm_m e (Int32.not_lt.mpr y)).symm
  · exact (if_pos (Or.inr (Int32.not_le.mp y))).symm
theorem yq_ok {post : Int32 → SY → Prop} {op a : Int32} (hN : N ≤ 10) (hC : (op, mr_nm op a) ∈ mr_C) (hF : N = 10 → post (-10002) (nI N, t, h, tp, pl, po, pn, o, g, tr, p, ks))
    (h1 : N < 10 → post (nI N) (nI (N + 1), t, h, tp, pl, po, pn, upd o N op, upd g N (mr_nm op a), tr, p, ks)) : wpY_append post (nI N, t, h, tp, pl, po, pn, o, g, tr, p, ks) op a := by
  have k56 : wY_append_56 post op a (nI N) t h tp pl po pn o g tr p ks := yq_56 hN hF h1
  have hb := mr_C_ib _ hC
  refine br_f (Int32.not_lt.mpr hb.1) (br_f (Int32.not_lt.mpr hb.2) (br_c (fun e => ?_) (fun e => ?_)))
  · have en : mr_nm op a = a := (mr_nm_us (Or.inl e)).symm
    rw [en] at hC
    have q := mr_C_i0 _ hC e
    exact br_f (Int32.not_lt.mpr q.1) (br_f (Int32.not_lt.mpr q.2) (br_t (by rw [e]; decide) k56))
  · refine br_c (fun _ => k56) (fun z => ?_)
    have z7 : 7 < op := Int32.not_le.mp z
    have en : mr_nm op a = a := if_pos (Or.inr z7)
    rw [en] at hC
    by_cases e8 : op = 8
    · have q := mr_C_i8 _ hC e8
      exact br_f (Int32.not_lt.mpr q.1) (br_t e8 (br_t q.2 k56))
    · have e9 : op = 9 := by
        by_cases e9 : op = 9
        · exact e9
        · exact absurd z7 (mr_C_im _ hC e e8 e9).2
      have q := mr_C_i9 _ hC e9
      exact br_f (Int32.not_lt.mpr q.1) (br_f e8 (br_t q.2 k56))
theorem yq_no {post : Int32 → SY → Prop} {op a : Int32} (hC : ¬ (op, mr_nm op a) ∈ mr_C) (H : post (-10001) (nI N, t, h, tp, pl, po, pn, o, g, tr, p, ks)) :
    wpY_append post (nI N, t, h, tp, pl, po, pn, o, g, tr, p, ks) op a := by
  refine br_c (fun _ => H) (fun z0 => br_c (fun _ => H) (fun z9 => br_c (fun e => br_c (fun _ => H) (fun y => br_c (fun _ => H) (fun y' => absurd ?_ hC))) (fun e => br_c (fun y => absurd ?_ hC) (fun y => br_c (fun _ => H) (fun x => br_c (fun e8 => br_c (fun w => absurd ?_ hC) (fun _ => H)) (fun e8 => br_c (fun w => absurd ?_ hC) (fun _ => H)))))))
  · rw [← mr_nm_us (Or.inl e), e]
    exact mr_C_a0 y y'
  · rw [mr_nm_m e (Int32.not_lt.mpr y)]
    exact mr_C_am z0 e y
  · rw [← mr_nm_us (Or.inr (Or.inl e8)), e8]
    exact mr_C_a8 x w
  · have e9 : op = 9 := by
      obtain ⟨j, hj, rfl⟩ := nI_of2 (M := 9) (n := 9) (by decide) z0 (Int32.not_lt.mp z9)
      have y' : ¬ j ≤ 7 := fun q => y ((nI_leI (b := 7) (by omega) (by decide)).mpr q)
      have e8' : ¬ j = 8 := fun q => e8 (by rw [q]; rfl)
      have ej : j = 9 := by omega
      rw [ej]
      rfl
    rw [← mr_nm_us (Or.inr (Or.inr e9)), e9]
    exact mr_C_a9 x w
end
theorem mr_in_d (x : Int32) : (x < -8 ∨ 7 < x) ∨ ∃ q, q < 16 ∧ x = mr_in q := by
  by_cases h : x < -8
  · exact Or.inl (Or.inl h)
  · by_cases h' : 7 < x
    · exact Or.inl (Or.inr h')
    · exact Or.inr (mr_in_of (Int32.not_lt.mp h) (Int32.not_lt.mp h'))
theorem xq_in1 {post : Int32 → Prop} {q : Nat} (hq : q < 16) (H : post 1) : wpX_isInput post (mr_in q) :=
  br_f (Int32.not_lt.mpr (mr_in_b q hq).1) (br_f (Int32.not_lt.mpr (mr_in_b q hq).2.1) H)
theorem xq_in0 {post : Int32 → Prop} {x : Int32} (hx : x < -8 ∨ 7 < x) (H : post 0) : wpX_isInput post x :=
  br_c (fun _ => H) (fun z => br_t (hx.resolve_left z) H)
theorem yq_in0 {post : Int32 → Prop} {x n t h tp pl po pn : Int32} {o g tr p ks : Nat → Int32} (hx : x < -8 ∨ 7 < x) (H : post 0) : wpY_isInput post (n, t, h, tp, pl, po, pn, o, g, tr, p, ks) x :=
  br_c (fun _ => H) (fun z => br_t (hx.resolve_left z) H)
theorem mr_md (m : Int32) {L : Nat} (hL : L ≤ 30) : m < 0 ∨ (∃ j, j < 2 ^ 31 ∧ m = nI j ∧ L ≤ j) ∨ ∃ j, j < L ∧ m = nI j := by
  by_cases h : m < 0
  · exact Or.inl h
  · obtain ⟨j, hj, rfl⟩ := nI_of h
    by_cases h2 : j < L
    · exact Or.inr (Or.inr ⟨j, h2, rfl⟩)
    · exact Or.inr (Or.inl ⟨j, hj, rfl, by omega⟩)
section
variable {n t h nx : Int32} {o go tr mp mo mg ks p : Nat → Int32} {L T : Nat}
theorem xm_n {post : Int32 → Prop} {m : Int32} (hm : m < 0) (H : post 0) : wpX_isMutant post (n, t, nI L, h, nx, o, go, tr, mp, mo, mg, ks, p) m := br_t hm H
theorem xm_0 {post : Int32 → Prop} {j : Nat} (hj : j < 2 ^ 31) (hl : L ≤ j) (H : post 0) : wpX_isMutant post (n, t, nI L, h, nx, o, go, tr, mp, mo, mg, ks, p) (nI j) :=
  br_f (nI_pos hj) (br_t (nI_le hl hj) H)
theorem xm_1 {post : Int32 → Prop} {j : Nat} (hL : L ≤ 30) (hl : j < L) (H : post 1) : wpX_isMutant post (n, t, nI L, h, nx, o, go, tr, mp, mo, mg, ks, p) (nI j) :=
  br_f (nI_pos (by omega)) (br_f (nI_ge hl (by omega)) H)
theorem xt_l {post : Int32 → Prop} {mc x : Int32} (hT : T ≤ 6) (h1 : (∃ i, i < T ∧ tr i = x) → post 1) (h0 : (∀ i, i < T → ¬ tr i = x) → post 0) :
    ∀ (d j : Nat), j + d = T → (∀ i, i < j → ¬ tr i = x) → wX_isTrial_2 post x n (nI T) mc h nx o go tr mp mo mg ks p (d + 1) (nI j) := by
  intro d
  induction d with
  | zero =>
    intro j hj hA
    have ej : j = T := by omega
    subst ej
    exact br_t (nI_le (Nat.le_refl _) (by omega)) (h0 hA)
  | succ d ih =>
    intro j hj hA
    have cj : (nI j).toNatClampNeg = j := nI_clamp (by omega)
    refine br_f (nI_ge (by omega) (by omega)) ⟨vp_in_nI (by omega) (by decide), ?_⟩
    rw [cj]
    exact br_c (fun z => h1 ⟨j, by omega, z⟩) (fun z => nm_r (nI_1 j) (ih (j + 1) (by omega) (lt_s hA z)))
theorem xt_is {post : Int32 → Prop} {mc x : Int32} (hT : T ≤ 6) (h1 : (∃ i, i < T ∧ tr i = x) → post 1) (h0 : (∀ i, i < T → ¬ tr i = x) → post 0) :
    wpX_isTrial post (n, nI T, mc, h, nx, o, go, tr, mp, mo, mg, ks, p) x :=
  ⟨T + 1, xt_l hT h1 h0 T 0 (by omega) (fun i hi => absurd hi (Nat.not_lt_zero i))⟩
end
section
variable {n h tp pl po pn : Int32} {o g tr p ks : Nat → Int32} {T : Nat}
theorem yt_l {post : Int32 → SY → Prop} {x : Int32} (hT : T ≤ 6) (h1 : (∃ i, i < T ∧ tr i = x) → post (-10004) (n, nI T, h, tp, pl, po, pn, o, g, tr, p, ks))
    (hF : (∀ i, i < T → ¬ tr i = x) → T = 6 → post (-10002) (n, nI T, h, tp, pl, po, pn, o, g, tr, p, ks))
    (h0 : (∀ i, i < T → ¬ tr i = x) → T < 6 → post (nI (T + 1)) (n, nI (T + 1), h, tp, pl, po, pn, o, g, upd tr T x, p, ks)) :
    ∀ (d j : Nat), j + d = T → (∀ i, i < j → ¬ tr i = x) → wY_trial_14 post x n (nI T) h tp pl po pn o g tr p ks (d + 1) (nI j) := by
  intro d
  induction d with
  | zero =>
    intro j hj hA
    have ej : j = T := by omega
    subst ej
    have cj : (nI j).toNatClampNeg = j := nI_clamp (by omega)
    refine br_t (nI_le (Nat.le_refl _) (by omega)) (pk_eq j 6 (hF hA) (fun z => ⟨vp_in_nI (by omega) (by decide), ?_⟩))
    rw [cj]
    exact nm_e (nm_r (nI_1 j) (h0 hA (by omega)))
  | succ d ih =>
    intro j hj hA
    have cj : (nI j).toNatClampNeg = j := nI_clamp (by omega)
    refine br_f (nI_ge (by omega) (by omega)) ⟨vp_in_nI (by omega) (by decide), ?_⟩
    rw [cj]
    exact br_c (fun z => h1 ⟨j, by omega, z⟩) (fun z => nm_r (nI_1 j) (ih (j + 1) (by omega) (lt_s hA z)))
end
section
variable {N T : Nat} {n t h tp pl po pn : Int32} {o g tr p ks : Nat → Int32}
theorem yt_trial {post : Int32 → SY → Prop} {x : Int32} {q : Nat} (hT : T ≤ 6) (hq : q < 16) (eq : x = mr_in q) (h1 : (∃ i, i < T ∧ tr i = x) → post (-10004) (n, nI T, h, tp, pl, po, pn, o, g, tr, p, ks))
    (hF : (∀ i, i < T → ¬ tr i = x) → T = 6 → post (-10002) (n, nI T, h, tp, pl, po, pn, o, g, tr, p, ks))
    (h0 : (∀ i, i < T → ¬ tr i = x) → T < 6 → post (nI (T + 1)) (n, nI (T + 1), h, tp, pl, po, pn, o, g, upd tr T x, p, ks)) :
    wpY_trial post (n, nI T, h, tp, pl, po, pn, o, g, tr, p, ks) x := by
  have hl := yt_l hT h1 hF h0 T 0 (by omega) (fun i hi => absurd hi (Nat.not_lt_zero i))
  subst eq
  unfold wpY_trial
  dsimp only
  exact yk_in hq (br_f mr_n10 ⟨T + 1, hl⟩)
theorem yt_bad {post : Int32 → SY → Prop} {x : Int32} (hx : x < -8 ∨ 7 < x) (H : post (-10001) (n, t, h, tp, pl, po, pn, o, g, tr, p, ks)) : wpY_trial post (n, t, h, tp, pl, po, pn, o, g, tr, p, ks) x := by
  unfold wpY_trial
  dsimp only
  exact yq_in0 hx (br_t rfl H)
theorem yo_bad {post : Int32 → SY → Prop} {m x : Int32} (hx : x < -8 ∨ 7 < x) (H : post (-10001) (n, t, h, tp, pl, po, pn, o, g, tr, p, ks)) : wpY_outcomeOf post (n, t, h, tp, pl, po, pn, o, g, tr, p, ks) m x := by
  unfold wpY_outcomeOf
  dsimp only
  exact yq_in0 hx (br_t rfl H)
theorem yo_neg {post : Int32 → SY → Prop} {m : Int32} {q : Nat} (hq : q < 16) (hm : m < 0) (H : post (-10004) (nI N, t, h, tp, pl, po, pn, o, g, tr, p, ks)) : wpY_outcomeOf post (nI N, t, h, tp, pl, po, pn, o, g, tr, p, ks) m (mr_in q) := by
  unfold wpY_outcomeOf
  dsimp only
  exact yk_in hq (br_f mr_n10 (yf_findN hm (br_t rfl H)))
theorem yo_big {post : Int32 → SY → Prop} {j q : Nat} (hV : mr_V o g N) (hq : q < 16) (hj : j < 2 ^ 31) (hl : (mr_ml o g N).length ≤ j) (H : post (-10004) (nI N, t, h, tp, pl, po, pn, o, g, tr, p, ks)) : wpY_outcomeOf post (nI N, t, h, tp, pl, po, pn, o, g, tr, p, ks) (nI j) (mr_in q) := by
  unfold wpY_outcomeOf
  dsimp only
  exact yk_in hq (br_f mr_n10 (yf_find hV hj (fun e he => by rw [mr_ml_no hl] at he; cases he) (fun _ => br_t rfl H)))
end
theorem mr_ml_app {o g : Nat → Int32} {N : Nat} {op b : Int32} : mr_ml (upd o N op) (upd g N b) (N + 1) = mr_ml o g N ++ (mr_mk op b).map (fun e => (N, e)) := by
  rw [mr_ml, mr_ml_cg (o' := o) (g' := g) (fun i hi => pk_un (by omega)) (fun i hi => pk_un (by omega)), pk_us, pk_us]
end
section
/-- one program and one list of trials; what the runs leave behind is free on both sides -/
def i_Rel (k : Nat) (u : SX) (v : SY) : Prop :=
  ∃ (N T : Nat) (o g go tr mp mo mg ks q : Nat → Int32) (h nx h' tp pl po pn : Int32) (p' ks' : Nat → Int32), mr_XI o g go N mp mo mg ∧ mr_TI tr T ∧
    u = (nI N, nI T, nI (mr_ml o g N).length, h, nx, o, go, tr, mp, mo, mg, ks, q) ∧ v = (nI N, nI T, h', tp, pl, po, pn, o, g, tr, p', ks')
theorem mr_rel {k N T : Nat} {o g go tr mp mo mg ks q : Nat → Int32} {h nx h' tp pl po pn : Int32} {p' ks' : Nat → Int32} (hX : mr_XI o g go N mp mo mg) (hT : mr_TI tr T) :
    i_Rel k (nI N, nI T, nI (mr_ml o g N).length, h, nx, o, go, tr, mp, mo, mg, ks, q) (nI N, nI T, h', tp, pl, po, pn, o, g, tr, p', ks') :=
  ⟨N, T, o, g, go, tr, mp, mo, mg, ks, q, h, nx, h', tp, pl, po, pn, p', ks', hX, hT, rfl, rfl⟩
theorem i_up {k : Nat} {u : SX} {v : SY} (h : i_Rel k u v) : i_Rel (k + 3) u v := h
theorem i_vc0 : wpX_init (fun u => wpY_init (fun v => i_Rel 0 u v)) := by
  unfold wpX_init
  refine xa_ins (N := 0) (l := []) (op := 1) (a := 0) (a' := 0) (by decide) (by decide) (fun j e he => by cases he) (mr_C_m 1 (by decide) (by decide)) (fun _ => rfl) (fun mp' mo' mg' hM => nm_e ?_)
  have e : mr_ml (upd (fun _ => 0) 0 1) (fun _ => 0) 1 = [] ++ (mr_mk 1 0).map (fun e => (0, e)) := rfl
  refine ⟨1, 0, upd (fun _ => 0) 0 1, fun _ => 0, upd (fun _ => 0) 0 0, fun _ => 0, mp', mo', mg', fun _ => 0, fun _ => 0, 0, 0, 0, 0, 0, 0, 0, fun _ => 0, fun _ => 0, ⟨⟨by decide, fun i hi => ?_⟩, fun i hi hu => ?_, ?_⟩, ⟨by decide, fun i hi => absurd hi (Nat.not_lt_zero i)⟩, ?_, rfl⟩
  · have ei : i = 0 := by omega
    subst ei
    exact mr_C_m 1 (by decide) (by decide)
  · have ei : i = 0 := by omega
    subst ei
    rfl
  · rw [e]
    exact hM
  · rw [e]
    rfl
theorem i_vc_begin {k : Nat} {u : SX} {v : SY} (I : i_Rel k u v) (hk : k + 3 ≤ 1536) : wpX_begin (fun u' => wpY_begin (fun v' => i_Rel (k + 3) u' v') v) u := by
  obtain ⟨N, T, o, g, go, tr, mp, mo, mg, ks, q, h, nx, h', tp, pl, po, pn, p', ks', hX, hT, rfl, rfl⟩ := I
  have hX0 : mr_XI o g go 0 mp mo mg := ⟨⟨by decide, fun i hi => absurd hi (Nat.not_lt_zero i)⟩, fun i hi => absurd hi (Nat.not_lt_zero i), fun j e he => by cases he⟩
  exact mr_rel (k := k + 3) hX0 hT
theorem i_vc_append {k : Nat} {u : SX} {v : SY} (I : i_Rel k u v) (hk : k + 3 ≤ 1536) (v1 : Int32) (v2 : Int32) : wpX_append (fun r u' => wpY_append (fun r' v' => r' = r ∧ i_Rel (k + 3) u' v') v v1 v2) u v1 v2 := by
  obtain ⟨N, T, o, g, go, tr, mp, mo, mg, ks, q, h, nx, h', tp, pl, po, pn, p', ks', hX, hT, rfl, rfl⟩ := I
  have hN := hX.1.1
  have hl := mr_ml_len hX.1.2
  unfold wpX_append
  dsimp only
  refine xq_ins (fun hC => br_f mr_n10 (pk_lt N 10 (fun z => xa_ins z (by omega) hX.2.2 hC (fun hu => mr_nm_us hu) (fun mp' mo' mg' hM => ?_)) (fun z => yq_ok hN hC (fun _ => ⟨rfl, mr_rel hX hT⟩) (fun y => absurd y (by omega))))) (fun hC => br_t rfl (yq_no hC ⟨rfl, mr_rel hX hT⟩))
  dsimp only
  rw [nI_pred]
  refine yq_ok hN hC (fun y => absurd y (by omega)) (fun _ => ⟨rfl, ?_⟩)
  have hX' : mr_XI (upd o N v1) (upd g N (mr_nm v1 v2)) (upd go N v2) (N + 1) mp' mo' mg' := by
    refine ⟨⟨by omega, fun i hi => ?_⟩, fun i hi hu => ?_, by rw [mr_ml_app]; exact hM⟩
    · by_cases ei : i = N
      · subst ei
        rw [pk_us, pk_us]
        exact hC
      · rw [pk_un ei, pk_un ei]
        exact hX.1.2 i (by omega)
    · by_cases ei : i = N
      · subst ei
        rw [pk_us] at hu
        rw [pk_us, pk_us]
        exact mr_nm_us hu
      · rw [pk_un ei] at hu
        rw [pk_un ei, pk_un ei]
        exact hX.2.1 i (by omega) hu
  have w := mr_rel (k := k + 3) (ks := ks) (q := q) (h := h) (nx := nx) (h' := h') (tp := tp) (pl := pl) (po := po) (pn := pn) (p' := p') (ks' := ks') hX' hT
  rw [mr_ml_app] at w
  exact w
theorem i_vc_size {k : Nat} {u : SX} {v : SY} (I : i_Rel k u v) (hk : k + 3 ≤ 1536) : wpX_size (fun r => wpY_size (fun r' => r' = r ∧ i_Rel (k + 3) u v) v) u := by
  have J := i_up I
  obtain ⟨N, T, o, g, go, tr, mp, mo, mg, ks, q, h, nx, h', tp, pl, po, pn, p', ks', hX, hT, rfl, rfl⟩ := I
  exact ⟨rfl, J⟩
theorem i_vc_outcome {k : Nat} {u : SX} {v : SY} (I : i_Rel k u v) (hk : k + 3 ≤ 1536) (v1 : Int32) : wpX_outcome (fun r u' => wpY_outcome (fun r' v' => r' = r ∧ i_Rel (k + 3) u' v') v v1) u v1 := by
  obtain ⟨N, T, o, g, go, tr, mp, mo, mg, ks, q, h, nx, h', tp, pl, po, pn, p', ks', hX, hT, rfl, rfl⟩ := I
  unfold wpX_outcome wpY_outcome
  dsimp only
  rcases mr_in_d v1 with hb | ⟨j, hj, rfl⟩
  · exact xq_in0 hb (br_t rfl (yq_in0 hb (br_t rfl ⟨rfl, mr_rel hX hT⟩)))
  · exact xq_in1 hj (br_f mr_n10 (xk_r0 hX (mr_rg_in j hj) (fun h1 nx1 q1 => yk_in hj (br_f mr_n10 (yk_prog hX.1 (mr_rg_in j hj) (fun h2 tp2 pl2 po2 pn2 p2 => ⟨rfl, mr_rel hX hT⟩))))))
theorem i_vc_trial {k : Nat} {u : SX} {v : SY} (I : i_Rel k u v) (hk : k + 3 ≤ 1536) (v1 : Int32) : wpX_trial (fun r u' => wpY_trial (fun r' v' => r' = r ∧ i_Rel (k + 3) u' v') v v1) u v1 := by
  obtain ⟨N, T, o, g, go, tr, mp, mo, mg, ks, q, h, nx, h', tp, pl, po, pn, p', ks', hX, hT, rfl, rfl⟩ := I
  have hT6 := hT.1
  unfold wpX_trial
  dsimp only
  rcases mr_in_d v1 with hb | ⟨j, hj, ej⟩
  · exact xq_in0 hb (br_t rfl (yt_bad hb ⟨rfl, mr_rel hX hT⟩))
  · have cT : (nI T).toNatClampNeg = T := nI_clamp (by omega)
    rw [cT]
    have hx : ∀ post : Int32 → Prop, post 1 → wpX_isInput post v1 := by
      intro post H
      rw [ej]
      exact xq_in1 hj H
    refine hx _ (br_f mr_n10 (xt_is hT6 (fun hi => br_f mr_n10 ?_) (fun hn => br_t rfl ?_)))
    · have hc : ¬ ∀ i, i < T → ¬ tr i = v1 := fun hn => by
        obtain ⟨i, a, b⟩ := hi
        exact hn i a b
      exact yt_trial hT6 hj ej (fun _ => ⟨rfl, mr_rel hX hT⟩) (fun hn => absurd hn hc) (fun hn => absurd hn hc)
    · have hno : ¬ ∃ i, i < T ∧ tr i = v1 := fun w => by
        obtain ⟨i, a, b⟩ := w
        exact hn i a b
      refine pk_lt T 6 (fun z => ⟨vp_in_nI z (by decide), nm_e (nm_r (nI_1 T) ?_)⟩) (fun z => ?_)
      · refine yt_trial hT6 hj ej (fun w => absurd w hno) (fun _ w => absurd w (by omega)) (fun _ _ => ⟨rfl, mr_rel hX ⟨by omega, fun i hi => ?_⟩⟩)
        by_cases ei : i = T
        · subst ei
          exact ⟨j, hj, by rw [pk_us]; exact ej⟩
        · rw [pk_un ei]
          exact hT.2 i (by omega)
      · exact yt_trial hT6 hj ej (fun w => absurd w hno) (fun _ _ => ⟨rfl, mr_rel hX hT⟩) (fun _ w => absurd w (by omega))
theorem i_vc_clearTrials {k : Nat} {u : SX} {v : SY} (I : i_Rel k u v) (hk : k + 3 ≤ 1536) : wpX_clearTrials (fun u' => wpY_clearTrials (fun v' => i_Rel (k + 3) u' v') v) u := by
  obtain ⟨N, T, o, g, go, tr, mp, mo, mg, ks, q, h, nx, h', tp, pl, po, pn, p', ks', hX, hT, rfl, rfl⟩ := I
  have hT0 : mr_TI tr 0 := ⟨by decide, fun i hi => absurd hi (Nat.not_lt_zero i)⟩
  exact mr_rel (k := k + 3) hX hT0
theorem i_vc_mutants {k : Nat} {u : SX} {v : SY} (I : i_Rel k u v) (hk : k + 3 ≤ 1536) : wpX_mutants (fun r => wpY_mutants (fun r' => r' = r ∧ i_Rel (k + 3) u v) v) u := by
  have J := i_up I
  obtain ⟨N, T, o, g, go, tr, mp, mo, mg, ks, q, h, nx, h', tp, pl, po, pn, p', ks', hX, hT, rfl, rfl⟩ := I
  exact yf_mut hX.1 ⟨rfl, J⟩
theorem i_vc_mutantAt {k : Nat} {u : SX} {v : SY} (I : i_Rel k u v) (hk : k + 3 ≤ 1536) (v1 : Int32) : wpX_mutantAt (fun r => wpY_mutantAt (fun r' v' => r' = r ∧ i_Rel (k + 3) u v') v v1) u v1 := by
  obtain ⟨N, T, o, g, go, tr, mp, mo, mg, ks, q, h, nx, h', tp, pl, po, pn, p', ks', hX, hT, rfl, rfl⟩ := I
  have h30 := mr_ml_30 hX.1
  unfold wpX_mutantAt wpY_mutantAt
  dsimp only
  rcases mr_md v1 h30 with hm | ⟨j, hj, rfl, hl⟩ | ⟨j, hl, rfl⟩
  · exact xm_n hm (br_t rfl (yf_findN hm (br_t rfl ⟨rfl, mr_rel hX hT⟩)))
  · exact xm_0 hj hl (br_t rfl (yf_find hX.1 hj (fun e he => by rw [mr_ml_no hl] at he; cases he) (fun _ => br_t rfl ⟨rfl, mr_rel hX hT⟩)))
  · have cj : (nI j).toNatClampNeg = j := nI_clamp (by omega)
    refine xm_1 h30 hl (br_f mr_n10 ⟨vp_in_nI (by omega) (by decide), ?_⟩)
    rw [cj]
    exact yf_find hX.1 (by omega) (fun e he => br_f mr_n10 ⟨((hX.2.2 j e he).1).symm, mr_rel hX hT⟩) (fun w => absurd w (by omega))
theorem i_vc_mutantOp {k : Nat} {u : SX} {v : SY} (I : i_Rel k u v) (hk : k + 3 ≤ 1536) (v1 : Int32) : wpX_mutantOp (fun r => wpY_mutantOp (fun r' v' => r' = r ∧ i_Rel (k + 3) u v') v v1) u v1 := by
  obtain ⟨N, T, o, g, go, tr, mp, mo, mg, ks, q, h, nx, h', tp, pl, po, pn, p', ks', hX, hT, rfl, rfl⟩ := I
  have h30 := mr_ml_30 hX.1
  unfold wpX_mutantOp wpY_mutantOp
  dsimp only
  rcases mr_md v1 h30 with hm | ⟨j, hj, rfl, hl⟩ | ⟨j, hl, rfl⟩
  · exact xm_n hm (br_t rfl (yf_findN hm (br_t rfl ⟨rfl, mr_rel hX hT⟩)))
  · exact xm_0 hj hl (br_t rfl (yf_find hX.1 hj (fun e he => by rw [mr_ml_no hl] at he; cases he) (fun _ => br_t rfl ⟨rfl, mr_rel hX hT⟩)))
  · have cj : (nI j).toNatClampNeg = j := nI_clamp (by omega)
    refine xm_1 h30 hl (br_f mr_n10 ⟨vp_in_nI (by omega) (by decide), ?_⟩)
    rw [cj]
    exact yf_find hX.1 (by omega) (fun e he => br_f mr_n10 ⟨((hX.2.2 j e he).2.1).symm, mr_rel hX hT⟩) (fun w => absurd w (by omega))
theorem i_vc_mutantNumber {k : Nat} {u : SX} {v : SY} (I : i_Rel k u v) (hk : k + 3 ≤ 1536) (v1 : Int32) : wpX_mutantNumber (fun r => wpY_mutantNumber (fun r' v' => r' = r ∧ i_Rel (k + 3) u v') v v1) u v1 := by
  obtain ⟨N, T, o, g, go, tr, mp, mo, mg, ks, q, h, nx, h', tp, pl, po, pn, p', ks', hX, hT, rfl, rfl⟩ := I
  have h30 := mr_ml_30 hX.1
  unfold wpX_mutantNumber wpY_mutantNumber
  dsimp only
  rcases mr_md v1 h30 with hm | ⟨j, hj, rfl, hl⟩ | ⟨j, hl, rfl⟩
  · exact xm_n hm (br_t rfl (yf_findN hm (br_t rfl ⟨rfl, mr_rel hX hT⟩)))
  · exact xm_0 hj hl (br_t rfl (yf_find hX.1 hj (fun e he => by rw [mr_ml_no hl] at he; cases he) (fun _ => br_t rfl ⟨rfl, mr_rel hX hT⟩)))
  · have cj : (nI j).toNatClampNeg = j := nI_clamp (by omega)
    refine xm_1 h30 hl (br_f mr_n10 ⟨vp_in_nI (by omega) (by decide), ?_⟩)
    rw [cj]
    exact yf_find hX.1 (by omega) (fun e he => br_f mr_n10 ⟨((hX.2.2 j e he).2.2).symm, mr_rel hX hT⟩) (fun w => absurd w (by omega))
theorem i_vc_outcomeOf {k : Nat} {u : SX} {v : SY} (I : i_Rel k u v) (hk : k + 3 ≤ 1536) (v1 : Int32) (v2 : Int32) : wpX_outcomeOf (fun r u' => wpY_outcomeOf (fun r' v' => r' = r ∧ i_Rel (k + 3) u' v') v v1 v2) u v1 v2 := by
  obtain ⟨N, T, o, g, go, tr, mp, mo, mg, ks, q, h, nx, h', tp, pl, po, pn, p', ks', hX, hT, rfl, rfl⟩ := I
  have h30 := mr_ml_30 hX.1
  unfold wpX_outcomeOf
  dsimp only
  rcases mr_in_d v2 with hb | ⟨i, hi, rfl⟩
  · exact xq_in0 hb (br_t rfl (yo_bad hb ⟨rfl, mr_rel hX hT⟩))
  · refine xq_in1 hi (br_f mr_n10 ?_)
    rcases mr_md v1 h30 with hm | ⟨j, hj, rfl, hl⟩ | ⟨j, hl, rfl⟩
    · exact xm_n hm (br_t rfl (yo_neg hi hm ⟨rfl, mr_rel hX hT⟩))
    · exact xm_0 hj hl (br_t rfl (yo_big hX.1 hi hj hl ⟨rfl, mr_rel hX hT⟩))
    · obtain ⟨e, he⟩ := mr_ml_lt hl
      exact xm_1 h30 hl (br_f mr_n10 (xk_r1 hX he (mr_rg_in i hi) (fun h1 nx1 q1 => yk_out hX.1 he hi rfl (fun h2 tp2 pl2 po2 pn2 p2 => ⟨rfl, mr_rel hX hT⟩))))
theorem i_vc_killers {k : Nat} {u : SX} {v : SY} (I : i_Rel k u v) (hk : k + 3 ≤ 1536) (v1 : Int32) : wpX_killers (fun r u' => wpY_killers (fun r' v' => r' = r ∧ i_Rel (k + 3) u' v') v v1) u v1 := by
  obtain ⟨N, T, o, g, go, tr, mp, mo, mg, ks, q, h, nx, h', tp, pl, po, pn, p', ks', hX, hT, rfl, rfl⟩ := I
  have h30 := mr_ml_30 hX.1
  unfold wpX_killers
  dsimp only
  rcases mr_md v1 h30 with hm | ⟨j, hj, rfl, hl⟩ | ⟨j, hl, rfl⟩
  · exact xm_n hm (br_t rfl (yf_findN hm (br_t rfl ⟨rfl, mr_rel hX hT⟩)))
  · exact xm_0 hj hl (br_t rfl (yk_set hX.1 hT hj (fun e he => by rw [mr_ml_no hl] at he; cases he) (fun _ h2 tp2 pl2 po2 pn2 p2 => ⟨rfl, mr_rel hX hT⟩)))
  · obtain ⟨e, he⟩ := mr_ml_lt hl
    exact xm_1 h30 hl (br_f mr_n10 (xk_set hX hT he (fun h1 nx1 q1 => yk_set hX.1 hT (by omega) (fun e' he' h2 tp2 pl2 po2 pn2 p2 => ⟨by rw [he] at he'; cases he'; rfl, mr_rel hX hT⟩) (fun w => absurd w (by omega)))))
theorem i_vc_killed {k : Nat} {u : SX} {v : SY} (I : i_Rel k u v) (hk : k + 3 ≤ 1536) : wpX_killed (fun r u' => wpY_killed (fun r' v' => r' = r ∧ i_Rel (k + 3) u' v') v) u := by
  obtain ⟨N, T, o, g, go, tr, mp, mo, mg, ks, q, h, nx, h', tp, pl, po, pn, p', ks', hX, hT, rfl, rfl⟩ := I
  exact xk_killed hX hT (fun h1 nx1 q1 => yk_killed hX.1 hT (fun h2 tp2 pl2 po2 pn2 p2 => ⟨rfl, mr_rel hX hT⟩))
theorem i_vc_equalOnes {k : Nat} {u : SX} {v : SY} (I : i_Rel k u v) (hk : k + 3 ≤ 1536) : wpX_equalOnes (fun r u' => wpY_equalOnes (fun r' v' => r' = r ∧ i_Rel (k + 3) u' v') v) u := by
  obtain ⟨N, T, o, g, go, tr, mp, mo, mg, ks, q, h, nx, h', tp, pl, po, pn, p', ks', hX, hT, rfl, rfl⟩ := I
  exact xk_equal hX (fun h1 nx1 q1 => yk_equal hX.1 (fun h2 tp2 pl2 po2 pn2 p2 => ⟨rfl, mr_rel hX hT⟩))
theorem i_vc_killer {k : Nat} {u : SX} {v : SY} (I : i_Rel k u v) (hk : k + 3 ≤ 1536) (v1 : Int32) : wpX_killer (fun r u' => wpY_killer (fun r' v' => r' = r ∧ i_Rel (k + 3) u' v') v v1) u v1 := by
  obtain ⟨N, T, o, g, go, tr, mp, mo, mg, ks, q, h, nx, h', tp, pl, po, pn, p', ks', hX, hT, rfl, rfl⟩ := I
  have h30 := mr_ml_30 hX.1
  unfold wpX_killer
  dsimp only
  rcases mr_md v1 h30 with hm | ⟨j, hj, rfl, hl⟩ | ⟨j, hl, rfl⟩
  · exact xm_n hm (br_t rfl (yf_findN hm (br_t rfl ⟨rfl, mr_rel hX hT⟩)))
  · exact xm_0 hj hl (br_t rfl (yk_lk hX.1 hj (fun e he => by rw [mr_ml_no hl] at he; cases he) (fun _ h2 tp2 pl2 po2 pn2 p2 => ⟨rfl, mr_rel hX hT⟩)))
  · obtain ⟨e, he⟩ := mr_ml_lt hl
    exact xm_1 h30 hl (br_f mr_n10 (xk_lk hX he (fun h1 nx1 q1 => yk_lk hX.1 (by omega) (fun e' he' h2 tp2 pl2 po2 pn2 p2 => ⟨by rw [he] at he'; cases he'; rfl, mr_rel hX hT⟩) (fun w => absurd w (by omega)))))
theorem i_vc_needed {k : Nat} {u : SX} {v : SY} (I : i_Rel k u v) (hk : k + 3 ≤ 1536) : wpX_needed (fun r u' => wpY_needed (fun r' v' => r' = r ∧ i_Rel (k + 3) u' v') v) u := by
  obtain ⟨N, T, o, g, go, tr, mp, mo, mg, ks, q, h, nx, h', tp, pl, po, pn, p', ks', hX, hT, rfl, rfl⟩ := I
  exact xn_needed hX hT (fun r h1 nx1 ks1 q1 hr => yn_needed hX.1 hT (fun r' h2 tp2 pl2 po2 pn2 p2 ks2 hr' => ⟨by rw [mr_Min_u hr hr'], mr_rel hX hT⟩))
theorem i_vc_leading {k : Nat} {u : SX} {v : SY} (I : i_Rel k u v) (hk : k + 3 ≤ 1536) : wpX_leading (fun r u' => wpY_leading (fun r' v' => r' = r ∧ i_Rel (k + 3) u' v') v) u := by
  obtain ⟨N, T, o, g, go, tr, mp, mo, mg, ks, q, h, nx, h', tp, pl, po, pn, p', ks', hX, hT, rfl, rfl⟩ := I
  exact xn_leading hX hT (fun h1 nx1 ks1 q1 => yn_leading hX.1 hT (fun h2 tp2 pl2 po2 pn2 p2 ks2 => ⟨rfl, mr_rel hX hT⟩))
theorem i_vc_numbers {k : Nat} {u : SX} {v : SY} (I : i_Rel k u v) (hk : k + 3 ≤ 1536) : wpX_numbers (fun r u' => wpY_numbers (fun r' v' => r' = r ∧ i_Rel (k + 3) u' v') v) u := by
  obtain ⟨N, T, o, g, go, tr, mp, mo, mg, ks, q, h, nx, h', tp, pl, po, pn, p', ks', hX, hT, rfl, rfl⟩ := I
  exact xk_num hX (fun h1 nx1 q1 => yk_num hX.1 (fun h2 tp2 pl2 po2 pn2 p2 => ⟨rfl, mr_rel hX hT⟩))
end
