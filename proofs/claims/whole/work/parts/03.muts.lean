/-! the mutants of an instruction, of a program -/
def mr_mk (op a : Int32) : List (Int32 × Int32) :=
  if op = 0 then (if a < 7 then [((0 : Int32), a + 1)] else []) ++ (if -8 < a then [((0 : Int32), a - 1)] else [])
  else if op = 8 then (if a < 3 then [((8 : Int32), a + 1)] else []) ++ (if 0 < a then [((8 : Int32), a - 1)] else [])
  else if op = 9 then (if 0 < a then [((9 : Int32), a - 1)] else [])
  else if op = 1 then [(0, 0)]
  else if op = 6 then [(1, 0)]
  else if op = 7 then [(6, 0)]
  else if op = 2 then [(3, 0), (4, 0), (5, 0)]
  else if op = 3 then [(2, 0), (4, 0), (5, 0)]
  else if op = 4 then [(2, 0), (3, 0), (5, 0)]
  else [(2, 0), (3, 0), (4, 0)]
theorem mr_mk_len : ∀ c ∈ mr_C, (mr_mk c.1 c.2).length ≤ 3 := by decide +kernel
theorem mr_mk_C : ∀ c ∈ mr_C, ∀ d ∈ mr_mk c.1 c.2, d ∈ mr_C := by decide +kernel
def mr_ml (o g : Nat → Int32) : Nat → List (Nat × Int32 × Int32)
  | 0 => []
  | n + 1 => mr_ml o g n ++ (mr_mk (o n) (g n)).map (fun q => (n, q))
theorem mr_ml_len {o g : Nat → Int32} : ∀ {n : Nat}, (∀ i, i < n → (o i, g i) ∈ mr_C) → (mr_ml o g n).length ≤ 3 * n := by
  intro n
  induction n with
  | zero => intro _; exact Nat.le_refl 0
  | succ n ih =>
    intro h
    have h1 := ih (fun i hi => h i (by omega))
    have h2 := mr_mk_len _ (h n (by omega))
    have h3 : (mr_mk (o n) (g n)).length ≤ 3 := h2
    rw [mr_ml, List.length_append, List.length_map]
    omega
theorem mr_ml_cg {o g o' g' : Nat → Int32} : ∀ {n : Nat}, (∀ i, i < n → o i = o' i) → (∀ i, i < n → g i = g' i) → mr_ml o g n = mr_ml o' g' n := by
  intro n
  induction n with
  | zero => intro _ _; rfl
  | succ n ih =>
    intro h1 h2
    rw [mr_ml, mr_ml, ih (fun i hi => h1 i (by omega)) (fun i hi => h2 i (by omega)), h1 n (by omega), h2 n (by omega)]
theorem mr_ml_pre {o g : Nat → Int32} {i m : Nat} {e : Nat × Int32 × Int32} (he : (mr_ml o g i)[m]? = some e) : ∀ d, (mr_ml o g (i + d))[m]? = some e := by
  intro d
  induction d with
  | zero => exact he
  | succ d ih =>
    obtain ⟨hl, _⟩ := List.getElem?_eq_some_iff.mp ih
    show (mr_ml o g (i + d) ++ _)[m]? = _
    rw [List.getElem?_append_left hl]
    exact ih
theorem mr_ml_at {o g : Nat → Int32} {i l : Nat} {q : Int32 × Int32} (hq : (mr_mk (o i) (g i))[l]? = some q) : (mr_ml o g (i + 1))[(mr_ml o g i).length + l]? = some (i, q) := by
  rw [mr_ml, List.getElem?_append_right (Nat.le_add_right _ _), Nat.add_sub_cancel_left, List.getElem?_map, hq]
  rfl
theorem mr_ml_V {o g : Nat → Int32} : ∀ {n : Nat}, (∀ i, i < n → (o i, g i) ∈ mr_C) → ∀ e ∈ mr_ml o g n, e.1 < n ∧ e.2 ∈ mr_C := by
  intro n
  induction n with
  | zero => intro _ e he; cases he
  | succ n ih =>
    intro h e he
    rw [mr_ml] at he
    rcases List.mem_append.mp he with h1 | h1
    · obtain ⟨a, b⟩ := ih (fun i hi => h i (by omega)) e h1
      exact ⟨by omega, b⟩
    · obtain ⟨q, hq, rfl⟩ := List.mem_map.mp h1
      exact ⟨Nat.lt_succ_self n, mr_mk_C _ (h n (by omega)) q hq⟩
/-- a program (none) or a mutant of it -/
def mr_po (o : Nat → Int32) : Option (Nat × Int32 × Int32) → Nat → Int32
  | none => o
  | some e => upd o e.1 e.2.1
def mr_pg (g : Nat → Int32) : Option (Nat × Int32 × Int32) → Nat → Int32
  | none => g
  | some e => upd g e.1 e.2.2
theorem mr_po_V {o g : Nat → Int32} {n : Nat} {e : Option (Nat × Int32 × Int32)} (h : mr_V o g n) (he : ∀ x, e = some x → x.2 ∈ mr_C) : mr_V (mr_po o e) (mr_pg g e) n := by
  cases e with
  | none => exact h
  | some x =>
    refine ⟨h.1, fun i hi => ?_⟩
    show (upd o x.1 x.2.1 i, upd g x.1 x.2.2 i) ∈ mr_C
    by_cases hx : i = x.1
    · subst hx
      rw [pk_us, pk_us]
      exact he x rfl
    · rw [pk_un hx, pk_un hx]
      exact h.2 i hi
def mr_R (o g : Nat → Int32) (n : Nat) (e : Option (Nat × Int32 × Int32)) (inp : Int32) : Int32 := mr_run (mr_po o e) (mr_pg g e) n inp 40 0 []
theorem mr_ml_e {o g : Nat → Int32} {n m : Nat} {e : Nat × Int32 × Int32} (h : mr_V o g n) (he : (mr_ml o g n)[m]? = some e) : e.1 < n ∧ e.2 ∈ mr_C :=
  mr_ml_V h.2 e (List.mem_of_getElem? he)
theorem mr_ml_30 {o g : Nat → Int32} {n : Nat} (h : mr_V o g n) : (mr_ml o g n).length ≤ 30 := by
  have := mr_ml_len h.2
  have := h.1
  omega
theorem mr_ml_lt {o g : Nat → Int32} {n m : Nat} (h : m < (mr_ml o g n).length) : ∃ e, (mr_ml o g n)[m]? = some e := ⟨_, List.getElem?_eq_getElem h⟩
theorem mr_ml_no {o g : Nat → Int32} {n m : Nat} (h : (mr_ml o g n).length ≤ m) : (mr_ml o g n)[m]? = none := List.getElem?_eq_none h
/-! killer sets -/
def mr_ks (A B : Nat → Int32) : Nat → Nat
  | 0 => 0
  | t + 1 => mr_ks A B t + (if A t = B t then 0 else 2 ^ t)
theorem mr_ks_lt (A B : Nat → Int32) : ∀ t, mr_ks A B t < 2 ^ t := by
  intro t
  induction t with
  | zero => exact Nat.zero_lt_one
  | succ t ih =>
    rw [mr_ks, Nat.pow_succ]
    split <;> omega
def mr_KE (o g : Nat → Int32) (n : Nat) (tr : Nat → Int32) (t : Nat) (e : Nat × Int32 × Int32) : Nat :=
  mr_ks (fun j => mr_R o g n (some e) (tr j)) (fun j => mr_R o g n none (tr j)) t
def mr_K (o g : Nat → Int32) (n : Nat) (tr : Nat → Int32) (t : Nat) (m : Nat) : Nat := ((mr_ml o g n)[m]?).elim 0 (fun e => mr_KE o g n tr t e)
theorem mr_K_lt (o g : Nat → Int32) (n : Nat) (tr : Nat → Int32) (t : Nat) (m : Nat) : mr_K o g n tr t m < 2 ^ t := by
  unfold mr_K
  cases (mr_ml o g n)[m]? with
  | none => exact Nat.two_pow_pos t
  | some e => exact mr_ks_lt _ _ t
theorem mr_K_s {o g : Nat → Int32} {n m : Nat} {e : Nat × Int32 × Int32} (he : (mr_ml o g n)[m]? = some e) (tr : Nat → Int32) (t : Nat) : mr_K o g n tr t m = mr_KE o g n tr t e := by
  unfold mr_K
  rw [he]
  rfl
theorem mr_K_0 {o g : Nat → Int32} {n m : Nat} (h : (mr_ml o g n).length ≤ m) (tr : Nat → Int32) (t : Nat) : mr_K o g n tr t m = 0 := by
  unfold mr_K
  rw [mr_ml_no h]
  rfl
theorem mr_64 {t : Nat} (ht : t ≤ 6) : 2 ^ t ≤ 64 := (mr_p2 t (by omega)).2
/-- the least input at which A and B differ, of the k inputs from the j-th -/
def mr_lk (A B : Nat → Int32) : Nat → Nat → Int32
  | 0, _ => -10004
  | k + 1, j => if A j = B j then mr_lk A B k (j + 1) else mr_in j
/-- how many below k -/
noncomputable def mr_ct (P : Nat → Prop) : Nat → Nat
  | 0 => 0
  | k + 1 => mr_ct P k + @ite Nat (P k) (Classical.propDecidable _) 1 0
theorem mr_ct_t {P : Nat → Prop} {k : Nat} (h : P k) : mr_ct P (k + 1) = mr_ct P k + 1 := by
  rw [mr_ct, if_pos h]
theorem mr_ct_f {P : Nat → Prop} {k : Nat} (h : ¬ P k) : mr_ct P (k + 1) = mr_ct P k := by
  rw [mr_ct, if_neg h, Nat.add_zero]
theorem mr_ct_le (P : Nat → Prop) : ∀ k, mr_ct P k ≤ k := by
  intro k
  induction k with
  | zero => exact Nat.le_refl 0
  | succ k ih =>
    by_cases h : P k
    · rw [mr_ct_t h]; omega
    · rw [mr_ct_f h]; omega
theorem mr_ct_x {P : Nat → Prop} {a : Nat} (h : ∀ k, a ≤ k → ¬ P k) : ∀ d, mr_ct P (a + d) = mr_ct P a := by
  intro d
  induction d with
  | zero => rfl
  | succ d ih =>
    show mr_ct P (a + d + 1) = _
    rw [mr_ct_f (h (a + d) (by omega)), ih]
theorem mr_ct_x2 {P : Nat → Prop} {a b : Nat} (h : ∀ k, a ≤ k → ¬ P k) (hab : a ≤ b) : mr_ct P b = mr_ct P a := by
  obtain ⟨d, rfl⟩ : ∃ d, b = a + d := ⟨b - a, by omega⟩
  exact mr_ct_x h d
/-! needed -/
def mr_pc (s : Nat) : Nat → Nat
  | 0 => 0
  | t + 1 => mr_pc s t + s / 2 ^ t % 2
theorem mr_pc_le (s : Nat) : ∀ t, mr_pc s t ≤ t := by
  intro t
  induction t with
  | zero => exact Nat.le_refl 0
  | succ t ih =>
    rw [mr_pc]
    have := Nat.mod_lt (s / 2 ^ t) (show 2 > 0 by decide)
    omega
theorem mr_pc_a : ∀ t, t < 7 → ∀ s, s < 64 → mr_pc (s &&& (2 ^ t - 1)) 6 ≤ mr_pc s 6 := by decide +kernel
theorem mr_pc_m : ∀ t, t < 7 → mr_pc (2 ^ t - 1) 6 = t := by decide +kernel
theorem mr_am : ∀ t, t < 7 → ∀ s, s < 64 → s &&& (2 ^ t - 1) ≤ 2 ^ t - 1 := by decide +kernel
def mr_A (K : Nat → Nat) (n s : Nat) : Prop := ∀ m, m < n → K m ≠ 0 → K m &&& s ≠ 0
def mr_Min (K : Nat → Nat) (n r : Nat) : Prop := (∃ s, s < 64 ∧ mr_A K n s ∧ mr_pc s 6 = r) ∧ ∀ s, s < 64 → mr_A K n s → r ≤ mr_pc s 6
theorem mr_Min_u {K : Nat → Nat} {n r r' : Nat} (h : mr_Min K n r) (h' : mr_Min K n r') : r' = r := by
  obtain ⟨⟨s, a, b, c⟩, d⟩ := h
  obtain ⟨⟨s', a', b', c'⟩, d'⟩ := h'
  have h1 := d s' a' b'
  have h2 := d' s a b
  omega
def mr_MI (K : Nat → Nat) (n b c l : Nat) : Prop := (l = b ∨ ∃ s, s < c ∧ mr_A K n s ∧ mr_pc s 6 = l) ∧ l ≤ b ∧ ∀ s, s < c → mr_A K n s → l ≤ mr_pc s 6
theorem mr_MI_0 (K : Nat → Nat) (n b : Nat) : mr_MI K n b 0 b := ⟨Or.inl rfl, Nat.le_refl _, fun s hs => absurd hs (Nat.not_lt_zero s)⟩
theorem mr_MI_y {K : Nat → Nat} {n b c l : Nat} (h : mr_MI K n b c l) (hl : mr_pc c 6 < l) (hA : mr_A K n c) : mr_MI K n b (c + 1) (mr_pc c 6) := by
  obtain ⟨h1, h2, h3⟩ := h
  refine ⟨Or.inr ⟨c, by omega, hA, rfl⟩, by omega, fun s hs ha => ?_⟩
  by_cases e : s = c
  · rw [e]; omega
  · have := h3 s (by omega) ha
    omega
theorem mr_MI_n {K : Nat → Nat} {n b c l : Nat} (h : mr_MI K n b c l) (hn : l ≤ mr_pc c 6 ∨ ¬ mr_A K n c) : mr_MI K n b (c + 1) l := by
  obtain ⟨h1, h2, h3⟩ := h
  refine ⟨?_, h2, fun s hs ha => ?_⟩
  · rcases h1 with h1 | ⟨s, a, b, d⟩
    · exact Or.inl h1
    · exact Or.inr ⟨s, by omega, b, d⟩
  · by_cases e : s = c
    · rcases hn with hn | hn
      · rw [e]; exact hn
      · rw [e] at ha; exact absurd ha hn
    · exact h3 s (by omega) ha
theorem mr_A_m {K : Nat → Nat} {n t : Nat} (hK : ∀ m, m < n → K m < 2 ^ t) : mr_A K n (2 ^ t - 1) := by
  intro m hm h
  rw [Nat.and_two_pow_sub_one_of_lt_two_pow (hK m hm)]
  exact h
theorem mr_A_a {K : Nat → Nat} {n t s : Nat} (hK : ∀ m, m < n → K m < 2 ^ t) (h : mr_A K n s) : mr_A K n (s &&& (2 ^ t - 1)) := by
  intro m hm hz
  have e : K m &&& (s &&& (2 ^ t - 1)) = K m &&& s := by
    rw [Nat.and_comm s, ← Nat.and_assoc, Nat.and_two_pow_sub_one_of_lt_two_pow (hK m hm)]
  rw [e]
  exact h m hm hz
theorem mr_MI_x {K : Nat → Nat} {n t l : Nat} (ht : t ≤ 6) (hK : ∀ m, m < n → K m < 2 ^ t) (h : mr_MI K n t (2 ^ t - 1) l) : mr_Min K n l := by
  obtain ⟨h1, h2, h3⟩ := h
  have hp := mr_p2 t (by omega)
  constructor
  · rcases h1 with h1 | ⟨s, a, b, d⟩
    · exact ⟨2 ^ t - 1, by omega, mr_A_m hK, by rw [mr_pc_m t (by omega), h1]⟩
    · exact ⟨s, by omega, b, d⟩
  · intro s hs ha
    have q1 := mr_pc_a t (by omega) s hs
    have q2 := mr_am t (by omega) s hs
    by_cases e : s &&& (2 ^ t - 1) = 2 ^ t - 1
    · rw [e, mr_pc_m t (by omega)] at q1
      omega
    · have := h3 (s &&& (2 ^ t - 1)) (by omega) (mr_A_a hK ha)
      omega
theorem mr_MI_f {K : Nat → Nat} {n l : Nat} (hK : ∀ m, m < n → K m < 64) (h : mr_MI K n 6 64 l) : mr_Min K n l := by
  obtain ⟨h1, h2, h3⟩ := h
  constructor
  · rcases h1 with h1 | ⟨s, a, b, d⟩
    · exact ⟨63, by omega, mr_A_m (t := 6) hK, by rw [h1]; exact mr_pc_m 6 (by decide)⟩
    · exact ⟨s, a, b, d⟩
  · exact h3
theorem mr_A_x {K : Nat → Nat} {n k s : Nat} (hk : n ≤ k) (h0 : ∀ m, n ≤ m → K m = 0) : mr_A K k s ↔ mr_A K n s := by
  constructor
  · intro h m hm hz
    exact h m (by omega) hz
  · intro h m hm hz
    by_cases e : m < n
    · exact h m e hz
    · exact absurd (h0 m (by omega)) hz
/-! leading -/
def mr_S (K : Nat → Nat) (m l : Nat) : Prop := K l ≠ 0 ∧ K l ≠ K m ∧ K l &&& K m = K l
def mr_L (K : Nat → Nat) (n m : Nat) : Prop := K m ≠ 0 ∧ ∀ l, l < n → ¬ mr_S K m l
