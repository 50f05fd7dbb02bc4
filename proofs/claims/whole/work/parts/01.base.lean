theorem pk_us {f : Nat → Int32} {k : Nat} {x : Int32} : upd f k x k = x := if_pos rfl
theorem pk_un {f : Nat → Int32} {k j : Nat} {x : Int32} (h : j ≠ k) : upd f k x j = f j := if_neg h
theorem pk_sub {a b : Nat} (h : b ≤ a) : nI a - nI b = nI (a - b) := by
  obtain ⟨c, rfl⟩ : ∃ c, a = c + b := ⟨a - b, by omega⟩
  rw [← nI_add, Int32.add_sub_cancel, Nat.add_sub_cancel]
theorem pk_m1 (n : Nat) : nI (n + 1) + (-1) = nI n := by
  rw [← nI_1, Int32.add_assoc, show (1 : Int32) + (-1) = 0 from rfl, Int32.add_zero]
theorem pk_ix (x : Int32) {n : Nat} (hn : n < 2 ^ 31) : x < 0 ∨ nI n ≤ x ∨ ∃ j : Nat, j < n ∧ x = nI j := by
  by_cases h : x < 0
  · exact Or.inl h
  · obtain ⟨j, hj, rfl⟩ := nI_of h
    by_cases h2 : j < n
    · exact Or.inr (Or.inr ⟨j, h2, rfl⟩)
    · exact Or.inr (Or.inl (nI_le (by omega) hj))
theorem pk_le {x y : Int32} {A B : Prop} (a b : Nat) (f : a ≤ b → A) (g : b < a → B) (hx : x = nI a := by rfl) (hy : y = nI b := by rfl) (ha : a < 2 ^ 31 := by omega) (hb : b < 2 ^ 31 := by omega) : (x ≤ y → A) ∧ (¬ x ≤ y → B) := by
  subst hx hy
  rw [nI_leI ha hb]
  exact ⟨f, fun z => g (by omega)⟩
theorem pk_lt {x y : Int32} {A B : Prop} (a b : Nat) (f : a < b → A) (g : b ≤ a → B) (hx : x = nI a := by rfl) (hy : y = nI b := by rfl) (ha : a < 2 ^ 31 := by omega) (hb : b < 2 ^ 31 := by omega) : (x < y → A) ∧ (¬ x < y → B) := by
  subst hx hy
  rw [nI_ltI ha hb]
  exact ⟨f, fun z => g (by omega)⟩
theorem pk_eq {x y : Int32} {A B : Prop} (a b : Nat) (f : a = b → A) (g : a ≠ b → B) (hx : x = nI a := by rfl) (hy : y = nI b := by rfl) (ha : a < 2 ^ 31 := by omega) (hb : b < 2 ^ 31 := by omega) : (x = y → A) ∧ (¬ x = y → B) := by
  subst hx hy
  rw [nI_eq ha hb]
  exact ⟨f, g⟩
theorem pk_in {x : Int32} (n N : Nat) (h : n < N) (hx : x = nI n := by rfl) (hN : N < 2 ^ 31 := by omega) : vp_in x N := by
  subst hx
  exact vp_in_nI h hN
theorem pk_cl {x : Int32} (n : Nat) (hx : x = nI n := by rfl) (h : n < 2 ^ 31 := by omega) : x.toNatClampNeg = n := by
  subst hx
  exact nI_clamp h
theorem pk_loop {σ : Type} (W : Nat → Nat → σ → Prop) (I : Nat → σ → Prop) (e i0 : Nat) (s : σ) (hi : i0 ≤ e) (h0 : I i0 s) (hx : ∀ n s, I e s → W (n + 1) e s)
    (hs : ∀ n i s, i < e → I i s → (∀ s', I (i + 1) s' → W n (i + 1) s') → W (n + 1) i s) : ∃ n, W n i0 s :=
  ⟨e + 1, loop_i W I e hx hs (e + 1) i0 s hi (by omega) h0⟩
theorem s_l : ∀ n, n < 32 → ((nI n &&& 31).toBitVec.smod 32).toNat = n := by decide +kernel
theorem nx_and (a b : Nat) : nI a &&& nI b = nI (a &&& b) := by
  apply Int32.toBitVec_inj.1
  show BitVec.ofNat 32 a &&& BitVec.ofNat 32 b = BitVec.ofNat 32 (a &&& b)
  apply BitVec.eq_of_getLsbD_eq
  intro i hi
  simp [hi]
theorem mr_31 {a : Nat} (h : a ≤ 100) : a < 2 ^ 31 := by omega
/-- the inputs -8 .. 7 -/
def mr_in (j : Nat) : Int32 := nI j + (-8)
theorem mr_in_of {x : Int32} (h0 : -8 ≤ x) (h1 : x ≤ 7) : ∃ j, j < 16 ∧ x = mr_in j := by
  rw [Int32.le_iff_toInt_le] at h0 h1
  have e0 : (-8 : Int32).toInt = -8 := by decide
  have e1 : (7 : Int32).toInt = 7 := by decide
  rw [e0] at h0
  rw [e1] at h1
  refine ⟨(x.toInt + 8).toNat, by omega, Int32.toInt_inj.mp ?_⟩
  unfold mr_in
  rw [Int32.toInt_add, nI_toInt (by omega), e0, Int.bmod_eq_of_le (by omega) (by omega)]
  omega
theorem mr_in_0 : mr_in 0 = -8 := by decide
theorem mr_in_s (j : Nat) : mr_in j + 1 = mr_in (j + 1) := by
  unfold mr_in
  rw [Int32.add_assoc, Int32.add_comm (-8) 1, ← Int32.add_assoc, nI_1]
theorem mr_in_b : ∀ j, j < 16 → (-8 ≤ mr_in j ∧ mr_in j ≤ 7 ∧ mr_in j < 8) := by decide +kernel
theorem mr_in_e : ¬ mr_in 16 ≤ 7 ∧ ¬ mr_in 16 < 8 := by decide
/-- the numbers that a pile holds -/
def mr_rg (x : Int32) : Prop := -1000 ≤ x ∧ x ≤ 1000
theorem mr_rg_in : ∀ j, j < 16 → (-1000 ≤ mr_in j ∧ mr_in j ≤ 1000) := by decide +kernel
theorem mr_or : ∀ t, t < 6 → ∀ s, s < 64 → s < 2 ^ t → nI s ||| ((1 : Int32) <<< (nI t &&& 31)) = nI (s + 2 ^ t) := by decide +kernel
theorem mr_sh : ∀ t, t < 7 → ((1 : Int32) <<< (nI t &&& 31)) = nI (2 ^ t) := by decide +kernel
theorem mr_bt : ∀ t, t < 6 → ∀ s, s < 64 → ((nI s) >>> (nI t &&& 31)) &&& 1 = nI (s / 2 ^ t % 2) := by decide +kernel
theorem mr_p2 : ∀ t, t < 7 → 1 ≤ 2 ^ t ∧ 2 ^ t ≤ 64 := by decide
