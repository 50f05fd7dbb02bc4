/-- what X's state says of the program o, g, N -/
def mr_XI (o g go : Nat → Int32) (N : Nat) (mp mo mg : Nat → Int32) : Prop := mr_V o g N ∧ (∀ i, i < N → mr_us (o i) → go i = g i) ∧ mr_M mp mo mg (mr_ml o g N)
def mr_TI (tr : Nat → Int32) (T : Nat) : Prop := T ≤ 6 ∧ ∀ i, i < T → ∃ q, q < 16 ∧ tr i = mr_in q
theorem mr_TI_r {tr : Nat → Int32} {T i : Nat} (h : mr_TI tr T) (hi : i < T) : mr_rg (tr i) := by
  obtain ⟨q, hq, e⟩ := h.2 i hi
  rw [e]
  exact mr_rg_in q hq
theorem mr_nm1 {m : Nat} (h : m < 2 ^ 31) : ¬ nI m = -1 := fun z => by
  have := nI_pos h
  rw [z] at this
  exact this (by decide)
theorem xk_E0 {o g go mp mo mg : Nat → Int32} {N : Nat} (h : mr_XI o g go N mp mo mg) : xp_E o go mp mo mg N (-1) (mr_po o none) (mr_pg g none) :=
  ⟨fun _ i hi => ⟨rfl, h.2.1 i hi⟩, fun z => absurd rfl z⟩
theorem xk_E1 {o g go mp mo mg : Nat → Int32} {N m : Nat} {e : Nat × Int32 × Int32} (h : mr_XI o g go N mp mo mg) (he : (mr_ml o g N)[m]? = some e) : xp_E o go mp mo mg N (nI m) (mr_po o (some e)) (mr_pg g (some e)) := by
  have hm : m < 30 := by
    obtain ⟨hl, _⟩ := List.getElem?_eq_some_iff.mp he
    have := mr_ml_30 h.1
    omega
  have cm : (nI m).toNatClampNeg = m := nI_clamp (by omega)
  obtain ⟨a1, a2, a3⟩ := h.2.2 m e he
  refine ⟨fun z => absurd z (mr_nm1 (by omega)), fun _ => ⟨vp_in_nI hm (by decide), fun i hi => ?_⟩⟩
  have hN := h.1.1
  have h1 := (mr_ml_e h.1 he).1
  rw [cm, a1, a2, a3]
  show (nI e.1 = nI i → e.2.1 = upd o e.1 e.2.1 i ∧ (mr_us (upd o e.1 e.2.1 i) → e.2.2 = upd g e.1 e.2.2 i)) ∧ (¬ nI e.1 = nI i → o i = upd o e.1 e.2.1 i ∧ (mr_us (upd o e.1 e.2.1 i) → go i = upd g e.1 e.2.2 i))
  rw [nI_eq (by omega) (by omega)]
  refine ⟨fun z => ?_, fun z => ?_⟩
  · rw [← z, pk_us, pk_us]
    exact ⟨rfl, fun _ => rfl⟩
  · have z' : i ≠ e.1 := fun y => z y.symm
    rw [pk_un z', pk_un z']
    exact ⟨rfl, h.2.1 i hi⟩
section
variable {N T : Nat} {h nx : Int32} {o g go tr mp mo mg ks p : Nat → Int32}
theorem xk_r0 {post : Int32 → SX → Prop} {t mc inp : Int32} (hX : mr_XI o g go N mp mo mg) (hi : mr_rg inp)
    (H : ∀ h nx p', post (mr_R o g N none inp) (nI N, t, mc, h, nx, o, go, tr, mp, mo, mg, ks, p')) : wpX_run post (nI N, t, mc, h, nx, o, go, tr, mp, mo, mg, ks, p) (-1) inp :=
  xp_run (P := mr_po o none) (Q := mr_pg g none) (mr_po_V hX.1 (fun x hx => by cases hx)) hi (xk_E0 hX) H
theorem xk_r1 {post : Int32 → SX → Prop} {t mc inp : Int32} {m : Nat} {e : Nat × Int32 × Int32} (hX : mr_XI o g go N mp mo mg) (he : (mr_ml o g N)[m]? = some e) (hi : mr_rg inp)
    (H : ∀ h nx p', post (mr_R o g N (some e) inp) (nI N, t, mc, h, nx, o, go, tr, mp, mo, mg, ks, p')) : wpX_run post (nI N, t, mc, h, nx, o, go, tr, mp, mo, mg, ks, p) (nI m) inp :=
  xp_run (P := mr_po o (some e)) (Q := mr_pg g (some e)) (mr_po_V hX.1 (fun x hx => by cases hx; exact (mr_ml_e hX.1 he).2)) hi (xk_E1 hX he) H
theorem xk_set_l {post : Int32 → SX → Prop} {mc : Int32} {m : Nat} {e : Nat × Int32 × Int32} (hX : mr_XI o g go N mp mo mg) (hT : mr_TI tr T) (he : (mr_ml o g N)[m]? = some e)
    (H : ∀ h nx p', post (nI (mr_KE o g N tr T e)) (nI N, nI T, mc, h, nx, o, go, tr, mp, mo, mg, ks, p')) :
    ∀ (d j : Nat) (h nx : Int32) (p : Nat → Int32), j + d = T → wX_killerSet_4 post (nI m) (d + 1) (nI (mr_KE o g N tr j e)) (nI j) (nI N) (nI T) mc h nx o go tr mp mo mg ks p := by
  intro d
  have hT6 := hT.1
  induction d with
  | zero =>
    intro j h nx p hj
    have ej : j = T := by omega
    subst ej
    exact br_t (nI_le (Nat.le_refl _) (by omega)) (H _ _ _)
  | succ d ih =>
    intro j h nx p hj
    have cj : (nI j).toNatClampNeg = j := nI_clamp (by omega)
    have hr := mr_TI_r hT (show j < T by omega)
    have hs : mr_KE o g N tr j e < 2 ^ j := mr_ks_lt _ _ j
    have h2 : 2 ^ j ≤ 64 := mr_64 (by omega)
    refine br_f (nI_ge (by omega) (by omega)) ⟨vp_in_nI (by omega) (by decide), ?_⟩
    rw [cj]
    refine nm_e (xk_r1 hX he hr (fun h1 nx1 p1 => xk_r0 hX hr (fun h2 nx2 p2 => ?_)))
    refine br_c (fun z => nm_r (nI_1 j) ?_) (fun z => nm_r (mr_or j (by omega) _ (by omega) hs) (nm_r (nI_1 j) ?_))
    · have q := ih (j + 1) h2 nx2 p2 (by omega)
      have e1 : mr_KE o g N tr (j + 1) e = mr_KE o g N tr j e := by
        show mr_KE o g N tr j e + (if mr_R o g N (some e) (tr j) = mr_R o g N none (tr j) then 0 else 2 ^ j) = _
        rw [if_pos z, Nat.add_zero]
      rw [e1] at q
      exact q
    · have q := ih (j + 1) h2 nx2 p2 (by omega)
      have e1 : mr_KE o g N tr (j + 1) e = mr_KE o g N tr j e + 2 ^ j := by
        show mr_KE o g N tr j e + (if mr_R o g N (some e) (tr j) = mr_R o g N none (tr j) then 0 else 2 ^ j) = _
        rw [if_neg z]
      rw [e1] at q
      exact q
theorem xk_set {post : Int32 → SX → Prop} {mc : Int32} {m : Nat} {e : Nat × Int32 × Int32} (hX : mr_XI o g go N mp mo mg) (hT : mr_TI tr T) (he : (mr_ml o g N)[m]? = some e)
    (H : ∀ h nx p', post (nI (mr_KE o g N tr T e)) (nI N, nI T, mc, h, nx, o, go, tr, mp, mo, mg, ks, p')) :
    wpX_killerSet post (nI N, nI T, mc, h, nx, o, go, tr, mp, mo, mg, ks, p) (nI m) :=
  ⟨T + 1, xk_set_l hX hT he H T 0 h nx p (by omega)⟩
theorem xk_lk_l {post : Int32 → SX → Prop} {t mc : Int32} {m : Nat} {e : Nat × Int32 × Int32} (hX : mr_XI o g go N mp mo mg) (he : (mr_ml o g N)[m]? = some e) :
    ∀ (d j : Nat) (h nx : Int32) (p : Nat → Int32), j + d = 16 →
    (∀ h nx p', post (mr_lk (fun j => mr_R o g N (some e) (mr_in j)) (fun j => mr_R o g N none (mr_in j)) d j) (nI N, t, mc, h, nx, o, go, tr, mp, mo, mg, ks, p')) →
    wX_leastKiller_3 post (nI m) (d + 1) (mr_in j) (nI N) t mc h nx o go tr mp mo mg ks p := by
  intro d
  induction d with
  | zero =>
    intro j h nx p hj H
    have ej : j = 16 := by omega
    subst ej
    exact br_t (by decide) (H _ _ _)
  | succ d ih =>
    intro j h nx p hj H
    have hr := mr_rg_in j (by omega)
    refine br_f (Int32.not_lt.mpr (mr_in_b j (by omega)).2.1) (xk_r1 hX he hr (fun h1 nx1 p1 => xk_r0 hX hr (fun h2 nx2 p2 => ?_)))
    refine br_c (fun z => nm_r (mr_in_s j) (ih (j + 1) h2 nx2 p2 (by omega) ?_)) (fun z => ?_)
    · intro h3 nx3 p3
      have q := H h3 nx3 p3
      rw [mr_lk, if_pos z] at q
      exact q
    · have q := H h2 nx2 p2
      rw [mr_lk, if_neg z] at q
      exact q
def mr_LE (o g : Nat → Int32) (N : Nat) (e : Nat × Int32 × Int32) : Int32 := mr_lk (fun j => mr_R o g N (some e) (mr_in j)) (fun j => mr_R o g N none (mr_in j)) 16 0
theorem xk_lk {post : Int32 → SX → Prop} {t mc : Int32} {m : Nat} {e : Nat × Int32 × Int32} (hX : mr_XI o g go N mp mo mg) (he : (mr_ml o g N)[m]? = some e)
    (H : ∀ h nx p', post (mr_LE o g N e) (nI N, t, mc, h, nx, o, go, tr, mp, mo, mg, ks, p')) :
    wpX_leastKiller post (nI N, t, mc, h, nx, o, go, tr, mp, mo, mg, ks, p) (nI m) :=
  ⟨17, xk_lk_l hX he 16 0 h nx p rfl H⟩
/-- killed -/
def mr_Pk (o g : Nat → Int32) (N : Nat) (tr : Nat → Int32) (T m : Nat) : Prop := ¬ mr_K o g N tr T m = 0
theorem xk_killed_l {post : Int32 → SX → Prop} (hX : mr_XI o g go N mp mo mg) (hT : mr_TI tr T)
    (H : ∀ h nx p', post (nI (mr_ct (mr_Pk o g N tr T) (mr_ml o g N).length)) (nI N, nI T, nI (mr_ml o g N).length, h, nx, o, go, tr, mp, mo, mg, ks, p')) :
    ∀ (d j : Nat) (h nx : Int32) (p : Nat → Int32), j + d = (mr_ml o g N).length → wX_killed_4 post (d + 1) (nI (mr_ct (mr_Pk o g N tr T) j)) (nI j) (nI N) (nI T) (nI (mr_ml o g N).length) h nx o go tr mp mo mg ks p := by
  intro d
  have h30 := mr_ml_30 hX.1
  induction d with
  | zero =>
    intro j h nx p hj
    have ej : j = (mr_ml o g N).length := by omega
    subst ej
    exact br_t (nI_le (Nat.le_refl _) (by omega)) (H _ _ _)
  | succ d ih =>
    intro j h nx p hj
    obtain ⟨e, he⟩ := mr_ml_lt (o := o) (g := g) (n := N) (m := j) (by omega)
    have ek := mr_K_s he tr T
    have hlt := mr_K_lt o g N tr T j
    have h64 := mr_64 hT.1
    refine br_f (nI_ge (by omega) (by omega)) (xk_set hX hT he (fun h1 nx1 p1 => ?_))
    have q := ih (j + 1) h1 nx1 p1 (by omega)
    refine br_c (fun z => nm_r (nI_1 j) ?_) (fun z => nm_r (nI_1 _) (nm_r (nI_1 j) ?_))
    · have z' : mr_KE o g N tr T e = 0 := (nI_eq (b := 0) (by omega) (by decide)).mp z
      have hn : ¬ mr_Pk o g N tr T j := fun y => y (by rw [ek]; exact z')
      rw [mr_ct_f hn] at q
      exact q
    · have hn : mr_Pk o g N tr T j := fun y => z (by rw [ek] at y; rw [y]; rfl)
      rw [mr_ct_t hn] at q
      exact q
theorem xk_killed {post : Int32 → SX → Prop} (hX : mr_XI o g go N mp mo mg) (hT : mr_TI tr T)
    (H : ∀ h nx p', post (nI (mr_ct (mr_Pk o g N tr T) (mr_ml o g N).length)) (nI N, nI T, nI (mr_ml o g N).length, h, nx, o, go, tr, mp, mo, mg, ks, p')) :
    wpX_killed post (nI N, nI T, nI (mr_ml o g N).length, h, nx, o, go, tr, mp, mo, mg, ks, p) :=
  ⟨(mr_ml o g N).length + 1, xk_killed_l hX hT H _ 0 h nx p (by omega)⟩
/-- equalOnes -/
def mr_Pe (o g : Nat → Int32) (N m : Nat) : Prop := ∃ e, (mr_ml o g N)[m]? = some e ∧ mr_LE o g N e = -10004
theorem xk_equal_l {post : Int32 → SX → Prop} {t : Int32} (hX : mr_XI o g go N mp mo mg)
    (H : ∀ h nx p', post (nI (mr_ct (mr_Pe o g N) (mr_ml o g N).length)) (nI N, t, nI (mr_ml o g N).length, h, nx, o, go, tr, mp, mo, mg, ks, p')) :
    ∀ (d j : Nat) (h nx : Int32) (p : Nat → Int32), j + d = (mr_ml o g N).length → wX_equalOnes_4 post (d + 1) (nI (mr_ct (mr_Pe o g N) j)) (nI j) (nI N) t (nI (mr_ml o g N).length) h nx o go tr mp mo mg ks p := by
  intro d
  have h30 := mr_ml_30 hX.1
  induction d with
  | zero =>
    intro j h nx p hj
    have ej : j = (mr_ml o g N).length := by omega
    subst ej
    exact br_t (nI_le (Nat.le_refl _) (by omega)) (H _ _ _)
  | succ d ih =>
    intro j h nx p hj
    obtain ⟨e, he⟩ := mr_ml_lt (o := o) (g := g) (n := N) (m := j) (by omega)
    refine br_f (nI_ge (by omega) (by omega)) (xk_lk hX he (fun h1 nx1 p1 => ?_))
    have q := ih (j + 1) h1 nx1 p1 (by omega)
    refine br_c (fun z => nm_r (nI_1 _) (nm_r (nI_1 j) ?_)) (fun z => nm_r (nI_1 j) ?_)
    · have hn : mr_Pe o g N j := ⟨e, he, z⟩
      rw [mr_ct_t hn] at q
      exact q
    · have hn : ¬ mr_Pe o g N j := fun y => by
        obtain ⟨e', he', z'⟩ := y
        rw [he] at he'
        cases he'
        exact z z'
      rw [mr_ct_f hn] at q
      exact q
theorem xk_equal {post : Int32 → SX → Prop} {t : Int32} (hX : mr_XI o g go N mp mo mg)
    (H : ∀ h nx p', post (nI (mr_ct (mr_Pe o g N) (mr_ml o g N).length)) (nI N, t, nI (mr_ml o g N).length, h, nx, o, go, tr, mp, mo, mg, ks, p')) :
    wpX_equalOnes post (nI N, t, nI (mr_ml o g N).length, h, nx, o, go, tr, mp, mo, mg, ks, p) :=
  ⟨(mr_ml o g N).length + 1, xk_equal_l hX H _ 0 h nx p (by omega)⟩
/-- numbers -/
def mr_Pn (o g : Nat → Int32) (N j : Nat) : Prop := ¬ 1000 < mr_R o g N none (mr_in j)
theorem xk_num_l {post : Int32 → SX → Prop} {t mc : Int32} (hX : mr_XI o g go N mp mo mg)
    (H : ∀ h nx p', post (nI (mr_ct (mr_Pn o g N) 16)) (nI N, t, mc, h, nx, o, go, tr, mp, mo, mg, ks, p')) :
    ∀ (d j : Nat) (h nx : Int32) (p : Nat → Int32), j + d = 16 → wX_numbers_5 post (d + 1) (nI (mr_ct (mr_Pn o g N) j)) (mr_in j) (nI N) t mc h nx o go tr mp mo mg ks p := by
  intro d
  induction d with
  | zero =>
    intro j h nx p hj
    have ej : j = 16 := by omega
    subst ej
    exact br_t (by decide) (H _ _ _)
  | succ d ih =>
    intro j h nx p hj
    have hr := mr_rg_in j (by omega)
    refine br_f (Int32.not_lt.mpr (mr_in_b j (by omega)).2.1) (xk_r0 hX hr (fun h1 nx1 p1 => ?_))
    have q := ih (j + 1) h1 nx1 p1 (by omega)
    have hf : ∀ x : Int32, mr_R o g N none (mr_in j) = x → 1000 < x → wX_numbers_5 post (d + 1) (nI (mr_ct (mr_Pn o g N) j)) (mr_in (j + 1)) (nI N) t mc h1 nx1 o go tr mp mo mg ks p1 := fun x e1 e2 => by
      have hn : ¬ mr_Pn o g N j := fun y => y (by rw [e1]; exact e2)
      rw [mr_ct_f hn] at q
      exact q
    refine br_c (fun z => nm_r (mr_in_s j) (hf _ z (by decide))) (fun z1 => br_c (fun z => nm_r (mr_in_s j) (hf _ z (by decide))) (fun z2 => br_c (fun z => nm_r (mr_in_s j) (hf _ z (by decide))) (fun z3 => nm_r (nI_1 _) (nm_r (mr_in_s j) ?_))))
    have hn : mr_Pn o g N j := by
      rcases mr_run_r (mr_po_V (e := none) hX.1 (fun x hx => by cases hx)) hr 40 0 [] mr_G0 with e | e | e | e
      · exact absurd e z1
      · exact absurd e z2
      · exact absurd e z3
      · exact Int32.not_lt.mpr e.2
    rw [mr_ct_t hn] at q
    exact q
theorem xk_num {post : Int32 → SX → Prop} {t mc : Int32} (hX : mr_XI o g go N mp mo mg)
    (H : ∀ h nx p', post (nI (mr_ct (mr_Pn o g N) 16)) (nI N, t, mc, h, nx, o, go, tr, mp, mo, mg, ks, p')) :
    wpX_numbers post (nI N, t, mc, h, nx, o, go, tr, mp, mo, mg, ks, p) :=
  ⟨17, xk_num_l hX H 16 0 h nx p rfl⟩
end
