theorem yk_E0 {o g : Nat → Int32} {po pn : Int32} {N : Nat} (hN : N ≤ 10) : yp_E o g (-1) po pn N (mr_po o none) (mr_pg g none) :=
  fun i hi => ⟨fun z => absurd z (mr_nm1 (by omega)), fun _ => ⟨rfl, rfl⟩⟩
theorem yk_E1 {o g : Nat → Int32} {N : Nat} {e : Nat × Int32 × Int32} (hN : N ≤ 10) (he : e.1 < N) : yp_E o g (nI e.1) e.2.1 e.2.2 N (mr_po o (some e)) (mr_pg g (some e)) := by
  intro i hi
  show (nI i = nI e.1 → e.2.1 = upd o e.1 e.2.1 i ∧ e.2.2 = upd g e.1 e.2.2 i) ∧ (¬ nI i = nI e.1 → o i = upd o e.1 e.2.1 i ∧ g i = upd g e.1 e.2.2 i)
  rw [nI_eq (by omega) (by omega)]
  refine ⟨fun z => ?_, fun z => ?_⟩
  · rw [z, pk_us, pk_us]
    exact ⟨rfl, rfl⟩
  · rw [pk_un z, pk_un z]
    exact ⟨rfl, rfl⟩
section
variable {N T : Nat} {h tp pl po pn : Int32} {o g tr p ks : Nat → Int32}
theorem yk_prog {post : Int32 → SY → Prop} {t inp : Int32} (hV : mr_V o g N) (hi : mr_rg inp)
    (H : ∀ h tp pl po pn p', post (mr_R o g N none inp) (nI N, t, h, tp, pl, po, pn, o, g, tr, p', ks)) : wpY_runProgram post (nI N, t, h, tp, pl, po, pn, o, g, tr, p, ks) inp := by
  unfold wpY_runProgram
  exact yp_run (P := mr_po o none) (Q := mr_pg g none) (mr_po_V hV (fun x hx => by cases hx)) hi (yk_E0 hV.1) (fun h tp p' => H h tp _ _ _ p')
theorem yk_in {post : Int32 → Prop} {n t : Int32} {q : Nat} (hq : q < 16) (H : post 1) : wpY_isInput post (n, t, h, tp, pl, po, pn, o, g, tr, p, ks) (mr_in q) :=
  br_f (Int32.not_lt.mpr (mr_in_b q hq).1) (br_f (Int32.not_lt.mpr (mr_in_b q hq).2.1) H)
theorem yk_out {post : Int32 → SY → Prop} {t inp : Int32} {m q : Nat} {e : Nat × Int32 × Int32} (hV : mr_V o g N) (he : (mr_ml o g N)[m]? = some e) (hq : q < 16) (ei : inp = mr_in q)
    (H : ∀ h tp pl po pn p', post (mr_R o g N (some e) inp) (nI N, t, h, tp, pl, po, pn, o, g, tr, p', ks)) : wpY_outcomeOf post (nI N, t, h, tp, pl, po, pn, o, g, tr, p, ks) (nI m) inp := by
  have hm : m < 30 := by
    obtain ⟨hl, _⟩ := List.getElem?_eq_some_iff.mp he
    have := mr_ml_30 hV
    omega
  subst ei
  have hE := mr_ml_e hV he
  unfold wpY_outcomeOf
  dsimp only
  refine yk_in hq (br_f mr_n10 (yf_find hV (by omega) (fun e' he' => ?_) (fun hl => ?_)))
  · rw [he] at he'
    cases he'
    exact br_f mr_n10 (yp_run (P := mr_po o (some e)) (Q := mr_pg g (some e)) (mr_po_V hV (fun x hx => by cases hx; exact hE.2)) (mr_rg_in q hq) (yk_E1 hV.1 hE.1) (fun h tp p' => H h tp _ _ _ p'))
  · rw [mr_ml_no hl] at he
    cases he
theorem yk_set_l {post : Int32 → SY → Prop} {m : Nat} {e : Nat × Int32 × Int32} (hV : mr_V o g N) (hT : mr_TI tr T) (he : (mr_ml o g N)[m]? = some e)
    (H : ∀ h tp pl po pn p', post (nI (mr_KE o g N tr T e)) (nI N, nI T, h, tp, pl, po, pn, o, g, tr, p', ks)) :
    ∀ (d j : Nat) (h tp pl po pn : Int32) (p : Nat → Int32), j + d = T → wY_killers_16 post (nI m) (d + 1) (nI (mr_KE o g N tr j e)) (nI j) (nI N) (nI T) h tp pl po pn o g tr p ks := by
  intro d
  have hT6 := hT.1
  induction d with
  | zero =>
    intro j h tp pl po pn p hj
    have ej : j = T := by omega
    subst ej
    exact br_t (nI_le (Nat.le_refl _) (by omega)) (H _ _ _ _ _ _)
  | succ d ih =>
    intro j h tp pl po pn p hj
    have cj : (nI j).toNatClampNeg = j := nI_clamp (by omega)
    have vj : vp_in (nI j) 6 := vp_in_nI (by omega) (by decide)
    have hr := mr_TI_r hT (show j < T by omega)
    obtain ⟨q, hq, eq⟩ := hT.2 j (by omega)
    refine br_f (nI_ge (by omega) (by omega)) ⟨vj, ?_⟩
    rw [cj]
    refine yk_out hV he hq eq (fun h1 tp1 pl1 po1 pn1 p1 => ⟨vj, yk_prog hV hr (fun h2 tp2 pl2 po2 pn2 p2 => ?_)⟩)
    have w := ih (j + 1) h2 tp2 pl2 po2 pn2 p2 (by omega)
    refine br_c (fun z => nm_r (nI_1 j) ?_) (fun z => nm_r (e' := nI (mr_KE o g N tr j e + 2 ^ j)) ?_ (nm_r (nI_1 j) ?_))
    · have e1 : mr_KE o g N tr (j + 1) e = mr_KE o g N tr j e := by
        show mr_KE o g N tr j e + (if mr_R o g N (some e) (tr j) = mr_R o g N none (tr j) then 0 else 2 ^ j) = _
        rw [if_pos z, Nat.add_zero]
      rw [e1] at w
      exact w
    · rw [mr_sh j (by omega), nI_add]
    · have e1 : mr_KE o g N tr (j + 1) e = mr_KE o g N tr j e + 2 ^ j := by
        show mr_KE o g N tr j e + (if mr_R o g N (some e) (tr j) = mr_R o g N none (tr j) then 0 else 2 ^ j) = _
        rw [if_neg z]
      rw [e1] at w
      exact w
theorem yk_set {post : Int32 → SY → Prop} {m : Nat} (hV : mr_V o g N) (hT : mr_TI tr T) (hm : m < 2 ^ 31)
    (H : ∀ e, (mr_ml o g N)[m]? = some e → ∀ h tp pl po pn p', post (nI (mr_KE o g N tr T e)) (nI N, nI T, h, tp, pl, po, pn, o, g, tr, p', ks))
    (H0 : (mr_ml o g N).length ≤ m → ∀ h tp pl po pn p', post (-10004) (nI N, nI T, h, tp, pl, po, pn, o, g, tr, p', ks)) :
    wpY_killers post (nI N, nI T, h, tp, pl, po, pn, o, g, tr, p, ks) (nI m) := by
  unfold wpY_killers
  dsimp only
  exact yf_find hV hm (fun e he => br_f mr_n10 ⟨T + 1, yk_set_l hV hT he (H e he) T 0 _ _ _ _ _ _ (by omega)⟩) (fun hl => br_t rfl (H0 hl _ _ _ _ _ _))
theorem yk_lk_l {post : Int32 → SY → Prop} {t : Int32} {m : Nat} {e : Nat × Int32 × Int32} (hV : mr_V o g N) (he : (mr_ml o g N)[m]? = some e) :
    ∀ (d j : Nat) (h tp pl po pn : Int32) (p : Nat → Int32), j + d = 16 →
    (∀ h tp pl po pn p', post (mr_lk (fun j => mr_R o g N (some e) (mr_in j)) (fun j => mr_R o g N none (mr_in j)) d j) (nI N, t, h, tp, pl, po, pn, o, g, tr, p', ks)) →
    wY_killer_15 post (nI m) (d + 1) (mr_in j) (nI N) t h tp pl po pn o g tr p ks := by
  intro d
  induction d with
  | zero =>
    intro j h tp pl po pn p hj H
    have ej : j = 16 := by omega
    subst ej
    exact br_t (by decide) (H _ _ _ _ _ _)
  | succ d ih =>
    intro j h tp pl po pn p hj H
    have hr := mr_rg_in j (by omega)
    refine br_f (Int32.not_le.mpr (mr_in_b j (by omega)).2.2) (yk_out hV he (by omega) rfl (fun h1 tp1 pl1 po1 pn1 p1 => yk_prog hV hr (fun h2 tp2 pl2 po2 pn2 p2 => ?_)))
    refine br_c (fun z => nm_r (mr_in_s j) (ih (j + 1) h2 tp2 pl2 po2 pn2 p2 (by omega) ?_)) (fun z => ?_)
    · intro h3 tp3 pl3 po3 pn3 p3
      have q := H h3 tp3 pl3 po3 pn3 p3
      rw [mr_lk, if_pos z] at q
      exact q
    · have q := H h2 tp2 pl2 po2 pn2 p2
      rw [mr_lk, if_neg z] at q
      exact q
theorem yk_lk {post : Int32 → SY → Prop} {t : Int32} {m : Nat} (hV : mr_V o g N) (hm : m < 2 ^ 31)
    (H : ∀ e, (mr_ml o g N)[m]? = some e → ∀ h tp pl po pn p', post (mr_LE o g N e) (nI N, t, h, tp, pl, po, pn, o, g, tr, p', ks))
    (H0 : (mr_ml o g N).length ≤ m → ∀ h tp pl po pn p', post (-10004) (nI N, t, h, tp, pl, po, pn, o, g, tr, p', ks)) :
    wpY_killer post (nI N, t, h, tp, pl, po, pn, o, g, tr, p, ks) (nI m) := by
  unfold wpY_killer
  dsimp only
  exact yf_find hV hm (fun e he => br_f mr_n10 ⟨17, yk_lk_l hV he 16 0 _ _ _ _ _ _ rfl (H e he)⟩) (fun hl => br_t rfl (H0 hl _ _ _ _ _ _))
theorem yk_killed_l {post : Int32 → SY → Prop} (hV : mr_V o g N) (hT : mr_TI tr T)
    (H : ∀ h tp pl po pn p', post (nI (mr_ct (mr_Pk o g N tr T) 30)) (nI N, nI T, h, tp, pl, po, pn, o, g, tr, p', ks)) :
    ∀ (d j : Nat) (h tp pl po pn : Int32) (p : Nat → Int32), j + d = 30 → wY_killed_4 post (d + 1) (nI (mr_ct (mr_Pk o g N tr T) j)) (nI j) (nI N) (nI T) h tp pl po pn o g tr p ks := by
  intro d
  induction d with
  | zero =>
    intro j h tp pl po pn p hj
    have ej : j = 30 := by omega
    subst ej
    exact br_t (by decide) (H _ _ _ _ _ _)
  | succ d ih =>
    intro j h tp pl po pn p hj
    have hlt := mr_K_lt o g N tr T j
    have h64 := mr_64 hT.1
    refine br_f (nI_ge (b := 30) (by omega) (by decide)) (yk_set hV hT (by omega) (fun e he h1 tp1 pl1 po1 pn1 p1 => ?_) (fun hl h1 tp1 pl1 po1 pn1 p1 => ?_))
    · have ek := mr_K_s he tr T
      have w := ih (j + 1) h1 tp1 pl1 po1 pn1 p1 (by omega)
      refine pk_le (mr_KE o g N tr T e) 0 (fun z => nm_r (nI_1 j) ?_) (fun z => nm_r (nI_1 _) (nm_r (nI_1 j) ?_))
      · have hn : ¬ mr_Pk o g N tr T j := fun y => y (by omega)
        rw [mr_ct_f hn] at w
        exact w
      · have hn : mr_Pk o g N tr T j := fun y => by omega
        rw [mr_ct_t hn] at w
        exact w
    · have w := ih (j + 1) h1 tp1 pl1 po1 pn1 p1 (by omega)
      have hn : ¬ mr_Pk o g N tr T j := fun y => y (mr_K_0 hl tr T)
      rw [mr_ct_f hn] at w
      exact br_t (by decide) (nm_r (nI_1 j) w)
theorem mr_Pk_30 (hV : mr_V o g N) : mr_ct (mr_Pk o g N tr T) 30 = mr_ct (mr_Pk o g N tr T) (mr_ml o g N).length :=
  mr_ct_x2 (fun k hk y => y (mr_K_0 hk tr T)) (mr_ml_30 hV)
theorem yk_killed {post : Int32 → SY → Prop} (hV : mr_V o g N) (hT : mr_TI tr T)
    (H : ∀ h tp pl po pn p', post (nI (mr_ct (mr_Pk o g N tr T) (mr_ml o g N).length)) (nI N, nI T, h, tp, pl, po, pn, o, g, tr, p', ks)) :
    wpY_killed post (nI N, nI T, h, tp, pl, po, pn, o, g, tr, p, ks) :=
  ⟨31, yk_killed_l hV hT (by rw [mr_Pk_30 hV]; exact H) 30 0 _ _ _ _ _ _ rfl⟩
theorem yk_equal_l {post : Int32 → SY → Prop} {t : Int32} (hV : mr_V o g N)
    (H : ∀ h tp pl po pn p', post (nI (mr_ct (mr_Pe o g N) (mr_ml o g N).length)) (nI N, t, h, tp, pl, po, pn, o, g, tr, p', ks)) :
    ∀ (d j : Nat) (h tp pl po pn : Int32) (p : Nat → Int32), j + d = (mr_ml o g N).length → wY_equalOnes_9 post (nI (mr_ml o g N).length) (d + 1) (nI (mr_ct (mr_Pe o g N) j)) (nI j) (nI N) t h tp pl po pn o g tr p ks := by
  intro d
  have h30 := mr_ml_30 hV
  induction d with
  | zero =>
    intro j h tp pl po pn p hj
    have ej : j = (mr_ml o g N).length := by omega
    subst ej
    exact br_t (nI_le (Nat.le_refl _) (by omega)) (H _ _ _ _ _ _)
  | succ d ih =>
    intro j h tp pl po pn p hj
    refine br_f (nI_ge (by omega) (by omega)) (yk_lk hV (by omega) (fun e he h1 tp1 pl1 po1 pn1 p1 => ?_) (fun hl => absurd hl (by omega)))
    have w := ih (j + 1) h1 tp1 pl1 po1 pn1 p1 (by omega)
    refine br_c (fun z => nm_r (nI_1 _) (nm_r (nI_1 j) ?_)) (fun z => nm_r (nI_1 j) ?_)
    · have hn : mr_Pe o g N j := ⟨e, he, z⟩
      rw [mr_ct_t hn] at w
      exact w
    · have hn : ¬ mr_Pe o g N j := fun y => by
        obtain ⟨e', he', z'⟩ := y
        rw [he] at he'
        cases he'
        exact z z'
      rw [mr_ct_f hn] at w
      exact w
theorem yk_equal {post : Int32 → SY → Prop} {t : Int32} (hV : mr_V o g N)
    (H : ∀ h tp pl po pn p', post (nI (mr_ct (mr_Pe o g N) (mr_ml o g N).length)) (nI N, t, h, tp, pl, po, pn, o, g, tr, p', ks)) :
    wpY_equalOnes post (nI N, t, h, tp, pl, po, pn, o, g, tr, p, ks) := by
  unfold wpY_equalOnes
  dsimp only
  exact yf_mut hV ⟨(mr_ml o g N).length + 1, yk_equal_l hV H _ 0 _ _ _ _ _ _ (by omega)⟩
theorem yk_num_l {post : Int32 → SY → Prop} {t : Int32} (hV : mr_V o g N)
    (H : ∀ h tp pl po pn p', post (nI (mr_ct (mr_Pn o g N) 16)) (nI N, t, h, tp, pl, po, pn, o, g, tr, p', ks)) :
    ∀ (d j : Nat) (h tp pl po pn : Int32) (p : Nat → Int32), j + d = 16 → wY_numbers_5 post (d + 1) (nI (mr_ct (mr_Pn o g N) j)) (mr_in j) (nI N) t h tp pl po pn o g tr p ks := by
  intro d
  induction d with
  | zero =>
    intro j h tp pl po pn p hj
    have ej : j = 16 := by omega
    subst ej
    exact br_t (by decide) (H _ _ _ _ _ _)
  | succ d ih =>
    intro j h tp pl po pn p hj
    have hr := mr_rg_in j (by omega)
    refine br_f (Int32.not_le.mpr (mr_in_b j (by omega)).2.2) (yk_prog hV hr (fun h1 tp1 pl1 po1 pn1 p1 => ?_))
    have w := ih (j + 1) h1 tp1 pl1 po1 pn1 p1 (by omega)
    refine br_c (fun z => nm_r (mr_in_s j) ?_) (fun z => nm_r (nI_1 _) (nm_r (mr_in_s j) ?_))
    · have hn : ¬ mr_Pn o g N j := fun y => y z
      rw [mr_ct_f hn] at w
      exact w
    · have hn : mr_Pn o g N j := z
      rw [mr_ct_t hn] at w
      exact w
theorem yk_num {post : Int32 → SY → Prop} {t : Int32} (hV : mr_V o g N)
    (H : ∀ h tp pl po pn p', post (nI (mr_ct (mr_Pn o g N) 16)) (nI N, t, h, tp, pl, po, pn, o, g, tr, p', ks)) :
    wpY_numbers post (nI N, t, h, tp, pl, po, pn, o, g, tr, p, ks) :=
  ⟨17, yk_num_l hV H 16 0 _ _ _ _ _ _ rfl⟩
end
