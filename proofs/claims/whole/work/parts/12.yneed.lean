section
variable {N T : Nat} {h tp pl po pn : Int32} {o g tr p ks : Nat → Int32} {K : Nat → Nat}
theorem yn_list_l {post : SY → Prop} (hV : mr_V o g N) (hT : mr_TI tr T)
    (H : ∀ h tp pl po pn p' ks', (∀ j, j < 30 → ks' j = nI (mr_K o g N tr T j)) → post (nI N, nI T, h, tp, pl, po, pn, o, g, tr, p', ks')) :
    ∀ (d j : Nat) (h tp pl po pn : Int32) (p ks : Nat → Int32), j + d = 30 → (∀ i, i < j → ks i = nI (mr_K o g N tr T i)) → wY_listKills_2 post (d + 1) (nI j) (nI N) (nI T) h tp pl po pn o g tr p ks := by
  intro d
  induction d with
  | zero =>
    intro j h tp pl po pn p ks hj hk
    have ej : j = 30 := by omega
    subst ej
    exact br_t (by decide) (H _ _ _ _ _ _ _ hk)
  | succ d ih =>
    intro j h tp pl po pn p ks hj hk
    have hlt := mr_K_lt o g N tr T j
    have h64 := mr_64 hT.1
    have cj : (nI j).toNatClampNeg = j := nI_clamp (by omega)
    have vj : vp_in (nI j) 30 := vp_in_nI (by omega) (by decide)
    have hu : ∀ x, x = nI (mr_K o g N tr T j) → ∀ i, i < j + 1 → upd ks (nI j).toNatClampNeg x i = nI (mr_K o g N tr T i) := by
      intro x ex i hi
      rw [cj]
      by_cases ei : i = j
      · subst ei
        rw [pk_us, ex]
      · rw [pk_un ei]
        exact hk i (by omega)
    refine br_f (nI_ge (b := 30) (by omega) (by decide)) (yk_set hV hT (by omega) (fun e he h1 tp1 pl1 po1 pn1 p1 => ?_) (fun hl h1 tp1 pl1 po1 pn1 p1 => ?_))
    · have ek := mr_K_s he tr T
      refine pk_le (mr_KE o g N tr T e) 0 (fun z => ⟨vj, nm_e (nm_r (nI_1 j) (ih (j + 1) h1 tp1 pl1 po1 pn1 p1 _ (by omega) (hu 0 ?_)))⟩) (fun z => ⟨vj, nm_e (nm_r (nI_1 j) (ih (j + 1) h1 tp1 pl1 po1 pn1 p1 _ (by omega) (hu _ ?_)))⟩)
      · have e0 : mr_K o g N tr T j = 0 := by omega
        rw [e0]
        rfl
      · rw [ek]
    · have e0 := mr_K_0 hl tr T
      refine br_t (by decide) ⟨vj, nm_e (nm_r (nI_1 j) (ih (j + 1) h1 tp1 pl1 po1 pn1 p1 _ (by omega) (hu 0 ?_)))⟩
      rw [e0]
      rfl
theorem yn_list {post : SY → Prop} (hV : mr_V o g N) (hT : mr_TI tr T)
    (H : ∀ h tp pl po pn p' ks', (∀ j, j < 30 → ks' j = nI (mr_K o g N tr T j)) → post (nI N, nI T, h, tp, pl, po, pn, o, g, tr, p', ks')) :
    wpY_listKills post (nI N, nI T, h, tp, pl, po, pn, o, g, tr, p, ks) :=
  ⟨31, yn_list_l hV hT H 30 0 _ _ _ _ _ _ _ rfl (fun i hi => absurd hi (Nat.not_lt_zero i))⟩
theorem yn_all_l {post : Int32 → Prop} {n t : Int32} {s : Nat} (hK : ∀ j, j < 30 → ks j = nI (K j) ∧ K j < 64) (h1 : mr_A K 30 s → post 1) (h0 : ¬ mr_A K 30 s → post 0) :
    ∀ (d j : Nat), j + d = 30 → (∀ m, m < j → K m ≠ 0 → K m &&& s ≠ 0) → wY_doesAll_2 post (nI s) n t h tp pl po pn o g tr p ks (d + 1) (nI j) := by
  intro d
  induction d with
  | zero =>
    intro j hj hA
    have ej : j = 30 := by omega
    subst ej
    exact br_t (by decide) (h1 hA)
  | succ d ih =>
    intro j hj hA
    have cj : (nI j).toNatClampNeg = j := nI_clamp (by omega)
    have vj : vp_in (nI j) 30 := vp_in_nI (by omega) (by decide)
    obtain ⟨ej, hj64⟩ := hK j (by omega)
    refine br_f (nI_ge (b := 30) (by omega) (by decide)) ⟨vj, ?_⟩
    rw [cj, ej]
    refine br_c (fun z => nm_r (nI_1 j) (ih (j + 1) (by omega) ?_)) (fun z => ⟨vj, br_c (fun y => h0 ?_) (fun y => nm_r (nI_1 j) (ih (j + 1) (by omega) ?_))⟩)
    · have z' : K j = 0 := (nI_eq (b := 0) (by omega) (by decide)).mp z
      exact lt_s hA (fun q => absurd z' q)
    · intro hall
      have y' := (mr_and0 hj64).mp y
      exact hall j (by omega) (fun q => z (by rw [q]; rfl)) y'
    · exact lt_s hA (fun _ q => y ((mr_and0 hj64).mpr q))
theorem yn_all {post : Int32 → Prop} {n t : Int32} {s : Nat} (hK : ∀ j, j < 30 → ks j = nI (K j) ∧ K j < 64) (h1 : mr_A K 30 s → post 1) (h0 : ¬ mr_A K 30 s → post 0) :
    wpY_doesAll post (n, t, h, tp, pl, po, pn, o, g, tr, p, ks) (nI s) :=
  ⟨31, yn_all_l hK h1 h0 30 0 rfl (fun m hm => absurd hm (Nat.not_lt_zero m))⟩
theorem yn_sz_l {post : Int32 → Prop} {n t : Int32} {s : Nat} (hs : s < 64) (H : post (nI (mr_pc s 6))) : ∀ d j, j + d = 6 → wY_sizeOf_4 post (nI s) n t h tp pl po pn o g tr p ks (d + 1) (nI (mr_pc s j)) (nI j) := by
  intro d
  induction d with
  | zero =>
    intro j hj
    have ej : j = 6 := by omega
    subst ej
    exact br_t (by decide) H
  | succ d ih =>
    intro j hj
    refine br_f (nI_ge (b := 6) (by omega) (by decide)) (nm_r (e' := nI (mr_pc s (j + 1))) ?_ (nm_r (nI_1 j) (ih (j + 1) (by omega))))
    rw [mr_bt j (by omega) s hs, nI_add]
    rfl
theorem yn_sz {post : Int32 → Prop} {n t : Int32} {s : Nat} (hs : s < 64) (H : post (nI (mr_pc s 6))) : wpY_sizeOf post (n, t, h, tp, pl, po, pn, o, g, tr, p, ks) (nI s) := ⟨7, yn_sz_l hs H 6 0 rfl⟩
theorem yn_need_l {post : Int32 → SY → Prop} {n t : Int32} (hK : ∀ j, j < 30 → ks j = nI (K j) ∧ K j < 64)
    (H : ∀ r, mr_MI K 30 6 64 r → post (nI r) (n, t, h, tp, pl, po, pn, o, g, tr, p, ks)) :
    ∀ (d c r : Nat), c + d = 64 → mr_MI K 30 6 c r → wY_needed_9 post n t h tp pl po pn o g tr p ks (d + 1) (nI r) (nI c) := by
  intro d
  induction d with
  | zero =>
    intro c r hc hM
    have ec : c = 64 := by omega
    subst ec
    exact br_t (by decide) (H r hM)
  | succ d ih =>
    intro c r hc hM
    have hr : r ≤ 6 := hM.2.1
    have hp := mr_pc_le c 6
    refine br_f (nI_ge (b := 64) (by omega) (by decide)) (yn_sz (by omega) ?_)
    refine pk_le r (mr_pc c 6) (fun z => nm_r (nI_1 c) (ih (c + 1) r (by omega) (mr_MI_n hM (Or.inl z)))) (fun z => yn_all hK (fun hA => br_f (by decide) (yn_sz (by omega) (nm_r (nI_1 c) (ih (c + 1) _ (by omega) (mr_MI_y hM z hA))))) (fun hA => br_t rfl (nm_r (nI_1 c) (ih (c + 1) r (by omega) (mr_MI_n hM (Or.inr hA))))))
theorem mr_Min_30 {r : Nat} (hV : mr_V o g N) (h : mr_Min (mr_K o g N tr T) 30 r) : mr_Min (mr_K o g N tr T) (mr_ml o g N).length r := by
  have hx : ∀ s, mr_A (mr_K o g N tr T) 30 s ↔ mr_A (mr_K o g N tr T) (mr_ml o g N).length s := fun s => mr_A_x (mr_ml_30 hV) (fun m hm => mr_K_0 hm tr T)
  obtain ⟨⟨s, a, b, c⟩, d⟩ := h
  exact ⟨⟨s, a, (hx s).mp b, c⟩, fun s' a' b' => d s' a' ((hx s').mpr b')⟩
theorem yn_needed {post : Int32 → SY → Prop} (hV : mr_V o g N) (hT : mr_TI tr T)
    (H : ∀ r h tp pl po pn p' ks', mr_Min (mr_K o g N tr T) (mr_ml o g N).length r → post (nI r) (nI N, nI T, h, tp, pl, po, pn, o, g, tr, p', ks')) :
    wpY_needed post (nI N, nI T, h, tp, pl, po, pn, o, g, tr, p, ks) := by
  unfold wpY_needed
  dsimp only
  have h64 := mr_64 hT.1
  have hK : ∀ j, mr_K o g N tr T j < 64 := fun j => by
    have := mr_K_lt o g N tr T j
    omega
  refine yn_list hV hT (fun h1 tp1 pl1 po1 pn1 p1 ks1 hk => ⟨65, ?_⟩)
  exact yn_need_l (K := mr_K o g N tr T) (fun j hj => ⟨hk j hj, hK j⟩) (fun r hr => H r h1 tp1 pl1 po1 pn1 p1 ks1 (mr_Min_30 hV (mr_MI_f (fun m _ => hK m) hr))) 64 0 6 rfl (mr_MI_0 _ _ _)
theorem yn_ld_l {post : Int32 → Prop} {n t : Int32} {m : Nat} (hm : m < 30) (hK : ∀ j, j < 30 → ks j = nI (K j) ∧ K j < 64) (h1 : mr_L K 30 m → post 1) (h0 : ¬ mr_L K 30 m → post 0) :
    ∀ (d j : Nat), j + d = 30 → (∀ l, l < j → ¬ mr_S K m l) → wY_leads_2 post (nI m) n t h tp pl po pn o g tr p ks (d + 1) (nI j) := by
  intro d
  have cm : (nI m).toNatClampNeg = m := nI_clamp (by omega)
  have vm : vp_in (nI m) 30 := vp_in_nI hm (by decide)
  obtain ⟨em, hm64⟩ := hK m hm
  induction d with
  | zero =>
    intro j hj hA
    have ej : j = 30 := by omega
    subst ej
    refine br_t (by decide) ⟨vm, ?_⟩
    rw [cm, em]
    refine br_c (fun z => h0 (fun w => w.1 ((nI_eq (b := 0) (by omega) (by decide)).mp z))) (fun z => h1 ⟨fun w => z (by rw [w]; rfl), hA⟩)
  | succ d ih =>
    intro j hj hA
    have cj : (nI j).toNatClampNeg = j := nI_clamp (by omega)
    have vj : vp_in (nI j) 30 := vp_in_nI (by omega) (by decide)
    obtain ⟨ej, hj64⟩ := hK j (by omega)
    refine br_f (nI_ge (b := 30) (by omega) (by decide)) ⟨vj, ?_⟩
    rw [cj, cm, ej, em]
    refine br_c (fun z => nm_r (nI_1 j) (ih (j + 1) (by omega) ?_)) (fun z => ⟨vj, vm, br_c (fun y => nm_r (nI_1 j) (ih (j + 1) (by omega) ?_)) (fun y => ⟨vj, vm, vj, br_c (fun x => h0 ?_) (fun x => nm_r (nI_1 j) (ih (j + 1) (by omega) ?_))⟩)⟩)
    · have z' : K j = 0 := (nI_eq (b := 0) (by omega) (by decide)).mp z
      exact lt_s hA (fun q => q.1 z')
    · have y' : K j = K m := (nI_eq (by omega) (by omega)).mp y
      exact lt_s hA (fun q => q.2.1 y')
    · exact fun w => w.2 j (by omega) ⟨fun q => z (by rw [q]; rfl), fun q => y (by rw [q]), (mr_andE hj64 hj64).mp x⟩
    · exact lt_s hA (fun q => x ((mr_andE hj64 hj64).mpr q.2.2))
theorem yn_ld {post : Int32 → Prop} {n t : Int32} {m : Nat} (hm : m < 30) (hK : ∀ j, j < 30 → ks j = nI (K j) ∧ K j < 64) (h1 : mr_L K 30 m → post 1) (h0 : ¬ mr_L K 30 m → post 0) :
    wpY_leads post (n, t, h, tp, pl, po, pn, o, g, tr, p, ks) (nI m) :=
  ⟨31, yn_ld_l hm hK h1 h0 30 0 rfl (fun m hm => absurd hm (Nat.not_lt_zero m))⟩
theorem yn_lead_l {post : Int32 → SY → Prop} {n t : Int32} (hK : ∀ j, j < 30 → ks j = nI (K j) ∧ K j < 64)
    (H : post (nI (mr_ct (mr_L K 30) 30)) (n, t, h, tp, pl, po, pn, o, g, tr, p, ks)) :
    ∀ (d j : Nat), j + d = 30 → wY_leading_8 post n t h tp pl po pn o g tr p ks (d + 1) (nI (mr_ct (mr_L K 30) j)) (nI j) := by
  intro d
  induction d with
  | zero =>
    intro j hj
    have ej : j = 30 := by omega
    subst ej
    exact br_t (by decide) H
  | succ d ih =>
    intro j hj
    have q := ih (j + 1) (by omega)
    refine br_f (nI_ge (b := 30) (by omega) (by decide)) (yn_ld (by omega) hK (fun y => br_f (by decide) (nm_r (nI_1 _) (nm_r (nI_1 j) ?_))) (fun y => br_t rfl (nm_r (nI_1 j) ?_)))
    · rw [mr_ct_t y] at q
      exact q
    · rw [mr_ct_f y] at q
      exact q
theorem mr_ct_c {P Q : Nat → Prop} (h : ∀ k, P k ↔ Q k) : ∀ n, mr_ct P n = mr_ct Q n := by
  intro n
  induction n with
  | zero => rfl
  | succ n ih =>
    by_cases hp : P n
    · rw [mr_ct_t hp, mr_ct_t ((h n).mp hp), ih]
    · rw [mr_ct_f hp, mr_ct_f (fun q => hp ((h n).mpr q)), ih]
theorem mr_L_30 (hV : mr_V o g N) : mr_ct (mr_L (mr_K o g N tr T) 30) 30 = mr_ct (mr_L (mr_K o g N tr T) (mr_ml o g N).length) (mr_ml o g N).length := by
  have h30 := mr_ml_30 hV
  have hx : ∀ m, mr_L (mr_K o g N tr T) 30 m ↔ mr_L (mr_K o g N tr T) (mr_ml o g N).length m := by
    intro m
    refine ⟨fun w => ⟨w.1, fun l hl => w.2 l (by omega)⟩, fun w => ⟨w.1, fun l hl hs => ?_⟩⟩
    by_cases e : l < (mr_ml o g N).length
    · exact w.2 l e hs
    · exact hs.1 (mr_K_0 (by omega) tr T)
  rw [mr_ct_c hx 30]
  exact mr_ct_x2 (fun k hk w => w.1 (mr_K_0 hk tr T)) h30
theorem yn_leading {post : Int32 → SY → Prop} (hV : mr_V o g N) (hT : mr_TI tr T)
    (H : ∀ h tp pl po pn p' ks', post (nI (mr_ct (mr_L (mr_K o g N tr T) (mr_ml o g N).length) (mr_ml o g N).length)) (nI N, nI T, h, tp, pl, po, pn, o, g, tr, p', ks')) :
    wpY_leading post (nI N, nI T, h, tp, pl, po, pn, o, g, tr, p, ks) := by
  unfold wpY_leading
  dsimp only
  have h64 := mr_64 hT.1
  refine yn_list hV hT (fun h1 tp1 pl1 po1 pn1 p1 ks1 hk => ⟨31, ?_⟩)
  refine yn_lead_l (K := mr_K o g N tr T) (fun j hj => ⟨hk j hj, ?_⟩) (by rw [mr_L_30 hV]; exact H h1 tp1 pl1 po1 pn1 p1 ks1) 30 0 rfl
  have := mr_K_lt o g N tr T j
  omega
end
