theorem mr_and0 {a b : Nat} (ha : a < 64) : nI a &&& nI b = 0 ↔ a &&& b = 0 := by
  rw [nx_and]
  have : a &&& b ≤ a := Nat.and_le_left
  exact nI_eq (b := 0) (by omega) (by decide)
theorem mr_andE {a b c : Nat} (ha : a < 64) (hc : c < 64) : nI a &&& nI b = nI c ↔ a &&& b = c := by
  rw [nx_and]
  have : a &&& b ≤ a := Nat.and_le_left
  exact nI_eq (by omega) (by omega)
theorem mr_mem_l {post : Int32 → Prop} {s : Nat} (hs : s < 64) (H : post (nI (mr_pc s 6))) : ∀ d j, j + d = 6 → wX_membersOf_4 post (nI s) (d + 1) (nI (mr_pc s j)) (nI j) := by
  intro d
  induction d with
  | zero =>
    intro j hj
    have ej : j = 6 := by omega
    subst ej
    exact br_t (by decide) H
  | succ d ih =>
    intro j hj
    refine br_f (nI_ge (b := 6) (by omega) (by decide)) (nm_r (e' := nI (mr_pc s (j + 1))) ?_ (nm_r (nI_1 j) (ih (j + 1) (by omega))))
    rw [mr_bt j (by omega) s hs, nI_add]
    rfl
theorem xn_mem {post : Int32 → Prop} {s : Nat} (hs : s < 64) (H : post (nI (mr_pc s 6))) : wpX_membersOf post (nI s) := ⟨7, mr_mem_l hs H 6 0 rfl⟩
section
variable {N T L : Nat} {h nx : Int32} {o g go tr mp mo mg ks p : Nat → Int32} {K : Nat → Nat}
theorem xn_fill_l {post : SX → Prop} (hX : mr_XI o g go N mp mo mg) (hT : mr_TI tr T)
    (H : ∀ h nx ks' p', (∀ j, j < (mr_ml o g N).length → ks' j = nI (mr_K o g N tr T j)) → post (nI N, nI T, nI (mr_ml o g N).length, h, nx, o, go, tr, mp, mo, mg, ks', p')) :
    ∀ (d j : Nat) (h nx : Int32) (ks p : Nat → Int32), j + d = (mr_ml o g N).length → (∀ i, i < j → ks i = nI (mr_K o g N tr T i)) → wX_fillKillerSets_2 post (d + 1) (nI j) (nI N) (nI T) (nI (mr_ml o g N).length) h nx o go tr mp mo mg ks p := by
  intro d
  have h30 := mr_ml_30 hX.1
  induction d with
  | zero =>
    intro j h nx ks p hj hk
    have ej : j = (mr_ml o g N).length := by omega
    subst ej
    exact br_t (nI_le (Nat.le_refl _) (by omega)) (H _ _ _ _ hk)
  | succ d ih =>
    intro j h nx ks p hj hk
    obtain ⟨e, he⟩ := mr_ml_lt (o := o) (g := g) (n := N) (m := j) (by omega)
    have ek := mr_K_s he tr T
    have cj : (nI j).toNatClampNeg = j := nI_clamp (by omega)
    refine br_f (nI_ge (by omega) (by omega)) (xk_set hX hT he (fun h1 nx1 p1 => ⟨vp_in_nI (by omega) (by decide), nm_e (nm_r (nI_1 j) (ih (j + 1) h1 nx1 _ p1 (by omega) (fun i hi => ?_)))⟩))
    rw [cj]
    by_cases ei : i = j
    · subst ei
      rw [pk_us, ek]
    · rw [pk_un ei]
      exact hk i (by omega)
theorem xn_fill {post : SX → Prop} (hX : mr_XI o g go N mp mo mg) (hT : mr_TI tr T)
    (H : ∀ h nx ks' p', (∀ j, j < (mr_ml o g N).length → ks' j = nI (mr_K o g N tr T j)) → post (nI N, nI T, nI (mr_ml o g N).length, h, nx, o, go, tr, mp, mo, mg, ks', p')) :
    wpX_fillKillerSets post (nI N, nI T, nI (mr_ml o g N).length, h, nx, o, go, tr, mp, mo, mg, ks, p) :=
  ⟨(mr_ml o g N).length + 1, xn_fill_l hX hT H _ 0 h nx ks p (by omega) (fun i hi => absurd hi (Nat.not_lt_zero i))⟩
theorem xn_all_l {post : Int32 → Prop} {n t : Int32} {s : Nat} (hL : L ≤ 30) (hK : ∀ j, j < L → ks j = nI (K j) ∧ K j < 64) (h1 : mr_A K L s → post 1) (h0 : ¬ mr_A K L s → post 0) :
    ∀ (d j : Nat), j + d = L → (∀ m, m < j → K m ≠ 0 → K m &&& s ≠ 0) → wX_killsAllKilled_2 post (nI s) n t (nI L) h nx o go tr mp mo mg ks p (d + 1) (nI j) := by
  intro d
  induction d with
  | zero =>
    intro j hj hA
    have ej : j = L := by omega
    subst ej
    exact br_t (nI_le (Nat.le_refl _) (by omega)) (h1 hA)
  | succ d ih =>
    intro j hj hA
    have cj : (nI j).toNatClampNeg = j := nI_clamp (by omega)
    have vj : vp_in (nI j) 30 := vp_in_nI (by omega) (by decide)
    obtain ⟨ej, hj64⟩ := hK j (by omega)
    refine br_f (nI_ge (by omega) (by omega)) ⟨vj, ?_⟩
    rw [cj, ej]
    refine br_c (fun z => nm_r (nI_1 j) (ih (j + 1) (by omega) ?_)) (fun z => ⟨vj, br_c (fun y => h0 ?_) (fun y => nm_r (nI_1 j) (ih (j + 1) (by omega) ?_))⟩)
    · have z' : K j = 0 := (nI_eq (b := 0) (by omega) (by decide)).mp z
      exact lt_s hA (fun q => absurd z' q)
    · intro hall
      have y' := (mr_and0 hj64).mp y
      exact hall j (by omega) (fun q => z (by rw [q]; rfl)) y'
    · exact lt_s hA (fun _ q => y ((mr_and0 hj64).mpr q))
theorem xn_all {post : Int32 → Prop} {n t : Int32} {s : Nat} (hL : L ≤ 30) (hK : ∀ j, j < L → ks j = nI (K j) ∧ K j < 64) (h1 : mr_A K L s → post 1) (h0 : ¬ mr_A K L s → post 0) :
    wpX_killsAllKilled post (n, t, nI L, h, nx, o, go, tr, mp, mo, mg, ks, p) (nI s) :=
  ⟨L + 1, xn_all_l hL hK h1 h0 L 0 (by omega) (fun m hm => absurd hm (Nat.not_lt_zero m))⟩
theorem xn_need_l {post : Int32 → SX → Prop} {n t : Int32} {E b : Nat} (hE : E ≤ 63) (hb : b ≤ 6) (hL : L ≤ 30) (hK : ∀ j, j < L → ks j = nI (K j) ∧ K j < 64)
    (H : ∀ r, mr_MI K L b E r → post (nI r) (n, t, nI L, h, nx, o, go, tr, mp, mo, mg, ks, p)) :
    ∀ (d c r : Nat), c + d = E → mr_MI K L b c r → wX_needed_20 post (nI E) n t (nI L) h nx o go tr mp mo mg ks p (d + 1) (nI r) (nI c) := by
  intro d
  induction d with
  | zero =>
    intro c r hc hM
    have ec : c = E := by omega
    subst ec
    exact br_t (nI_le (Nat.le_refl _) (by omega)) (H r hM)
  | succ d ih =>
    intro c r hc hM
    have hr : r ≤ b := hM.2.1
    have hp := mr_pc_le c 6
    refine br_f (nI_ge (by omega) (by omega)) (xn_mem (by omega) ?_)
    refine pk_le r (mr_pc c 6) (fun z => nm_r (nI_1 c) (ih (c + 1) r (by omega) (mr_MI_n hM (Or.inl z)))) (fun z => xn_all hL hK (fun hA => br_f (by decide) (nm_r (nI_1 c) (ih (c + 1) _ (by omega) (mr_MI_y hM z hA)))) (fun hA => br_t rfl (nm_r (nI_1 c) (ih (c + 1) r (by omega) (mr_MI_n hM (Or.inr hA))))))
theorem xn_needed {post : Int32 → SX → Prop} (hX : mr_XI o g go N mp mo mg) (hT : mr_TI tr T)
    (H : ∀ r h nx ks' p', mr_Min (mr_K o g N tr T) (mr_ml o g N).length r → post (nI r) (nI N, nI T, nI (mr_ml o g N).length, h, nx, o, go, tr, mp, mo, mg, ks', p')) :
    wpX_needed post (nI N, nI T, nI (mr_ml o g N).length, h, nx, o, go, tr, mp, mo, mg, ks, p) := by
  unfold wpX_needed
  dsimp only
  have hT6 := hT.1
  have h30 := mr_ml_30 hX.1
  have h2 := mr_p2 T (by omega)
  refine xn_fill hX hT (fun h1 nx1 ks1 p1 hk => nm_r (e' := nI (2 ^ T - 1)) ?_ ⟨2 ^ T - 1 + 1, ?_⟩)
  · dsimp only
    rw [mr_sh T (by omega)]
    exact pk_sub (a := 2 ^ T) (b := 1) h2.1
  · refine xn_need_l (K := mr_K o g N tr T) (b := T) (by omega) hT6 h30 (fun j hj => ⟨hk j hj, ?_⟩) (fun r hr => H r h1 nx1 ks1 p1 (mr_MI_x hT6 (fun m hm => mr_K_lt o g N tr T m) hr)) (2 ^ T - 1) 0 T (by omega) (mr_MI_0 _ _ _)
    have := mr_K_lt o g N tr T j
    omega
theorem xn_sm_l {post : Int32 → Prop} {n t : Int32} {m : Nat} (hL : L ≤ 30) (hm : K m < 64) (hK : ∀ j, j < L → ks j = nI (K j) ∧ K j < 64) (h1 : (∃ l, l < L ∧ mr_S K m l) → post 1) (h0 : (∀ l, l < L → ¬ mr_S K m l) → post 0) :
    ∀ (d j : Nat), j + d = L → (∀ l, l < j → ¬ mr_S K m l) → wX_hasSmallerSet_2 post (nI (K m)) n t (nI L) h nx o go tr mp mo mg ks p (d + 1) (nI j) := by
  intro d
  induction d with
  | zero =>
    intro j hj hA
    have ej : j = L := by omega
    subst ej
    exact br_t (nI_le (Nat.le_refl _) (by omega)) (h0 hA)
  | succ d ih =>
    intro j hj hA
    have cj : (nI j).toNatClampNeg = j := nI_clamp (by omega)
    have vj : vp_in (nI j) 30 := vp_in_nI (by omega) (by decide)
    obtain ⟨ej, hj64⟩ := hK j (by omega)
    refine br_f (nI_ge (by omega) (by omega)) ⟨vj, ?_⟩
    rw [cj, ej]
    refine nm_e (br_c (fun z => nm_r (nI_1 j) (ih (j + 1) (by omega) ?_)) (fun z => br_c (fun y => nm_r (nI_1 j) (ih (j + 1) (by omega) ?_)) (fun y => br_c (fun x => h1 ?_) (fun x => nm_r (nI_1 j) (ih (j + 1) (by omega) ?_)))))
    · have z' : K j = 0 := (nI_eq (b := 0) (by omega) (by decide)).mp z
      exact lt_s hA (fun q => q.1 z')
    · have y' : K j = K m := (nI_eq (by omega) (by omega)).mp y
      exact lt_s hA (fun q => q.2.1 y')
    · exact ⟨j, by omega, fun q => z (by rw [q]; rfl), fun q => y (by rw [q]), (mr_andE hj64 hj64).mp x⟩
    · exact lt_s hA (fun q => x ((mr_andE hj64 hj64).mpr q.2.2))
theorem xn_sm {post : Int32 → Prop} {n t : Int32} {m : Nat} (hL : L ≤ 30) (hm : K m < 64) (hK : ∀ j, j < L → ks j = nI (K j) ∧ K j < 64) (h1 : (∃ l, l < L ∧ mr_S K m l) → post 1) (h0 : (∀ l, l < L → ¬ mr_S K m l) → post 0) :
    wpX_hasSmallerSet post (n, t, nI L, h, nx, o, go, tr, mp, mo, mg, ks, p) (nI (K m)) :=
  ⟨L + 1, xn_sm_l hL hm hK h1 h0 L 0 (by omega) (fun m hm => absurd hm (Nat.not_lt_zero m))⟩
theorem xn_lead_l {post : Int32 → SX → Prop} {n t : Int32} (hL : L ≤ 30) (hK : ∀ j, j < L → ks j = nI (K j) ∧ K j < 64)
    (H : post (nI (mr_ct (mr_L K L) L)) (n, t, nI L, h, nx, o, go, tr, mp, mo, mg, ks, p)) :
    ∀ (d j : Nat), j + d = L → wX_leading_8 post n t (nI L) h nx o go tr mp mo mg ks p (d + 1) (nI (mr_ct (mr_L K L) j)) (nI j) := by
  intro d
  induction d with
  | zero =>
    intro j hj
    have ej : j = L := by omega
    subst ej
    exact br_t (nI_le (Nat.le_refl _) (by omega)) H
  | succ d ih =>
    intro j hj
    have cj : (nI j).toNatClampNeg = j := nI_clamp (by omega)
    have vj : vp_in (nI j) 30 := vp_in_nI (by omega) (by decide)
    obtain ⟨ej, hj64⟩ := hK j (by omega)
    have q := ih (j + 1) (by omega)
    refine br_f (nI_ge (by omega) (by omega)) ⟨vj, ?_⟩
    rw [cj, ej]
    refine br_c (fun z => nm_r (nI_1 j) ?_) (fun z => ⟨vj, xn_sm hL hj64 hK (fun y => br_f (by decide) (nm_r (nI_1 j) ?_)) (fun y => br_t rfl (nm_r (nI_1 _) (nm_r (nI_1 j) ?_)))⟩)
    · have z' : K j = 0 := (nI_eq (b := 0) (by omega) (by decide)).mp z
      have hn : ¬ mr_L K L j := fun w => w.1 z'
      rw [mr_ct_f hn] at q
      exact q
    · obtain ⟨l, hl, hs⟩ := y
      have hn : ¬ mr_L K L j := fun w => w.2 l hl hs
      rw [mr_ct_f hn] at q
      exact q
    · have hn : mr_L K L j := ⟨fun w => z (by rw [w]; rfl), y⟩
      rw [mr_ct_t hn] at q
      exact q
theorem xn_leading {post : Int32 → SX → Prop} (hX : mr_XI o g go N mp mo mg) (hT : mr_TI tr T)
    (H : ∀ h nx ks' p', post (nI (mr_ct (mr_L (mr_K o g N tr T) (mr_ml o g N).length) (mr_ml o g N).length)) (nI N, nI T, nI (mr_ml o g N).length, h, nx, o, go, tr, mp, mo, mg, ks', p')) :
    wpX_leading post (nI N, nI T, nI (mr_ml o g N).length, h, nx, o, go, tr, mp, mo, mg, ks, p) := by
  unfold wpX_leading
  dsimp only
  have h64 := mr_64 hT.1
  have h30 := mr_ml_30 hX.1
  refine xn_fill hX hT (fun h1 nx1 ks1 p1 hk => ⟨(mr_ml o g N).length + 1, ?_⟩)
  refine xn_lead_l (K := mr_K o g N tr T) h30 (fun j hj => ⟨hk j hj, ?_⟩) (H h1 nx1 ks1 p1) (mr_ml o g N).length 0 (by omega)
  have := mr_K_lt o g N tr T j
  omega
end
