theorem mr_C_i0 : ∀ c ∈ mr_C, c.1 = 0 → (-8 ≤ c.2 ∧ c.2 ≤ 7) := by decide +kernel
theorem mr_C_i8 : ∀ c ∈ mr_C, c.1 = 8 → (0 ≤ c.2 ∧ c.2 ≤ 3) := by decide +kernel
theorem mr_C_i9 : ∀ c ∈ mr_C, c.1 = 9 → (0 ≤ c.2 ∧ c.2 ≤ 9) := by decide +kernel
theorem mr_C_ib : ∀ c ∈ mr_C, 0 ≤ c.1 ∧ c.1 ≤ 9 := by decide +kernel
theorem mr_C_im : ∀ c ∈ mr_C, ¬ c.1 = 0 → ¬ c.1 = 8 → ¬ c.1 = 9 → (¬ c.1 < 1 ∧ ¬ 7 < c.1) := by decide +kernel
theorem mr_C_a0 {a : Int32} (h : ¬ a < -8) (h' : ¬ 7 < a) : ((0 : Int32), a) ∈ mr_C := by
  obtain ⟨j, hj, rfl⟩ := mr_in_of (Int32.not_lt.mp h) (Int32.not_lt.mp h')
  exact mr_C_0i j hj
theorem mr_C_a8 {a : Int32} (h : ¬ a < 0) (h' : a ≤ 3) : ((8 : Int32), a) ∈ mr_C := by
  obtain ⟨j, hj, rfl⟩ := nI_of2 (M := 3) (n := 3) (by decide) h h'
  exact mr_C_8i j (by omega)
theorem mr_C_a9 {a : Int32} (h : ¬ a < 0) (h' : a ≤ 9) : ((9 : Int32), a) ∈ mr_C := by
  obtain ⟨j, hj, rfl⟩ := nI_of2 (M := 9) (n := 9) (by decide) h h'
  exact mr_C_9i j (by omega)
theorem mr_C_am {op : Int32} (h : ¬ op < 0) (h0 : ¬ op = 0) (h' : op ≤ 7) : (op, (0 : Int32)) ∈ mr_C := by
  obtain ⟨j, hj, rfl⟩ := nI_of2 (M := 7) (n := 7) (by decide) h h'
  refine mr_C_m j (by omega) ?_
  rcases Nat.eq_zero_or_pos j with e | e
  · subst e
    exact absurd nI_0 h0
  · exact e
/-- the number that an instruction counts with -/
def mr_nm (op a : Int32) : Int32 := if op = 0 ∨ 7 < op then a else 0
theorem mr_nm_us {op a : Int32} (h : mr_us op) : a = mr_nm op a := by
  unfold mr_nm
  rw [if_pos]
  rcases h with e | e | e
  · exact Or.inl e
  · rw [e]; exact Or.inr (by decide)
  · rw [e]; exact Or.inr (by decide)
theorem mr_nm_m {op a : Int32} (h0 : ¬ op = 0) (h7 : ¬ 7 < op) : mr_nm op a = 0 := if_neg (fun z => z.elim h0 h7)
theorem mr_lt1 {op : Int32} (h : ¬ op < 1) : ¬ op < 0 := fun z => h (Int32.lt_trans z (by decide))
theorem xq_ins {post : Int32 → Prop} {op a : Int32} (h1 : (op, mr_nm op a) ∈ mr_C → post 1) (h0 : ¬ (op, mr_nm op a) ∈ mr_C → post 0) : wpX_isInstruction post op a := by
  refine br_c (fun e => ?_) (fun e0 => br_c (fun e => ?_) (fun e8 => br_c (fun e => ?_) (fun e9 => ?_)))
  · subst e
    have en : mr_nm 0 a = a := (mr_nm_us (Or.inl rfl)).symm
    rw [en] at h0 h1
    refine br_c (fun z => ⟨rfl, h0 (fun w => ?_)⟩) (fun z => br_c (fun y => ⟨rfl, h0 (fun w => ?_)⟩) (fun y => ⟨rfl, h1 (mr_C_a0 z y)⟩))
    · exact Int32.not_lt.mpr (mr_C_i0 _ w rfl).1 z
    · exact Int32.not_lt.mpr (mr_C_i0 _ w rfl).2 y
  · subst e
    have en : mr_nm 8 a = a := (mr_nm_us (Or.inr (Or.inl rfl))).symm
    rw [en] at h0 h1
    refine br_c (fun z => h0 (fun w => ?_)) (fun z => br_c (fun y => h0 (fun w => ?_)) (fun y => h1 (mr_C_a8 z (Int32.not_lt.mp y))))
    · exact Int32.not_lt.mpr (mr_C_i8 _ w rfl).1 z
    · exact Int32.not_lt.mpr (mr_C_i8 _ w rfl).2 y
  · subst e
    have en : mr_nm 9 a = a := (mr_nm_us (Or.inr (Or.inr rfl))).symm
    rw [en] at h0 h1
    refine br_c (fun z => h0 (fun w => ?_)) (fun z => br_c (fun y => h0 (fun w => ?_)) (fun y => h1 (mr_C_a9 z (Int32.not_lt.mp y))))
    · exact Int32.not_lt.mpr (mr_C_i9 _ w rfl).1 z
    · exact Int32.not_lt.mpr (mr_C_i9 _ w rfl).2 y
  · refine br_c (fun z => h0 (fun w => (mr_C_im _ w e0 e8 e9).1 z)) (fun z => br_c (fun y => h0 (fun w => (mr_C_im _ w e0 e8 e9).2 y)) (fun y => h1 ?_))
    rw [mr_nm_m e0 y]
    exact mr_C_am (mr_lt1 z) e0 (Int32.not_lt.mp y)
section
variable {N : Nat} {t h tp pl po pn : Int32} {o g tr p ks : Nat → Int32}
theorem yq_56 {post : Int32 → SY → Prop} {op a : Int32} (hN : N ≤ 10) (hF : N = 10 → post (-10002) (nI N, t, h, tp, pl, po, pn, o, g, tr, p, ks))
    (h1 : N < 10 → post (nI N) (nI (N + 1), t, h, tp, pl, po, pn, upd o N op, upd g N (mr_nm op a), tr, p, ks)) : wY_append_56 post op a (nI N) t h tp pl po pn o g tr p ks := by
  have cN : (nI N).toNatClampNeg = N := nI_clamp (by omega)
  refine pk_eq N 10 hF (fun z => ?_)
  have hlt : N < 10 := by omega
  have v : vp_in (nI N) 10 := vp_in_nI hlt (by decide)
  have key : ∀ b, b = mr_nm op a → wY_append_102 post b (nI N) (nI N) t h tp pl po pn (upd o N op) g tr p ks := by
    intro b eb
    refine ⟨v, fun x ex y ey => ?_⟩
    rw [ex, ey, cN, nI_1 N, nI_pred, eb]
    exact h1 hlt
  refine ⟨v, ?_⟩
  rw [cN]
  refine nm_e (br_c (fun e => key _ ?_) (fun e => br_c (fun y => key _ ?_) (fun y => key _ ?_)))
  · exact (if_pos (Or.inl e)).symm
  · exact (mr_nm_m e (Int32.not_lt.mpr y)).symm
  · exact (if_pos (Or.inr (Int32.not_le.mp y))).symm
theorem yq_ok {post : Int32 → SY → Prop} {op a : Int32} (hN : N ≤ 10) (hC : (op, mr_nm op a) ∈ mr_C) (hF : N = 10 → post (-10002) (nI N, t, h, tp, pl, po, pn, o, g, tr, p, ks))
    (h1 : N < 10 → post (nI N) (nI (N + 1), t, h, tp, pl, po, pn, upd o N op, upd g N (mr_nm op a), tr, p, ks)) : wpY_append post (nI N, t, h, tp, pl, po, pn, o, g, tr, p, ks) op a := by
  have k56 : wY_append_56 post op a (nI N) t h tp pl po pn o g tr p ks := yq_56 hN hF h1
  have hb := mr_C_ib _ hC
  refine br_f (Int32.not_lt.mpr hb.1) (br_f (Int32.not_lt.mpr hb.2) (br_c (fun e => ?_) (fun e => ?_)))
  · have en : mr_nm op a = a := (mr_nm_us (Or.inl e)).symm
    rw [en] at hC
    have q := mr_C_i0 _ hC e
    exact br_f (Int32.not_lt.mpr q.1) (br_f (Int32.not_lt.mpr q.2) (br_t (by rw [e]; decide) k56))
  · refine br_c (fun _ => k56) (fun z => ?_)
    have z7 : 7 < op := Int32.not_le.mp z
    have en : mr_nm op a = a := if_pos (Or.inr z7)
    rw [en] at hC
    by_cases e8 : op = 8
    · have q := mr_C_i8 _ hC e8
      exact br_f (Int32.not_lt.mpr q.1) (br_t e8 (br_t q.2 k56))
    · have e9 : op = 9 := by
        by_cases e9 : op = 9
        · exact e9
        · exact absurd z7 (mr_C_im _ hC e e8 e9).2
      have q := mr_C_i9 _ hC e9
      exact br_f (Int32.not_lt.mpr q.1) (br_f e8 (br_t q.2 k56))
theorem yq_no {post : Int32 → SY → Prop} {op a : Int32} (hC : ¬ (op, mr_nm op a) ∈ mr_C) (H : post (-10001) (nI N, t, h, tp, pl, po, pn, o, g, tr, p, ks)) :
    wpY_append post (nI N, t, h, tp, pl, po, pn, o, g, tr, p, ks) op a := by
  refine br_c (fun _ => H) (fun z0 => br_c (fun _ => H) (fun z9 => br_c (fun e => br_c (fun _ => H) (fun y => br_c (fun _ => H) (fun y' => absurd ?_ hC))) (fun e => br_c (fun y => absurd ?_ hC) (fun y => br_c (fun _ => H) (fun x => br_c (fun e8 => br_c (fun w => absurd ?_ hC) (fun _ => H)) (fun e8 => br_c (fun w => absurd ?_ hC) (fun _ => H)))))))
  · rw [← mr_nm_us (Or.inl e), e]
    exact mr_C_a0 y y'
  · rw [mr_nm_m e (Int32.not_lt.mpr y)]
    exact mr_C_am z0 e y
  · rw [← mr_nm_us (Or.inr (Or.inl e8)), e8]
    exact mr_C_a8 x w
  · have e9 : op = 9 := by
      obtain ⟨j, hj, rfl⟩ := nI_of2 (M := 9) (n := 9) (by decide) z0 (Int32.not_lt.mp z9)
      have y' : ¬ j ≤ 7 := fun q => y ((nI_leI (b := 7) (by omega) (by decide)).mpr q)
      have e8' : ¬ j = 8 := fun q => e8 (by rw [q]; rfl)
      have ej : j = 9 := by omega
      rw [ej]
      rfl
    rw [← mr_nm_us (Or.inr (Or.inr e9)), e9]
    exact mr_C_a9 x w
end
theorem mr_in_d (x : Int32) : (x < -8 ∨ 7 < x) ∨ ∃ q, q < 16 ∧ x = mr_in q := by
  by_cases h : x < -8
  · exact Or.inl (Or.inl h)
  · by_cases h' : 7 < x
    · exact Or.inl (Or.inr h')
    · exact Or.inr (mr_in_of (Int32.not_lt.mp h) (Int32.not_lt.mp h'))
theorem xq_in1 {post : Int32 → Prop} {q : Nat} (hq : q < 16) (H : post 1) : wpX_isInput post (mr_in q) :=
  br_f (Int32.not_lt.mpr (mr_in_b q hq).1) (br_f (Int32.not_lt.mpr (mr_in_b q hq).2.1) H)
theorem xq_in0 {post : Int32 → Prop} {x : Int32} (hx : x < -8 ∨ 7 < x) (H : post 0) : wpX_isInput post x :=
  br_c (fun _ => H) (fun z => br_t (hx.resolve_left z) H)
theorem yq_in0 {post : Int32 → Prop} {x n t h tp pl po pn : Int32} {o g tr p ks : Nat → Int32} (hx : x < -8 ∨ 7 < x) (H : post 0) : wpY_isInput post (n, t, h, tp, pl, po, pn, o, g, tr, p, ks) x :=
  br_c (fun _ => H) (fun z => br_t (hx.resolve_left z) H)
theorem mr_md (m : Int32) {L : Nat} (hL : L ≤ 30) : m < 0 ∨ (∃ j, j < 2 ^ 31 ∧ m = nI j ∧ L ≤ j) ∨ ∃ j, j < L ∧ m = nI j := by
  by_cases h : m < 0
  · exact Or.inl h
  · obtain ⟨j, hj, rfl⟩ := nI_of h
    by_cases h2 : j < L
    · exact Or.inr (Or.inr ⟨j, h2, rfl⟩)
    · exact Or.inr (Or.inl ⟨j, hj, rfl, by omega⟩)
section
variable {n t h nx : Int32} {o go tr mp mo mg ks p : Nat → Int32} {L T : Nat}
theorem xm_n {post : Int32 → Prop} {m : Int32} (hm : m < 0) (H : post 0) : wpX_isMutant post (n, t, nI L, h, nx, o, go, tr, mp, mo, mg, ks, p) m := br_t hm H
theorem xm_0 {post : Int32 → Prop} {j : Nat} (hj : j < 2 ^ 31) (hl : L ≤ j) (H : post 0) : wpX_isMutant post (n, t, nI L, h, nx, o, go, tr, mp, mo, mg, ks, p) (nI j) :=
  br_f (nI_pos hj) (br_t (nI_le hl hj) H)
theorem xm_1 {post : Int32 → Prop} {j : Nat} (hL : L ≤ 30) (hl : j < L) (H : post 1) : wpX_isMutant post (n, t, nI L, h, nx, o, go, tr, mp, mo, mg, ks, p) (nI j) :=
  br_f (nI_pos (by omega)) (br_f (nI_ge hl (by omega)) H)
theorem xt_l {post : Int32 → Prop} {mc x : Int32} (hT : T ≤ 6) (h1 : (∃ i, i < T ∧ tr i = x) → post 1) (h0 : (∀ i, i < T → ¬ tr i = x) → post 0) :
    ∀ (d j : Nat), j + d = T → (∀ i, i < j → ¬ tr i = x) → wX_isTrial_2 post x n (nI T) mc h nx o go tr mp mo mg ks p (d + 1) (nI j) := by
  intro d
  induction d with
  | zero =>
    intro j hj hA
    have ej : j = T := by omega
    subst ej
    exact br_t (nI_le (Nat.le_refl _) (by omega)) (h0 hA)
  | succ d ih =>
    intro j hj hA
    have cj : (nI j).toNatClampNeg = j := nI_clamp (by omega)
    refine br_f (nI_ge (by omega) (by omega)) ⟨vp_in_nI (by omega) (by decide), ?_⟩
    rw [cj]
    exact br_c (fun z => h1 ⟨j, by omega, z⟩) (fun z => nm_r (nI_1 j) (ih (j + 1) (by omega) (lt_s hA z)))
theorem xt_is {post : Int32 → Prop} {mc x : Int32} (hT : T ≤ 6) (h1 : (∃ i, i < T ∧ tr i = x) → post 1) (h0 : (∀ i, i < T → ¬ tr i = x) → post 0) :
    wpX_isTrial post (n, nI T, mc, h, nx, o, go, tr, mp, mo, mg, ks, p) x :=
  ⟨T + 1, xt_l hT h1 h0 T 0 (by omega) (fun i hi => absurd hi (Nat.not_lt_zero i))⟩
end
section
variable {n h tp pl po pn : Int32} {o g tr p ks : Nat → Int32} {T : Nat}
theorem yt_l {post : Int32 → SY → Prop} {x : Int32} (hT : T ≤ 6) (h1 : (∃ i, i < T ∧ tr i = x) → post (-10004) (n, nI T, h, tp, pl, po, pn, o, g, tr, p, ks))
    (hF : (∀ i, i < T → ¬ tr i = x) → T = 6 → post (-10002) (n, nI T, h, tp, pl, po, pn, o, g, tr, p, ks))
    (h0 : (∀ i, i < T → ¬ tr i = x) → T < 6 → post (nI (T + 1)) (n, nI (T + 1), h, tp, pl, po, pn, o, g, upd tr T x, p, ks)) :
    ∀ (d j : Nat), j + d = T → (∀ i, i < j → ¬ tr i = x) → wY_trial_14 post x n (nI T) h tp pl po pn o g tr p ks (d + 1) (nI j) := by
  intro d
  induction d with
  | zero =>
    intro j hj hA
    have ej : j = T := by omega
    subst ej
    have cj : (nI j).toNatClampNeg = j := nI_clamp (by omega)
    refine br_t (nI_le (Nat.le_refl _) (by omega)) (pk_eq j 6 (hF hA) (fun z => ⟨vp_in_nI (by omega) (by decide), ?_⟩))
    rw [cj]
    exact nm_e (nm_r (nI_1 j) (h0 hA (by omega)))
  | succ d ih =>
    intro j hj hA
    have cj : (nI j).toNatClampNeg = j := nI_clamp (by omega)
    refine br_f (nI_ge (by omega) (by omega)) ⟨vp_in_nI (by omega) (by decide), ?_⟩
    rw [cj]
    exact br_c (fun z => h1 ⟨j, by omega, z⟩) (fun z => nm_r (nI_1 j) (ih (j + 1) (by omega) (lt_s hA z)))
end
section
variable {N T : Nat} {n t h tp pl po pn : Int32} {o g tr p ks : Nat → Int32}
theorem yt_trial {post : Int32 → SY → Prop} {x : Int32} {q : Nat} (hT : T ≤ 6) (hq : q < 16) (eq : x = mr_in q) (h1 : (∃ i, i < T ∧ tr i = x) → post (-10004) (n, nI T, h, tp, pl, po, pn, o, g, tr, p, ks))
    (hF : (∀ i, i < T → ¬ tr i = x) → T = 6 → post (-10002) (n, nI T, h, tp, pl, po, pn, o, g, tr, p, ks))
    (h0 : (∀ i, i < T → ¬ tr i = x) → T < 6 → post (nI (T + 1)) (n, nI (T + 1), h, tp, pl, po, pn, o, g, upd tr T x, p, ks)) :
    wpY_trial post (n, nI T, h, tp, pl, po, pn, o, g, tr, p, ks) x := by
  have hl := yt_l hT h1 hF h0 T 0 (by omega) (fun i hi => absurd hi (Nat.not_lt_zero i))
  subst eq
  unfold wpY_trial
  dsimp only
  exact yk_in hq (br_f mr_n10 ⟨T + 1, hl⟩)
theorem yt_bad {post : Int32 → SY → Prop} {x : Int32} (hx : x < -8 ∨ 7 < x) (H : post (-10001) (n, t, h, tp, pl, po, pn, o, g, tr, p, ks)) : wpY_trial post (n, t, h, tp, pl, po, pn, o, g, tr, p, ks) x := by
  unfold wpY_trial
  dsimp only
  exact yq_in0 hx (br_t rfl H)
theorem yo_bad {post : Int32 → SY → Prop} {m x : Int32} (hx : x < -8 ∨ 7 < x) (H : post (-10001) (n, t, h, tp, pl, po, pn, o, g, tr, p, ks)) : wpY_outcomeOf post (n, t, h, tp, pl, po, pn, o, g, tr, p, ks) m x := by
  unfold wpY_outcomeOf
  dsimp only
  exact yq_in0 hx (br_t rfl H)
theorem yo_neg {post : Int32 → SY → Prop} {m : Int32} {q : Nat} (hq : q < 16) (hm : m < 0) (H : post (-10004) (nI N, t, h, tp, pl, po, pn, o, g, tr, p, ks)) : wpY_outcomeOf post (nI N, t, h, tp, pl, po, pn, o, g, tr, p, ks) m (mr_in q) := by
  unfold wpY_outcomeOf
  dsimp only
  exact yk_in hq (br_f mr_n10 (yf_findN hm (br_t rfl H)))
theorem yo_big {post : Int32 → SY → Prop} {j q : Nat} (hV : mr_V o g N) (hq : q < 16) (hj : j < 2 ^ 31) (hl : (mr_ml o g N).length ≤ j) (H : post (-10004) (nI N, t, h, tp, pl, po, pn, o, g, tr, p, ks)) : wpY_outcomeOf post (nI N, t, h, tp, pl, po, pn, o, g, tr, p, ks) (nI j) (mr_in q) := by
  unfold wpY_outcomeOf
  dsimp only
  exact yk_in hq (br_f mr_n10 (yf_find hV hj (fun e he => by rw [mr_ml_no hl] at he; cases he) (fun _ => br_t rfl H)))
end
theorem mr_ml_app {o g : Nat → Int32} {N : Nat} {op b : Int32} : mr_ml (upd o N op) (upd g N b) (N + 1) = mr_ml o g N ++ (mr_mk op b).map (fun e => (N, e)) := by
  rw [mr_ml, mr_ml_cg (o' := o) (g' := g) (fun i hi => pk_un (by omega)) (fun i hi => pk_un (by omega)), pk_us, pk_us]
