theorem mr_mk_2l (a : Int32) : mr_mk 2 a = [(3, 0), (4, 0), (5, 0)] := by simp [mr_mk]
theorem mr_mk_3l (a : Int32) : mr_mk 3 a = [(2, 0), (4, 0), (5, 0)] := by simp [mr_mk]
theorem mr_mk_4l (a : Int32) : mr_mk 4 a = [(2, 0), (3, 0), (5, 0)] := by simp [mr_mk]
theorem mr_mk_5l (a : Int32) : mr_mk 5 a = [(2, 0), (3, 0), (4, 0)] := by simp [mr_mk]
section
variable {n t h tp pl po pn : Int32} {o g tr p ks : Nat → Int32}
theorem yf_made {post : Int32 → Prop} {i : Nat} (hi : i < 10) (hC : (o i, g i) ∈ mr_C) (H : post (nI (mr_mk (o i) (g i)).length)) :
    wpY_madeAt post (n, t, h, tp, pl, po, pn, o, g, tr, p, ks) (nI i) := by
  have ci : (nI i).toNatClampNeg = i := nI_clamp (by omega)
  have v : vp_in (nI i) 10 := vp_in_nI hi (by decide)
  unfold wpY_madeAt
  dsimp only
  rw [ci]
  refine ⟨v, nm_e ⟨v, ?_⟩⟩
  generalize o i = op at *
  generalize g i = a at *
  rcases mr_C_op _ hC with e | e | e | e | e | e | e | e | e | e
  · change op = 0 at e
    subst e
    rw [mr_mk_0] at H
    refine br_t rfl (br_c (fun z => br_c (fun y => ?_) (fun y => ?_)) (fun z => br_c (fun y => ?_) (fun y => ?_)))
    · rw [if_neg (Int32.not_lt.mpr z), if_neg (Int32.not_lt.mpr y)] at H
      exact H
    · rw [if_neg (Int32.not_lt.mpr z), if_pos (Int32.not_le.mp y)] at H
      exact H
    · rw [if_pos (Int32.not_le.mp z), if_neg (Int32.not_lt.mpr y)] at H
      exact H
    · rw [if_pos (Int32.not_le.mp z), if_pos (Int32.not_le.mp y)] at H
      exact H
  · change op = 1 at e
    subst e
    rw [mr_mk_1] at H
    exact br_f (by decide) ⟨v, br_f (by decide) ⟨v, br_f (by decide) ⟨v, br_t (by decide) H⟩⟩⟩
  · change op = 6 at e
    subst e
    rw [mr_mk_6] at H
    exact br_f (by decide) ⟨v, br_f (by decide) ⟨v, br_f (by decide) ⟨v, br_f (by decide) ⟨v, br_t (by decide) H⟩⟩⟩⟩
  · change op = 7 at e
    subst e
    rw [mr_mk_7] at H
    exact br_f (by decide) ⟨v, br_f (by decide) ⟨v, br_f (by decide) ⟨v, br_f (by decide) ⟨v, br_t (by decide) H⟩⟩⟩⟩
  · change op = 8 at e
    subst e
    rw [mr_mk_8] at H
    refine br_f (by decide) ⟨v, br_t rfl (br_c (fun z => br_c (fun y => ?_) (fun y => ?_)) (fun z => br_c (fun y => ?_) (fun y => ?_)))⟩
    · rw [if_neg (Int32.not_lt.mpr z), if_neg (Int32.not_lt.mpr y)] at H
      exact H
    · rw [if_neg (Int32.not_lt.mpr z), if_pos (Int32.not_le.mp y)] at H
      exact H
    · rw [if_pos (Int32.not_le.mp z), if_neg (Int32.not_lt.mpr y)] at H
      exact H
    · rw [if_pos (Int32.not_le.mp z), if_pos (Int32.not_le.mp y)] at H
      exact H
  · change op = 9 at e
    subst e
    rw [mr_mk_9] at H
    refine br_f (by decide) ⟨v, br_f (by decide) ⟨v, br_t rfl (br_c (fun y => ?_) (fun y => ?_))⟩⟩
    · rw [if_neg (Int32.not_lt.mpr y)] at H
      exact H
    · rw [if_pos (Int32.not_le.mp y)] at H
      exact H
  · change op = 2 at e
    subst e
    rw [mr_mk_2l] at H
    exact br_f (by decide) ⟨v, br_f (by decide) ⟨v, br_f (by decide) ⟨v, br_f (by decide) ⟨v, br_f (by decide) H⟩⟩⟩⟩
  · change op = 3 at e
    subst e
    rw [mr_mk_3l] at H
    exact br_f (by decide) ⟨v, br_f (by decide) ⟨v, br_f (by decide) ⟨v, br_f (by decide) ⟨v, br_f (by decide) H⟩⟩⟩⟩
  · change op = 4 at e
    subst e
    rw [mr_mk_4l] at H
    exact br_f (by decide) ⟨v, br_f (by decide) ⟨v, br_f (by decide) ⟨v, br_f (by decide) ⟨v, br_f (by decide) H⟩⟩⟩⟩
  · change op = 5 at e
    subst e
    rw [mr_mk_5l] at H
    exact br_f (by decide) ⟨v, br_f (by decide) ⟨v, br_f (by decide) ⟨v, br_f (by decide) ⟨v, br_f (by decide) H⟩⟩⟩⟩
theorem yf_choose {post : SY → Prop} {i l : Nat} {q : Int32 × Int32} (hi : i < 10) (hC : (o i, g i) ∈ mr_C) (hq : (mr_mk (o i) (g i))[l]? = some q)
    (H : post (n, t, h, tp, nI i, q.1, q.2, o, g, tr, p, ks)) : wpY_choose post (n, t, h, tp, pl, po, pn, o, g, tr, p, ks) (nI i) (nI l) := by
  have ci : (nI i).toNatClampNeg = i := nI_clamp (by omega)
  have v : vp_in (nI i) 10 := vp_in_nI hi (by decide)
  have nz1 : ¬ nI 1 = 0 := by decide
  unfold wpY_choose
  dsimp only
  rw [ci]
  refine ⟨v, nm_e ⟨v, nm_e ⟨v, ?_⟩⟩⟩
  generalize o i = op at *
  generalize g i = a at *
  rcases mr_C_op _ hC with e | e | e | e | e | e | e | e | e | e
  · change op = 0 at e
    subst e
    rw [mr_mk_0] at hq
    refine br_t rfl ?_
    by_cases z : a < 7
    · rw [if_pos z] at hq
      match l, hq with
      | 0, hq =>
        cases hq
        exact br_t rfl (br_f (Int32.not_le.mpr z) (nm_e H))
      | 1, hq =>
        by_cases y : -8 < a
        · rw [if_pos y] at hq
          cases hq
          exact br_f nz1 (nm_e H)
        · rw [if_neg y] at hq
          cases hq
      | l + 2, hq =>
        by_cases y : -8 < a
        · rw [if_pos y] at hq
          cases hq
        · rw [if_neg y] at hq
          cases hq
    · rw [if_neg z] at hq
      by_cases y : -8 < a
      · rw [if_pos y] at hq
        match l, hq with
        | 0, hq =>
          cases hq
          exact br_t rfl (br_t (Int32.not_lt.mp z) (nm_e H))
        | l + 1, hq => cases hq
      · rw [if_neg y] at hq
        cases hq
  · change op = 1 at e
    subst e
    rw [mr_mk_1] at hq
    match l, hq with
    | 0, hq =>
      cases hq
      exact br_f (by decide) ⟨v, br_f (by decide) ⟨v, br_f (by decide) ⟨v, br_t rfl H⟩⟩⟩
    | l + 1, hq => cases hq
  · change op = 6 at e
    subst e
    rw [mr_mk_6] at hq
    match l, hq with
    | 0, hq =>
      cases hq
      exact br_f (by decide) ⟨v, br_f (by decide) ⟨v, br_f (by decide) ⟨v, br_f (by decide) ⟨v, br_f (by decide) ⟨v, br_t rfl H⟩⟩⟩⟩⟩
    | l + 1, hq => cases hq
  · change op = 7 at e
    subst e
    rw [mr_mk_7] at hq
    match l, hq with
    | 0, hq =>
      cases hq
      exact br_f (by decide) ⟨v, br_f (by decide) ⟨v, br_f (by decide) ⟨v, br_f (by decide) ⟨v, br_f (by decide) ⟨v, br_f (by decide) H⟩⟩⟩⟩⟩
    | l + 1, hq => cases hq
  · change op = 8 at e
    subst e
    rw [mr_mk_8] at hq
    refine br_f (by decide) ⟨v, br_t rfl ?_⟩
    by_cases z : a < 3
    · rw [if_pos z] at hq
      match l, hq with
      | 0, hq =>
        cases hq
        exact br_t rfl (br_f (Int32.not_le.mpr z) (nm_e H))
      | 1, hq =>
        by_cases y : 0 < a
        · rw [if_pos y] at hq
          cases hq
          exact br_f nz1 (nm_e H)
        · rw [if_neg y] at hq
          cases hq
      | l + 2, hq =>
        by_cases y : 0 < a
        · rw [if_pos y] at hq
          cases hq
        · rw [if_neg y] at hq
          cases hq
    · rw [if_neg z] at hq
      by_cases y : 0 < a
      · rw [if_pos y] at hq
        match l, hq with
        | 0, hq =>
          cases hq
          exact br_t rfl (br_t (Int32.not_lt.mp z) (nm_e H))
        | l + 1, hq => cases hq
      · rw [if_neg y] at hq
        cases hq
  · change op = 9 at e
    subst e
    rw [mr_mk_9] at hq
    refine br_f (by decide) ⟨v, br_f (by decide) ⟨v, br_t rfl ?_⟩⟩
    by_cases y : 0 < a
    · rw [if_pos y] at hq
      match l, hq with
      | 0, hq =>
        cases hq
        exact nm_e H
      | l + 1, hq => cases hq
    · rw [if_neg y] at hq
      cases hq
  · change op = 2 at e
    subst e
    rw [mr_mk_2l] at hq
    refine br_f (by decide) ⟨v, br_f (by decide) ⟨v, br_f (by decide) ⟨v, br_f (by decide) ⟨v, br_t (by decide) ⟨v, ?_⟩⟩⟩⟩⟩
    match l, hq with
    | 0, hq => cases hq; exact br_t (by decide) (nm_r (by decide) H)
    | 1, hq => cases hq; exact br_t (by decide) (nm_r (by decide) H)
    | 2, hq => cases hq; exact br_t (by decide) (nm_r (by decide) H)
    | l + 3, hq => cases hq
  · change op = 3 at e
    subst e
    rw [mr_mk_3l] at hq
    refine br_f (by decide) ⟨v, br_f (by decide) ⟨v, br_f (by decide) ⟨v, br_f (by decide) ⟨v, br_t (by decide) ⟨v, ?_⟩⟩⟩⟩⟩
    match l, hq with
    | 0, hq => cases hq; exact br_f (by decide) (nm_r (by decide) H)
    | 1, hq => cases hq; exact br_t (by decide) (nm_r (by decide) H)
    | 2, hq => cases hq; exact br_t (by decide) (nm_r (by decide) H)
    | l + 3, hq => cases hq
  · change op = 4 at e
    subst e
    rw [mr_mk_4l] at hq
    refine br_f (by decide) ⟨v, br_f (by decide) ⟨v, br_f (by decide) ⟨v, br_f (by decide) ⟨v, br_t (by decide) ⟨v, ?_⟩⟩⟩⟩⟩
    match l, hq with
    | 0, hq => cases hq; exact br_f (by decide) (nm_r (by decide) H)
    | 1, hq => cases hq; exact br_f (by decide) (nm_r (by decide) H)
    | 2, hq => cases hq; exact br_t (by decide) (nm_r (by decide) H)
    | l + 3, hq => cases hq
  · change op = 5 at e
    subst e
    rw [mr_mk_5l] at hq
    refine br_f (by decide) ⟨v, br_f (by decide) ⟨v, br_f (by decide) ⟨v, br_f (by decide) ⟨v, br_t (by decide) ⟨v, ?_⟩⟩⟩⟩⟩
    match l, hq with
    | 0, hq => cases hq; exact br_f (by decide) (nm_r (by decide) H)
    | 1, hq => cases hq; exact br_f (by decide) (nm_r (by decide) H)
    | 2, hq => cases hq; exact br_f (by decide) (nm_r (by decide) H)
    | l + 3, hq => cases hq
end
section
variable {N : Nat} {t h tp pl po pn : Int32} {o g tr p ks : Nat → Int32}
theorem mr_ml_sl (o g : Nat → Int32) (i : Nat) : (mr_ml o g (i + 1)).length = (mr_ml o g i).length + (mr_mk (o i) (g i)).length := by
  rw [mr_ml, List.length_append, List.length_map]
theorem yf_find_l {post : Int32 → SY → Prop} {m : Nat} (hV : mr_V o g N) (hm : m < 2 ^ 31)
    (h1 : ∀ e, (mr_ml o g N)[m]? = some e → post 1 (nI N, t, h, tp, nI e.1, e.2.1, e.2.2, o, g, tr, p, ks))
    (h0 : (mr_ml o g N).length ≤ m → post 0 (nI N, t, h, tp, pl, po, pn, o, g, tr, p, ks)) :
    ∀ (d i l : Nat), i + d = N → (mr_ml o g i).length + l = m → wY_find_4 post (nI N) t h tp pl po pn o g tr p ks (d + 1) (nI l) (nI i) := by
  intro d
  have hN := hV.1
  induction d with
  | zero =>
    intro i l hi hl
    have ei : i = N := by omega
    subst ei
    exact br_t (nI_le (Nat.le_refl _) (by omega)) (h0 (by omega))
  | succ d ih =>
    intro i l hi hl
    have hC := hV.2 i (by omega)
    have h3 : (mr_mk (o i) (g i)).length ≤ 3 := mr_mk_len _ hC
    refine br_f (nI_ge (by omega) (by omega)) (br_f (nI_pos (by omega)) (yf_made (by omega) hC ?_))
    refine pk_le (mr_mk (o i) (g i)).length l (fun z => nm_r (pk_sub z) (nm_r (nI_1 i) (ih (i + 1) _ (by omega) (by rw [mr_ml_sl]; omega)))) (fun z => yf_choose (q := (mr_mk (o i) (g i))[l]) (by omega) hC (List.getElem?_eq_getElem z) (h1 (i, (mr_mk (o i) (g i))[l]) ?_))
    have q := mr_ml_pre (mr_ml_at (o := o) (g := g) (List.getElem?_eq_getElem z)) d
    rw [show i + 1 + d = N by omega, hl] at q
    exact q
theorem yf_find {post : Int32 → SY → Prop} {m : Nat} (hV : mr_V o g N) (hm : m < 2 ^ 31)
    (h1 : ∀ e, (mr_ml o g N)[m]? = some e → post 1 (nI N, t, h, tp, nI e.1, e.2.1, e.2.2, o, g, tr, p, ks))
    (h0 : (mr_ml o g N).length ≤ m → post 0 (nI N, t, h, tp, pl, po, pn, o, g, tr, p, ks)) :
    wpY_find post (nI N, t, h, tp, pl, po, pn, o, g, tr, p, ks) (nI m) :=
  ⟨N + 1, yf_find_l hV hm h1 h0 N 0 m (by omega) (Nat.zero_add m)⟩
theorem yf_findN {post : Int32 → SY → Prop} {m : Int32} (hm : m < 0) (h0 : post 0 (nI N, t, h, tp, pl, po, pn, o, g, tr, p, ks)) : wpY_find post (nI N, t, h, tp, pl, po, pn, o, g, tr, p, ks) m :=
  ⟨1, br_c (fun _ => h0) (fun _ => br_t hm h0)⟩
theorem yf_mut_l {post : Int32 → Prop} (hV : mr_V o g N) (H : post (nI (mr_ml o g N).length)) :
    ∀ (d i : Nat), i + d = N → wY_mutants_4 post (nI N) t h tp pl po pn o g tr p ks (d + 1) (nI (mr_ml o g i).length) (nI i) := by
  intro d
  have hN := hV.1
  induction d with
  | zero =>
    intro i hi
    have ei : i = N := by omega
    subst ei
    exact br_t (nI_le (Nat.le_refl _) (by omega)) H
  | succ d ih =>
    intro i hi
    refine br_f (nI_ge (by omega) (by omega)) (yf_made (by omega) (hV.2 i (by omega)) (nm_r ?_ (nm_r (nI_1 i) (ih (i + 1) (by omega)))))
    rw [nI_add, mr_ml_sl]
theorem yf_mut {post : Int32 → Prop} (hV : mr_V o g N) (H : post (nI (mr_ml o g N).length)) : wpY_mutants post (nI N, t, h, tp, pl, po, pn, o, g, tr, p, ks) :=
  ⟨N + 1, yf_mut_l hV H N 0 (by omega)⟩
end
