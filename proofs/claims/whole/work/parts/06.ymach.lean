theorem mr_n10 : ¬ (1 : Int32) = 0 := by decide
section
variable {n t tp pl po pn : Int32} {o g tr ks : Nat → Int32}
theorem yp_pop0 {post : Int32 → SY → Prop} {p : Nat → Int32} (h : post 0 (n, t, nI 0, 1, pl, po, pn, o, g, tr, p, ks)) : wpY_pop post (n, t, nI 0, tp, pl, po, pn, o, g, tr, p, ks) := br_t nI_0 h
theorem yp_popc {post : Int32 → SY → Prop} {k : Nat} {p : Nat → Int32} (hk : k < 6) (h : post (p k) (n, t, nI k, tp, pl, po, pn, o, g, tr, p, ks)) : wpY_pop post (n, t, nI (k + 1), tp, pl, po, pn, o, g, tr, p, ks) := by
  refine br_f (nI_ne0 (n := k + 1) (by omega) (by omega)) (nm_r (nI_pred k) ⟨vp_in_nI hk (by decide), ?_⟩)
  rw [nI_clamp (by omega)]
  exact h
theorem yp_push {post : SY → Prop} {k : Nat} {x : Int32} {p : Nat → Int32} (hk : k < 6) (hx : mr_rg x) (h : post (n, t, nI (k + 1), tp, pl, po, pn, o, g, tr, upd p k x, ks)) : wpY_push post (n, t, nI k, tp, pl, po, pn, o, g, tr, p, ks) x := by
  have e6 : ¬ nI k = 6 := fun z => by
    have := (nI_eq (a := k) (b := 6) (by omega) (by decide)).mp z
    omega
  refine br_f e6 (br_f (Int32.not_lt.mpr hx.1) (br_t hx.2 ⟨vp_in_nI hk (by decide), fun a ea b eb => ?_⟩))
  rw [ea, eb, nI_clamp (by omega), nI_1]
  exact h
theorem yp_pushF {post : SY → Prop} {x : Int32} {p : Nat → Int32} (h : post (n, t, nI 6, 1, pl, po, pn, o, g, tr, p, ks)) : wpY_push post (n, t, nI 6, tp, pl, po, pn, o, g, tr, p, ks) x := br_t rfl h
theorem yp_pushR {post : SY → Prop} {k : Nat} {x : Int32} {p : Nat → Int32} (hx : x < -1000 ∨ 1000 < x) (h : post (n, t, nI k, 1, pl, po, pn, o, g, tr, p, ks)) : wpY_push post (n, t, nI k, tp, pl, po, pn, o, g, tr, p, ks) x :=
  br_c (fun _ => h) (fun _ => br_c (fun _ => h) (fun e2 => br_f (Int32.not_le.mpr (hx.resolve_left e2)) h))
theorem yp_o61 {post : SY → Prop} {k : Nat} {z : Int32} {p : Nat → Int32} (hk : k < 6) (h0 : (z < -1000 ∨ 1000 < z) → post (n, t, nI k, 1, pl, po, pn, o, g, tr, p, ks))
    (h1 : ¬ (z < -1000 ∨ 1000 < z) → post (n, t, nI (k + 1), 0, pl, po, pn, o, g, tr, upd p k z, ks)) : wY_operate_61 post z n t (nI k) 0 pl po pn o g tr p ks := by
  unfold wY_operate_61
  by_cases hz : z < -1000 ∨ 1000 < z
  · exact yp_pushR hz (h0 hz)
  · exact yp_push hk (mr_rg_n hz) (h1 hz)
theorem yp_operate {post : SY → Prop} {op : Int32} {s : List Int32} {p : Nat → Int32} {j : Nat} (hG : mr_G s) (hp : mr_pr p s)
    (h0 : mr_cmb op j s = none → ∀ h p', post (n, t, h, 1, pl, po, pn, o, g, tr, p', ks))
    (h1 : ∀ s' j', mr_cmb op j s = some (s', j') → ∀ p', mr_pr p' s' → j' = j → post (n, t, nI s'.length, 0, pl, po, pn, o, g, tr, p', ks)) :
    wpY_operate post (n, t, nI s.length, 0, pl, po, pn, o, g, tr, p, ks) op := by
  unfold wpY_operate
  dsimp only
  match s, hG, hp, h0, h1 with
  | [], hG, hp, h0, h1 => exact yp_pop0 (yp_pop0 (br_f mr_n10 (h0 rfl _ _)))
  | [y], hG, hp, h0, h1 => exact yp_popc (k := 0) (by decide) (yp_pop0 (br_f mr_n10 (h0 rfl _ _)))
  | y :: x :: tl, hG, hp, h0, h1 =>
    have hl : tl.length + 2 ≤ 6 := hG.1
    have py : p (tl.length + 1) = y := hp.1
    have px : p tl.length = x := hp.2.1
    have key : ∀ z, z = mr_ar op x y → wY_operate_61 post z n t (nI tl.length) 0 pl po pn o g tr p ks := by
      intro z ez
      subst ez
      exact yp_o61 (by omega) (fun hr => h0 (if_pos hr) _ _) (fun hr => h1 (mr_ar op x y :: tl) j (if_neg hr) _ (mr_pr_c hp.2.2) rfl)
    refine yp_popc (k := tl.length + 1) (by omega) (yp_popc (k := tl.length) (by omega) (br_t rfl ?_))
    dsimp only
    rw [py, px]
    unfold mr_ar at key
    refine br_c (fun e => key _ ?_) (fun e2 => br_c (fun e => key _ ?_) (fun e3 => br_c (fun e => key _ ?_) (fun e4 => br_c (fun e => key _ ?_) (fun e => key _ ?_))))
    · rw [if_pos e]
    · rw [if_neg e2, if_pos e]
    · rw [if_neg e2, if_neg e3, if_pos e]
    · rw [if_neg e2, if_neg e3, if_neg e4, if_neg (Int32.not_lt.mpr e)]
    · rw [if_neg e2, if_neg e3, if_neg e4, if_pos (Int32.not_le.mp e)]
theorem yp_rea6 {post : SY → Prop} {s : List Int32} {p : Nat → Int32} {j : Nat} (hG : mr_G s) (hp : mr_pr p s)
    (h0 : mr_dup j s = none → ∀ h p', post (n, t, h, 1, pl, po, pn, o, g, tr, p', ks))
    (h1 : ∀ s' j', mr_dup j s = some (s', j') → ∀ p', mr_pr p' s' → j' = j → post (n, t, nI s'.length, 0, pl, po, pn, o, g, tr, p', ks)) :
    wpY_rearrange post (n, t, nI s.length, 0, pl, po, pn, o, g, tr, p, ks) 6 := by
  unfold wpY_rearrange
  dsimp only
  cases s with
  | nil => exact yp_pop0 (br_t rfl (br_f mr_n10 (br_f (by decide) (h0 rfl _ _))))
  | cons x tl =>
    have hl : tl.length + 1 ≤ 6 := hG.1
    have px : p tl.length = x := hp.1
    refine yp_popc (k := tl.length) (by omega) (br_t rfl (br_t rfl ?_))
    dsimp only
    rw [px]
    refine yp_push (k := tl.length) (by omega) (mr_Gh hG) ?_
    dsimp only
    by_cases h6 : tl.length + 1 < 6
    · exact yp_push (k := tl.length + 1) h6 (mr_Gh hG) (br_f (by decide) (h1 (x :: x :: tl) j (if_pos h6) (upd (upd p tl.length x) (tl.length + 1) x) ⟨pk_us, by rw [pk_un (show (tl.length : Nat) ≠ tl.length + 1 by omega)]; exact pk_us, mr_pr_u (mr_pr_u hp.2 (Nat.le_refl _)) (by omega)⟩ rfl))
    · have e : tl.length + 1 = 6 := by omega
      have hn : mr_dup j (x :: tl) = none := if_neg h6
      rw [e]
      exact yp_pushF (br_f (by decide) (h0 hn _ _))
theorem yp_rea7 {post : SY → Prop} {s : List Int32} {p : Nat → Int32} {j : Nat} (hG : mr_G s) (hp : mr_pr p s)
    (h0 : mr_swp j s = none → ∀ h p', post (n, t, h, 1, pl, po, pn, o, g, tr, p', ks))
    (h1 : ∀ s' j', mr_swp j s = some (s', j') → ∀ p', mr_pr p' s' → j' = j → post (n, t, nI s'.length, 0, pl, po, pn, o, g, tr, p', ks)) :
    wpY_rearrange post (n, t, nI s.length, 0, pl, po, pn, o, g, tr, p, ks) 7 := by
  unfold wpY_rearrange
  dsimp only
  match s, hG, hp, h0, h1 with
  | [], hG, hp, h0, h1 => exact yp_pop0 (br_f (by decide) (br_t rfl (yp_pop0 (br_f mr_n10 (h0 rfl _ _)))))
  | [y], hG, hp, h0, h1 => exact yp_popc (k := 0) (by decide) (br_f (by decide) (br_t rfl (yp_pop0 (br_f mr_n10 (h0 rfl _ _)))))
  | x :: y :: tl, hG, hp, h0, h1 =>
    have hl : tl.length + 2 ≤ 6 := hG.1
    have px : p (tl.length + 1) = x := hp.1
    have py : p tl.length = y := hp.2.1
    refine yp_popc (k := tl.length + 1) (by omega) (br_f (by decide) (br_t rfl (yp_popc (k := tl.length) (by omega) (br_t rfl ?_))))
    dsimp only
    rw [px, py]
    exact yp_push (k := tl.length) (by omega) (mr_Gh hG) (yp_push (k := tl.length + 1) (by omega) (mr_Gh (mr_Gt hG)) (h1 (y :: x :: tl) j rfl (upd (upd p tl.length x) (tl.length + 1) y) ⟨pk_us, by rw [pk_un (show (tl.length : Nat) ≠ tl.length + 1 by omega)]; exact pk_us, mr_pr_u (mr_pr_u hp.2.2 (Nat.le_refl _)) (by omega)⟩ rfl))
theorem yp_29 {post : Int32 → SY → Prop} {k i : Nat} {x : Int32} {p : Nat → Int32} (hk : k ≤ 6) (hx : mr_rg x) (h0 : ¬ k < 6 → ∀ r h p', post r (n, t, h, 1, pl, po, pn, o, g, tr, p', ks))
    (h1 : k < 6 → post (nI (i + 1)) (n, t, nI (k + 1), 0, pl, po, pn, o, g, tr, upd p k x, ks)) : wY_execute_29 post (nI i) x n t (nI k) 0 pl po pn o g tr p ks := by
  unfold wY_execute_29
  rw [nI_1 i]
  by_cases h : k < 6
  · exact yp_push h hx (h1 h)
  · have e : k = 6 := by omega
    subst e
    exact yp_pushF (h0 h _ _ _)
theorem yp_opAt {post : Int32 → Prop} {x op h : Int32} {p : Nat → Int32} (e1 : x = pl → po = op) (e2 : ¬ x = pl → vp_in x 10 ∧ o x.toNatClampNeg = op) (H : post op) : wpY_opAt post (n, t, h, tp, pl, po, pn, o, g, tr, p, ks) x :=
  br_c (fun e => by rw [e1 e]; exact H) (fun e => ⟨(e2 e).1, by rw [(e2 e).2]; exact H⟩)
theorem yp_nuAt {post : Int32 → Prop} {x a h : Int32} {p : Nat → Int32} (e1 : x = pl → pn = a) (e2 : ¬ x = pl → vp_in x 10 ∧ g x.toNatClampNeg = a) (H : post a) : wpY_numberAt post (n, t, h, tp, pl, po, pn, o, g, tr, p, ks) x :=
  br_c (fun e => by rw [e1 e]; exact H) (fun e => ⟨(e2 e).1, by rw [(e2 e).2]; exact H⟩)
theorem yp_exec {post : Int32 → SY → Prop} {op a inp : Int32} {i : Nat} {s : List Int32} {p : Nat → Int32} (hC : (op, a) ∈ mr_C) (hi : i < 10) (hinp : mr_rg inp)
    (e1 : nI i = pl → po = op ∧ pn = a) (e2 : ¬ nI i = pl → o i = op ∧ g i = a) (hG : mr_G s) (hp : mr_pr p s)
    (h0 : mr_st op a inp i s = none → ∀ r h p', post r (n, t, h, 1, pl, po, pn, o, g, tr, p', ks))
    (h1 : ∀ s' i', mr_st op a inp i s = some (s', i') → ∀ p', mr_pr p' s' → post (nI i') (n, t, nI s'.length, 0, pl, po, pn, o, g, tr, p', ks)) :
    wpY_execute post (n, t, nI s.length, 0, pl, po, pn, o, g, tr, p, ks) (nI i) inp := by
  have vi : vp_in (nI i) 10 := vp_in_nI hi (by decide)
  have ci : (nI i).toNatClampNeg = i := nI_clamp (by omega)
  have q1 : ¬ nI i = pl → vp_in (nI i) 10 ∧ o (nI i).toNatClampNeg = op := fun e => ⟨vi, by rw [ci]; exact (e2 e).1⟩
  have q2 : ¬ nI i = pl → vp_in (nI i) 10 ∧ g (nI i).toNatClampNeg = a := fun e => ⟨vi, by rw [ci]; exact (e2 e).2⟩
  unfold wpY_execute
  dsimp only
  refine yp_opAt (fun e => (e1 e).1) q1 (yp_nuAt (fun e => (e1 e).2) q2 ?_)
  rcases mr_C_op _ hC with e | e | e | e | e | e | e
  · change op = 0 at e
    have hx := mr_C_0 _ hC e
    subst e
    rw [mr_st_0] at h0 h1
    exact br_f (by decide) (br_t rfl (yp_29 hG.1 hx (fun hl => h0 (if_neg hl)) (fun hl => h1 (a :: s) (i + 1) (if_pos hl) _ (mr_pr_c hp))))
  · change op = 1 at e
    subst e
    rw [mr_st_1] at h0 h1
    exact br_f (by decide) (br_f (by decide) (yp_29 hG.1 hinp (fun hl => h0 (if_neg hl)) (fun hl => h1 (inp :: s) (i + 1) (if_pos hl) _ (mr_pr_c hp))))
  · change op = 6 at e
    subst e
    rw [mr_st_6] at h0 h1
    refine br_t (by decide) (br_t (by decide) (br_f (by decide) ?_))
    rw [nI_1 i]
    exact yp_rea6 (j := i + 1) hG hp (fun e h p' => h0 e _ h p') (fun s' j' e p' hp' ej => by
      have := h1 s' j' e p' hp'
      rw [ej] at this
      exact this)
  · change op = 7 at e
    subst e
    rw [mr_st_7] at h0 h1
    refine br_t (by decide) (br_t (by decide) (br_f (by decide) ?_))
    rw [nI_1 i]
    exact yp_rea7 (j := i + 1) hG hp (fun e h p' => h0 e _ h p') (fun s' j' e p' hp' ej => by
      have := h1 s' j' e p' hp'
      rw [ej] at this
      exact this)
  · change op = 8 at e
    have hk := mr_C_8 _ hC e
    subst e
    rw [mr_st_8] at h0 h1
    refine br_t (by decide) (br_t (by decide) (br_t (by decide) ?_))
    have ea : a = nI a.toNatClampNeg := hk.1
    rw [nI_1 i]
    cases s with
    | nil => exact yp_pop0 (br_t rfl (br_t rfl (br_f (by decide) (h0 rfl _ _ _))))
    | cons x tl =>
      have hl : tl.length + 1 ≤ 6 := hG.1
      have px : p tl.length = x := hp.1
      refine yp_popc (k := tl.length) (by omega) (br_t rfl ?_)
      dsimp only
      rw [px]
      refine br_c (fun hz => br_f (by decide) ?_) (fun hz => ?_)
      · rw [nI_1 i]
        refine h1 tl (i + 1) ?_ _ hp.2
        show some (tl, if x = 0 then i + 1 else i + 1 + a.toNatClampNeg) = _
        rw [if_pos hz]
      · rw [ea, nI_add]
        refine h1 tl (i + 1 + a.toNatClampNeg) ?_ _ hp.2
        show some (tl, if x = 0 then i + 1 else i + 1 + a.toNatClampNeg) = _
        rw [if_neg hz]
  · change op = 9 at e
    have hk := mr_C_9 _ hC e
    subst e
    rw [mr_st_9] at h0 h1
    refine br_t (by decide) (br_t (by decide) (br_t (by decide) ?_))
    have ea : a = nI a.toNatClampNeg := hk.1
    cases s with
    | nil => exact yp_pop0 (br_f (by decide) (br_t rfl (br_t (by decide) (h0 rfl _ _ _))))
    | cons x tl =>
      have hl : tl.length + 1 ≤ 6 := hG.1
      have px : p tl.length = x := hp.1
      refine yp_popc (k := tl.length) (by omega) (br_f (by decide) (br_t rfl ?_))
      dsimp only
      rw [px]
      refine br_c (fun hz => ?_) (fun hz => ?_)
      · rw [nI_1 i]
        refine h1 tl (i + 1) ?_ _ hp.2
        show some (tl, if 0 < x then a.toNatClampNeg else i + 1) = _
        rw [if_neg (Int32.not_lt.mpr hz)]
      · rw [ea]
        refine h1 tl a.toNatClampNeg ?_ _ hp.2
        show some (tl, if 0 < x then a.toNatClampNeg else i + 1) = _
        rw [if_pos (Int32.not_le.mp hz)]
  · change op = 2 ∨ op = 3 ∨ op = 4 ∨ op = 5 at e
    rw [mr_st_c e] at h0 h1
    have hge : (2 : Int32) ≤ op := by rcases e with e | e | e | e <;> (rw [e]; decide)
    have hlt : ¬ (6 : Int32) ≤ op := by rcases e with e | e | e | e <;> (rw [e]; decide)
    refine br_t hge (br_f hlt ?_)
    rw [nI_1 i]
    exact yp_operate (j := i + 1) hG hp (fun e h p' => h0 e _ h p') (fun s' j' e p' hp' ej => by
      have := h1 s' j' e p' hp'
      rw [ej] at this
      exact this)
end
section
variable {N : Nat} {t pl po pn : Int32} {o g tr ks : Nat → Int32}
theorem yp_fin {post : Int32 → SY → Prop} {i : Nat} {s : List Int32} {p : Nat → Int32} {P Q : Nat → Int32} {inp : Int32} (hN : N ≤ 10) (hi : i ≤ 13) (hl : s.length ≤ 6) (hp : mr_pr p s)
    (H : ∀ h tp p', post (mr_run P Q N inp 0 i s) (nI N, t, h, tp, pl, po, pn, o, g, tr, p', ks)) :
    wY_run_48 post (nI i) (nI N) t (nI s.length) 0 pl po pn o g tr p ks := by
  refine br_t rfl (pk_le N i (fun h => ?_) (fun h => ?_))
  · rw [mr_run_f 0 s h] at H
    cases s with
    | nil => exact br_t (by decide) (H _ _ _)
    | cons x tl =>
      have hl' : tl.length + 1 ≤ 6 := hl
      have px : p tl.length = x := hp.1
      have e1 : nI (tl.length + 1) - 1 = nI tl.length := nI_pred _
      have c1 : p (nI (tl.length + 1) - 1).toNatClampNeg = x := by rw [e1, nI_clamp (by omega), px]
      refine br_f (nI_ne0 (n := tl.length + 1) (by omega) (by omega)) ⟨?_, ?_⟩
      · show vp_in (nI (tl.length + 1) - 1) 6
        rw [e1]
        exact vp_in_nI (by omega) (by decide)
      · show post (p (nI (tl.length + 1) - 1).toNatClampNeg) _
        rw [c1]
        exact H _ _ _
  · rw [mr_run_0 s h] at H
    exact H _ _ _
theorem yp_trp {post : Int32 → SY → Prop} {f : Nat} {x1 x2 x3 h : Int32} {p : Nat → Int32} (H : post 10001 (nI N, t, h, 1, pl, po, pn, o, g, tr, p, ks)) :
    wY_run_14 post x1 (f + 1) x2 x3 (nI N) t h 1 pl po pn o g tr p ks := by
  have e : wY_run_48 post x2 (nI N) t h 1 pl po pn o g tr p ks := br_f (by decide) H
  exact br_c (fun _ => e) (fun _ => br_c (fun _ => e) (fun _ => br_f (by decide) e))
def yp_E (o g : Nat → Int32) (pl po pn : Int32) (N : Nat) (P Q : Nat → Int32) : Prop := ∀ i, i < N → (nI i = pl → po = P i ∧ pn = Q i) ∧ (¬ nI i = pl → o i = P i ∧ g i = Q i)
theorem yp_run_l {post : Int32 → SY → Prop} {inp : Int32} {P Q : Nat → Int32} (hV : mr_V P Q N) (hinp : mr_rg inp) (hE : yp_E o g pl po pn N P Q) :
    ∀ (d k i : Nat) (s : List Int32) (p : Nat → Int32), k + d = 40 → mr_G s → mr_pr p s → i ≤ 13 →
    (∀ h tp p', post (mr_run P Q N inp d i s) (nI N, t, h, tp, pl, po, pn, o, g, tr, p', ks)) →
    wY_run_14 post inp (d + 1) (nI i) (nI k) (nI N) t (nI s.length) 0 pl po pn o g tr p ks := by
  intro d
  induction d with
  | zero =>
    intro k i s p hk hG hp hi H
    exact br_c (fun _ => yp_fin hV.1 hi hG.1 hp H) (fun _ => br_t (nI_le (a := 40) (by omega) (by omega)) (yp_fin hV.1 hi hG.1 hp H))
  | succ d ih =>
    intro k i s p hk hG hp hi H
    refine pk_le N i (fun h => ?_) (fun h => ?_) rfl rfl (by have := hV.1; omega) (by omega)
    · rw [mr_run_f (d + 1) s h] at H
      refine yp_fin (P := P) (Q := Q) (inp := inp) hV.1 hi hG.1 hp ?_
      rw [mr_run_f 0 s h]
      exact H
    · have hN := hV.1
      refine br_f (nI_ge (b := 40) (by omega) (by decide)) (br_t rfl ?_)
      refine yp_exec (hV.2 i h) (by omega) hinp (hE i h).1 (hE i h).2 hG hp (fun e r h' p' => nm_e (yp_trp ?_)) (fun s' i' e p' hp' => ?_)
      · have := H h' 1 p'
        rw [mr_run_t d h e] at this
        exact this
      · obtain ⟨hG', hi'⟩ := mr_st_ok (hV.2 i h) hinp (by omega) hG e
        refine nm_r (nI_1 k) (ih (k + 1) i' s' p' (by omega) hG' hp' hi' (fun h' tp' p'' => ?_))
        have := H h' tp' p''
        rw [mr_run_s d h e] at this
        exact this
theorem yp_run {post : Int32 → SY → Prop} {inp h tp : Int32} {p P Q : Nat → Int32} (hV : mr_V P Q N) (hinp : mr_rg inp) (hE : yp_E o g pl po pn N P Q)
    (H : ∀ h tp p', post (mr_run P Q N inp 40 0 []) (nI N, t, h, tp, pl, po, pn, o, g, tr, p', ks)) :
    wpY_run post (nI N, t, h, tp, pl, po, pn, o, g, tr, p, ks) inp :=
  ⟨41, yp_run_l hV hinp hE 40 0 0 [] p rfl mr_G0 trivial (by decide) H⟩
end
