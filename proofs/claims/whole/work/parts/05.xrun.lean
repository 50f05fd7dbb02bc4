section
variable {n t mc : Int32} {o go tr mp mo mg ks : Nat → Int32}
theorem xp_exec {post : Int32 → SX → Prop} {op a a' inp : Int32} {i : Nat} {s : List Int32} {p : Nat → Int32} (hC : (op, a) ∈ mr_C) (ha : mr_us op → a' = a) (hG : mr_G s) (hp : mr_pr p s)
    (h0 : mr_st op a inp i s = none → ∀ h nx p', post 0 (n, t, mc, h, nx, o, go, tr, mp, mo, mg, ks, p'))
    (h1 : ∀ s' i', mr_st op a inp i s = some (s', i') → ∀ p', mr_pr p' s' → post 1 (n, t, mc, nI s'.length, nI i', o, go, tr, mp, mo, mg, ks, p')) :
    wpX_execute post (n, t, mc, nI s.length, nI i, o, go, tr, mp, mo, mg, ks, p) op a' inp := by
  unfold wpX_execute
  dsimp only
  refine nm_r (nI_1 i) ?_
  rcases mr_C_op _ hC with e | e | e | e | e | e | e
  · change op = 0 at e
    subst e
    cases ha (Or.inl rfl)
    rw [mr_st_0] at h0 h1
    refine br_f (by decide) (br_f (by decide) (br_t rfl (xp_put hG.1 (fun hl => ⟨rfl, h1 (a :: s) (i + 1) (if_pos hl) _ (mr_pr_c hp)⟩) (fun hl => ⟨rfl, h0 (if_neg hl) _ _ _⟩))))
  · change op = 1 at e
    subst e
    rw [mr_st_1] at h0 h1
    refine br_f (by decide) (br_f (by decide) (br_f (by decide) (br_t rfl (xp_put hG.1 (fun hl => ⟨rfl, h1 (inp :: s) (i + 1) (if_pos hl) _ (mr_pr_c hp)⟩) (fun hl => ⟨rfl, h0 (if_neg hl) _ _ _⟩)))))
  · change op = 6 at e
    subst e
    rw [mr_st_6] at h0 h1
    refine br_f (by decide) (br_f (by decide) (br_f (by decide) (br_f (by decide) (br_f (by decide) (br_f (by decide) (br_f (by decide) (br_f (by decide) (br_t rfl ?_))))))))
    cases s with
    | nil => exact br_t (by decide) (h0 rfl _ _ _)
    | cons x tl =>
      have hl : tl.length + 1 ≤ 6 := hG.1
      have e1 : nI (tl.length + 1) - 1 = nI tl.length := nI_pred _
      have px : p tl.length = x := hp.1
      have c1 : p (nI (tl.length + 1) - 1).toNatClampNeg = x := by rw [e1, nI_clamp (by omega), px]
      refine br_f (nI_nle (n := tl.length + 1) (by omega) (by omega)) ⟨?_, ?_⟩
      · show vp_in (nI (tl.length + 1) - 1) 6
        rw [e1]
        exact vp_in_nI (by omega) (by decide)
      · show wpX_put _ (n, t, mc, nI (tl.length + 1), nI (i + 1), o, go, tr, mp, mo, mg, ks, p) (p (nI (tl.length + 1) - 1).toNatClampNeg)
        rw [c1]
        exact xp_put hl (fun h => br_f (by decide) (h1 (x :: x :: tl) (i + 1) (if_pos h) _ (mr_pr_c hp))) (fun h => br_t rfl (h0 (if_neg h) _ _ _))
  · change op = 7 at e
    subst e
    rw [mr_st_7] at h0 h1
    refine br_f (by decide) (br_f (by decide) (br_f (by decide) (br_f (by decide) (br_f (by decide) (br_f (by decide) (br_f (by decide) (br_f (by decide) (br_f (by decide) (br_t rfl ?_)))))))))
    match s, hG, hp, h0, h1 with
    | [], hG, hp, h0, h1 => exact xp_exch0 (k := 0) (by decide) ⟨rfl, h0 rfl _ _ _⟩
    | [y], hG, hp, h0, h1 => exact xp_exch0 (k := 1) (by decide) ⟨rfl, h0 rfl _ _ _⟩
    | x :: y :: tl, hG, hp, h0, h1 =>
      have hl : tl.length + 2 ≤ 6 := hG.1
      have px : p (tl.length + 1) = x := hp.1
      have py : p tl.length = y := hp.2.1
      refine xp_exch2 (k := tl.length) hl ⟨rfl, h1 (y :: x :: tl) (i + 1) rfl _ ⟨?_, ?_, ?_⟩⟩
      · show upd (upd p (tl.length + 1) (p tl.length)) tl.length (p (tl.length + 1)) (tl.length + 1) = y
        rw [pk_un (by omega), pk_us, py]
      · rw [px]
        exact pk_us
      · exact mr_pr_u (mr_pr_u hp.2.2 (by omega)) (Nat.le_refl _)
  · change op = 8 at e
    have hk := mr_C_8 _ hC e
    subst e
    cases ha (Or.inr (Or.inl rfl))
    rw [mr_st_8] at h0 h1
    refine br_f (by decide) (br_f (by decide) (br_f (by decide) (br_f (by decide) (br_f (by decide) (br_f (by decide) (br_f (by decide) (br_f (by decide) (br_f (by decide) (br_f (by decide) (br_t rfl ?_))))))))))
    have ea : a = nI a.toNatClampNeg := hk.1
    cases s with
    | nil => exact xp_skp0 ⟨rfl, h0 rfl _ _ _⟩
    | cons x tl =>
      have hl : tl.length + 1 ≤ 6 := hG.1
      have px : p tl.length = x := hp.1
      rw [ea]
      refine xp_skp1 (k := tl.length) (by omega) (fun hz => ⟨rfl, h1 tl (i + 1) ?_ _ hp.2⟩) (fun hz => ⟨rfl, h1 tl (i + 1 + a.toNatClampNeg) ?_ _ hp.2⟩)
      · rw [px] at hz
        show some (tl, if x = 0 then i + 1 else i + 1 + a.toNatClampNeg) = _
        rw [if_pos hz]
      · rw [px] at hz
        show some (tl, if x = 0 then i + 1 else i + 1 + a.toNatClampNeg) = _
        rw [if_neg hz]
  · change op = 9 at e
    have hk := mr_C_9 _ hC e
    subst e
    cases ha (Or.inr (Or.inr rfl))
    rw [mr_st_9] at h0 h1
    refine br_f (by decide) (br_f (by decide) (br_f (by decide) (br_f (by decide) (br_f (by decide) (br_f (by decide) (br_f (by decide) (br_f (by decide) (br_f (by decide) (br_f (by decide) (br_f (by decide) (br_t rfl ?_)))))))))))
    have ea : a = nI a.toNatClampNeg := hk.1
    cases s with
    | nil => exact xp_bck0 ⟨rfl, h0 rfl _ _ _⟩
    | cons x tl =>
      have hl : tl.length + 1 ≤ 6 := hG.1
      have px : p tl.length = x := hp.1
      refine xp_bck1 (k := tl.length) (by omega) (fun hz => ⟨rfl, h1 tl (i + 1) ?_ _ hp.2⟩) (fun hz => ⟨rfl, ?_⟩)
      · rw [px] at hz
        show some (tl, if 0 < x then a.toNatClampNeg else i + 1) = _
        rw [if_neg (Int32.not_lt.mpr hz)]
      · rw [px] at hz
        rw [ea]
        refine h1 tl a.toNatClampNeg ?_ _ hp.2
        show some (tl, if 0 < x then a.toNatClampNeg else i + 1) = _
        rw [if_pos (Int32.not_le.mp hz)]
  · change op = 2 ∨ op = 3 ∨ op = 4 ∨ op = 5 at e
    rw [mr_st_c e] at h0 h1
    have hh : wX_execute_124 post op n t mc (nI s.length) (nI (i + 1)) o go tr mp mo mg ks p := xp_124 (j := i + 1) hG hp (fun h h' p' => h0 h h' _ p') (fun s' i' hs p' hp' hi' => by
      have := h1 s' i' hs p' hp'
      rw [hi'] at this
      exact this)
    rcases e with e | e | e | e
    · subst e
      exact br_f (by decide) (br_f (by decide) (br_f (by decide) (br_f (by decide) (br_t rfl hh))))
    · subst e
      exact br_f (by decide) (br_f (by decide) (br_f (by decide) (br_f (by decide) (br_f (by decide) (br_t rfl hh)))))
    · subst e
      exact br_f (by decide) (br_f (by decide) (br_f (by decide) (br_f (by decide) (br_f (by decide) (br_f (by decide) (br_t rfl hh))))))
    · subst e
      exact br_f (by decide) (br_f (by decide) (br_f (by decide) (br_f (by decide) (br_f (by decide) (br_f (by decide) (br_f (by decide) (br_t rfl hh)))))))
end
section
variable {N : Nat} {t mc : Int32} {o go tr mp mo mg ks : Nat → Int32}
/-- the end of a run -/
theorem xp_fin {post : Int32 → SX → Prop} {i : Nat} {s : List Int32} {p : Nat → Int32} {P Q : Nat → Int32} {inp : Int32} (hN : N ≤ 10) (hi : i ≤ 13) (hl : s.length ≤ 6) (hp : mr_pr p s)
    (H : ∀ h nx p', post (mr_run P Q N inp 0 i s) (nI N, t, mc, h, nx, o, go, tr, mp, mo, mg, ks, p')) :
    wX_run_107 post (nI N) t mc (nI s.length) (nI i) o go tr mp mo mg ks p := by
  refine pk_le N i (fun h => ?_) (fun h => ?_)
  · rw [mr_run_f 0 s h] at H
    cases s with
    | nil => exact br_t (by decide) (H _ _ _)
    | cons x tl =>
      have hl' : tl.length + 1 ≤ 6 := hl
      have px : p tl.length = x := hp.1
      have e1 : nI (tl.length + 1) - 1 = nI tl.length := nI_pred _
      have c1 : p (nI (tl.length + 1) - 1).toNatClampNeg = x := by rw [e1, nI_clamp (by omega), px]
      refine br_f (nI_ne0 (n := tl.length + 1) (by omega) (by omega)) ⟨?_, ?_⟩
      · show vp_in (nI (tl.length + 1) - 1) 6
        rw [e1]
        exact vp_in_nI (by omega) (by decide)
      · show post (p (nI (tl.length + 1) - 1).toNatClampNeg) _
        rw [c1]
        exact H _ _ _
  · rw [mr_run_0 s h] at H
    exact H _ _ _
/-- what X runs (m: a mutant's number or -1) is the program P, Q -/
def xp_E (o go mp mo mg : Nat → Int32) (N : Nat) (m : Int32) (P Q : Nat → Int32) : Prop :=
  (m = -1 → ∀ i, i < N → o i = P i ∧ (mr_us (P i) → go i = Q i)) ∧
  (¬ m = -1 → vp_in m 30 ∧ ∀ i, i < N → (mp m.toNatClampNeg = nI i → mo m.toNatClampNeg = P i ∧ (mr_us (P i) → mg m.toNatClampNeg = Q i)) ∧ (¬ mp m.toNatClampNeg = nI i → o i = P i ∧ (mr_us (P i) → go i = Q i)))
theorem xp_run_l {post : Int32 → SX → Prop} {m inp : Int32} {P Q : Nat → Int32} (hV : mr_V P Q N) (hinp : mr_rg inp) (hE : xp_E o go mp mo mg N m P Q) :
    ∀ (d k i : Nat) (s : List Int32) (p : Nat → Int32), k + d = 40 → mr_G s → mr_pr p s → i ≤ 13 →
    (∀ h nx p', post (mr_run P Q N inp d i s) (nI N, t, mc, h, nx, o, go, tr, mp, mo, mg, ks, p')) →
    wX_run_12 post m inp (d + 1) (nI k) (nI N) t mc (nI s.length) (nI i) o go tr mp mo mg ks p := by
  intro d
  induction d with
  | zero =>
    intro k i s p hk hG hp hi H
    exact br_t (nI_le (a := 40) (by omega) (by omega)) (xp_fin hV.1 hi hG.1 hp H)
  | succ d ih =>
    intro k i s p hk hG hp hi H
    refine br_f (nI_ge (b := 40) (by omega) (by decide)) (pk_le N i (fun h => ?_) (fun h => ?_) rfl rfl (by have := hV.1; omega) (by omega))
    · rw [mr_run_f (d + 1) s h] at H
      refine xp_fin (P := P) (Q := Q) (inp := inp) hV.1 hi hG.1 hp ?_
      rw [mr_run_f 0 s h]
      exact H
    · have hN := hV.1
      have vi : vp_in (nI i) 10 := vp_in_nI (by omega) (by decide)
      have ci : (nI i).toNatClampNeg = i := nI_clamp (by omega)
      have hX : ∀ op a', op = P i → (mr_us (P i) → a' = Q i) → wX_run_85 post (wX_run_12 post m inp (d + 1)) m inp (nI k) op a' (nI N) t mc (nI s.length) (nI i) o go tr mp mo mg ks p := by
        intro op a' e1 e2
        subst e1
        unfold wX_run_85
        refine xp_exec (hV.2 i h) e2 hG hp (fun e h nx p' => ?_) (fun s' i' e p' hp' => ?_)
        · refine br_t rfl ?_
          have := H h nx p'
          rw [mr_run_t d (by assumption) e] at this
          exact this
        · obtain ⟨hG', hi'⟩ := mr_st_ok (hV.2 i h) hinp (by omega) hG e
          refine br_f (by decide) (nm_r (nI_1 k) (ih (k + 1) i' s' p' (by omega) hG' hp' hi' (fun h' nx p'' => ?_)))
          have := H h' nx p''
          rw [mr_run_s d h e] at this
          exact this
      refine ⟨vi, nm_e ⟨vi, nm_e ?_⟩⟩
      rw [ci]
      by_cases hm : m = -1
      · obtain ⟨q1, q2⟩ := hE.1 hm i h
        exact br_t hm (hX _ _ q1 q2)
      · obtain ⟨v, q⟩ := hE.2 hm
        refine br_f hm ⟨v, br_c (fun e => ?_) (fun e => ?_)⟩
        · obtain ⟨q1, q2⟩ := (q i h).1 e
          exact ⟨v, nm_e ⟨v, nm_e (hX _ _ q1 q2)⟩⟩
        · obtain ⟨q1, q2⟩ := (q i h).2 e
          exact hX _ _ q1 q2
theorem xp_run {post : Int32 → SX → Prop} {m inp h nx : Int32} {p P Q : Nat → Int32} (hV : mr_V P Q N) (hinp : mr_rg inp) (hE : xp_E o go mp mo mg N m P Q)
    (H : ∀ h nx p', post (mr_run P Q N inp 40 0 []) (nI N, t, mc, h, nx, o, go, tr, mp, mo, mg, ks, p')) :
    wpX_run post (nI N, t, mc, h, nx, o, go, tr, mp, mo, mg, ks, p) m inp :=
  ⟨41, xp_run_l hV hinp hE 40 0 0 [] p rfl mr_G0 trivial (by decide) H⟩
end
