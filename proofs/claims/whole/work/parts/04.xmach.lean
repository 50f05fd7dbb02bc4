theorem mr_s2 (k : Nat) : nI (k + 2) - 2 = nI k := pk_sub (a := k + 2) (b := 2) (by omega)
def mr_us (op : Int32) : Prop := op = 0 ∨ op = 8 ∨ op = 9
section
variable {n t mc : Int32} {o go tr mp mo mg ks : Nat → Int32}
theorem xp_put {post : Int32 → SX → Prop} {x nx : Int32} {k : Nat} {p : Nat → Int32} (hl : k ≤ 6)
    (h1 : k < 6 → post 1 (n, t, mc, nI (k + 1), nx, o, go, tr, mp, mo, mg, ks, upd p k x)) (h0 : ¬ k < 6 → post 0 (n, t, mc, nI k, nx, o, go, tr, mp, mo, mg, ks, p)) : wpX_put post (n, t, mc, nI k, nx, o, go, tr, mp, mo, mg, ks, p) x := by
  refine pk_lt k 6 (fun h => ⟨vp_in_nI h (by decide), fun a ea b eb => ?_⟩) (fun h => h0 (by omega))
  rw [ea, eb, nI_clamp (by omega), nI_1]
  exact h1 h
theorem xp_exch2 {post : Int32 → SX → Prop} {nx : Int32} {k : Nat} {p : Nat → Int32} (hk : k + 2 ≤ 6)
    (h : post 1 (n, t, mc, nI (k + 2), nx, o, go, tr, mp, mo, mg, ks, upd (upd p (k + 1) (p k)) k (p (k + 1)))) : wpX_exchange post (n, t, mc, nI (k + 2), nx, o, go, tr, mp, mo, mg, ks, p) := by
  have e1 : nI (k + 2) - 1 = nI (k + 1) := nI_pred (k + 1)
  have e2 : nI (k + 2) - 2 = nI k := mr_s2 k
  have v1 : vp_in (nI (k + 1)) 6 := vp_in_nI (by omega) (by decide)
  have v2 : vp_in (nI k) 6 := vp_in_nI (by omega) (by decide)
  have c1 : (nI (k + 1)).toNatClampNeg = k + 1 := nI_clamp (by omega)
  have c2 : (nI k).toNatClampNeg = k := nI_clamp (by omega)
  unfold wpX_exchange
  dsimp only
  rw [e1, e2, c1, c2]
  exact br_t (nI_le (a := 2) (by omega) (by omega)) ⟨v1, fun a ea => ⟨v2, v1, fun b eb => ⟨v2, fun c ec => by rw [ec, eb, ea]; exact h⟩⟩⟩
theorem xp_exch0 {post : Int32 → SX → Prop} {nx : Int32} {k : Nat} {p : Nat → Int32} (hk : k < 2)
    (h : post 0 (n, t, mc, nI k, nx, o, go, tr, mp, mo, mg, ks, p)) : wpX_exchange post (n, t, mc, nI k, nx, o, go, tr, mp, mo, mg, ks, p) := br_f (nI_ge (b := 2) hk (by decide)) h
theorem xp_skp1 {post : Int32 → SX → Prop} {k i d : Nat} {p : Nat → Int32} (hk : k < 6)
    (hz : p k = 0 → post 1 (n, t, mc, nI k, nI i, o, go, tr, mp, mo, mg, ks, p)) (hn : ¬ p k = 0 → post 1 (n, t, mc, nI k, nI (i + d), o, go, tr, mp, mo, mg, ks, p)) : wpX_skip post (n, t, mc, nI (k + 1), nI i, o, go, tr, mp, mo, mg, ks, p) (nI d) := by
  have c2 : (nI k).toNatClampNeg = k := nI_clamp (by omega)
  refine br_t (nI_le (a := 1) (by omega) (by omega)) (nm_r (nI_pred k) ⟨vp_in_nI hk (by decide), ?_⟩)
  rw [c2]
  exact br_c hz (fun h => nm_r (nI_add i d) (hn h))
theorem xp_skp0 {post : Int32 → SX → Prop} {d nx : Int32} {p : Nat → Int32} (h : post 0 (n, t, mc, nI 0, nx, o, go, tr, mp, mo, mg, ks, p)) : wpX_skip post (n, t, mc, nI 0, nx, o, go, tr, mp, mo, mg, ks, p) d :=
  br_f (nI_ge (a := 0) (b := 1) (by decide) (by decide)) h
theorem xp_bck1 {post : Int32 → SX → Prop} {k : Nat} {d nx : Int32} {p : Nat → Int32} (hk : k < 6)
    (hz : p k ≤ 0 → post 1 (n, t, mc, nI k, nx, o, go, tr, mp, mo, mg, ks, p)) (hn : ¬ p k ≤ 0 → post 1 (n, t, mc, nI k, d, o, go, tr, mp, mo, mg, ks, p)) : wpX_goBack post (n, t, mc, nI (k + 1), nx, o, go, tr, mp, mo, mg, ks, p) d := by
  have c2 : (nI k).toNatClampNeg = k := nI_clamp (by omega)
  refine br_t (nI_le (a := 1) (by omega) (by omega)) (nm_r (nI_pred k) ⟨vp_in_nI hk (by decide), ?_⟩)
  rw [c2]
  exact br_c hz hn
theorem xp_bck0 {post : Int32 → SX → Prop} {d nx : Int32} {p : Nat → Int32} (h : post 0 (n, t, mc, nI 0, nx, o, go, tr, mp, mo, mg, ks, p)) : wpX_goBack post (n, t, mc, nI 0, nx, o, go, tr, mp, mo, mg, ks, p) d :=
  br_f (nI_ge (a := 0) (b := 1) (by decide) (by decide)) h
theorem xp_c82 {post : Int32 → SX → Prop} {x4 nx : Int32} {k : Nat} {p : Nat → Int32} (hk : k + 2 ≤ 6)
    (h0 : (x4 < -1000 ∨ 1000 < x4) → post 0 (n, t, mc, nI (k + 2), nx, o, go, tr, mp, mo, mg, ks, p)) (h1 : ¬ (x4 < -1000 ∨ 1000 < x4) → post 1 (n, t, mc, nI (k + 1), nx, o, go, tr, mp, mo, mg, ks, upd p k x4)) :
    wX_combine_82 post x4 n t mc (nI (k + 2)) nx o go tr mp mo mg ks p := by
  refine br_c (fun h => h0 (Or.inl h)) (fun h => br_c (fun h' => nm_r (nI_pred (k + 1)) ⟨?_, fun a ea => ?_⟩) (fun h' => h0 (Or.inr (Int32.not_le.mp h'))))
  · rw [nI_pred]
    exact vp_in_nI (by omega) (by decide)
  · rw [ea, nI_pred, nI_clamp (by omega)]
    exact h1 (fun z => z.elim h (fun z => absurd h' (Int32.not_le.mpr z)))
theorem xp_c44 {post : Int32 → SX → Prop} {op x y z nx : Int32} {k : Nat} {p : Nat → Int32} (hk : k + 2 ≤ 6) (hz : (if x < y then (1 : Int32) else 0) = z)
    (h0 : (mr_ar op x y < -1000 ∨ 1000 < mr_ar op x y) → post 0 (n, t, mc, nI (k + 2), nx, o, go, tr, mp, mo, mg, ks, p)) (h1 : ¬ (mr_ar op x y < -1000 ∨ 1000 < mr_ar op x y) → post 1 (n, t, mc, nI (k + 1), nx, o, go, tr, mp, mo, mg, ks, upd p k (mr_ar op x y))) :
    wX_combine_44 post op x y z n t mc (nI (k + 2)) nx o go tr mp mo mg ks p := by
  unfold mr_ar at h0 h1
  refine br_c (fun e => nm_e ?_) (fun e2 => br_c (fun e => nm_e ?_) (fun e3 => br_c (fun e => nm_e ?_) (fun e4 => ?_)))
  · rw [if_pos e] at h0 h1
    exact xp_c82 hk h0 h1
  · rw [if_neg e2, if_pos e] at h0 h1
    exact xp_c82 hk h0 h1
  · rw [if_neg e2, if_neg e3, if_pos e] at h0 h1
    exact xp_c82 hk h0 h1
  · rw [if_neg e2, if_neg e3, if_neg e4, hz] at h0 h1
    exact xp_c82 hk h0 h1
theorem xp_comb {post : Int32 → SX → Prop} {op nx : Int32} {k : Nat} {p : Nat → Int32} (hk : k + 2 ≤ 6)
    (h0 : (mr_ar op (p k) (p (k + 1)) < -1000 ∨ 1000 < mr_ar op (p k) (p (k + 1))) → post 0 (n, t, mc, nI (k + 2), nx, o, go, tr, mp, mo, mg, ks, p)) (h1 : ¬ (mr_ar op (p k) (p (k + 1)) < -1000 ∨ 1000 < mr_ar op (p k) (p (k + 1))) → post 1 (n, t, mc, nI (k + 1), nx, o, go, tr, mp, mo, mg, ks, upd p k (mr_ar op (p k) (p (k + 1))))) :
    wpX_combine post (n, t, mc, nI (k + 2), nx, o, go, tr, mp, mo, mg, ks, p) op := by
  have e1 : nI (k + 2) - 1 = nI (k + 1) := nI_pred (k + 1)
  have e2 : nI (k + 2) - 2 = nI k := mr_s2 k
  have v1 : vp_in (nI (k + 1)) 6 := vp_in_nI (by omega) (by decide)
  have v2 : vp_in (nI k) 6 := vp_in_nI (by omega) (by decide)
  have c1 : (nI (k + 1)).toNatClampNeg = k + 1 := nI_clamp (by omega)
  have c2 : (nI k).toNatClampNeg = k := nI_clamp (by omega)
  unfold wpX_combine
  dsimp only
  rw [e1, e2, c1, c2]
  exact br_t (nI_le (a := 2) (by omega) (by omega)) ⟨v2, nm_e ⟨v1, nm_e (br_c (fun h => xp_c44 hk (if_neg (Int32.not_lt.mpr h)) h0 h1) (fun h => xp_c44 hk (if_pos (Int32.not_le.mp h)) h0 h1))⟩⟩
theorem xp_comb0 {post : Int32 → SX → Prop} {op nx : Int32} {k : Nat} {p : Nat → Int32} (hk : k < 2) (h : post 0 (n, t, mc, nI k, nx, o, go, tr, mp, mo, mg, ks, p)) : wpX_combine post (n, t, mc, nI k, nx, o, go, tr, mp, mo, mg, ks, p) op :=
  br_f (nI_ge (b := 2) hk (by decide)) h
theorem xp_124 {post : Int32 → SX → Prop} {op nx : Int32} {s : List Int32} {p : Nat → Int32} {j : Nat} (hG : mr_G s) (hp : mr_pr p s)
    (h0 : mr_cmb op j s = none → ∀ h p', post 0 (n, t, mc, h, nx, o, go, tr, mp, mo, mg, ks, p'))
    (h1 : ∀ s' i', mr_cmb op j s = some (s', i') → ∀ p', mr_pr p' s' → i' = j → post 1 (n, t, mc, nI s'.length, nx, o, go, tr, mp, mo, mg, ks, p')) :
    wX_execute_124 post op n t mc (nI s.length) nx o go tr mp mo mg ks p := by
  unfold wX_execute_124
  match s, hG, hp, h0, h1 with
  | [], hG, hp, h0, h1 => exact xp_comb0 (k := 0) (by decide) ⟨rfl, h0 rfl _ _⟩
  | [y], hG, hp, h0, h1 => exact xp_comb0 (k := 1) (by decide) ⟨rfl, h0 rfl _ _⟩
  | y :: x :: tl, hG, hp, h0, h1 =>
    have hl : tl.length + 2 ≤ 6 := hG.1
    have py : p (tl.length + 1) = y := hp.1
    have px : p tl.length = x := hp.2.1
    refine xp_comb (k := tl.length) hl (fun hr => ⟨rfl, h0 ?_ _ _⟩) (fun hr => ⟨rfl, h1 (mr_ar op x y :: tl) j ?_ _ ?_ rfl⟩)
    · rw [py, px] at hr
      exact if_pos hr
    · rw [py, px] at hr
      exact if_neg hr
    · rw [py, px]
      exact mr_pr_c hp.2.2
end
