/-- one program and one list of trials; what the runs leave behind is free on both sides -/
def i_Rel (k : Nat) (u : SX) (v : SY) : Prop :=
  ∃ (N T : Nat) (o g go tr mp mo mg ks q : Nat → Int32) (h nx h' tp pl po pn : Int32) (p' ks' : Nat → Int32), mr_XI o g go N mp mo mg ∧ mr_TI tr T ∧
    u = (nI N, nI T, nI (mr_ml o g N).length, h, nx, o, go, tr, mp, mo, mg, ks, q) ∧ v = (nI N, nI T, h', tp, pl, po, pn, o, g, tr, p', ks')
theorem mr_rel {k N T : Nat} {o g go tr mp mo mg ks q : Nat → Int32} {h nx h' tp pl po pn : Int32} {p' ks' : Nat → Int32} (hX : mr_XI o g go N mp mo mg) (hT : mr_TI tr T) :
    i_Rel k (nI N, nI T, nI (mr_ml o g N).length, h, nx, o, go, tr, mp, mo, mg, ks, q) (nI N, nI T, h', tp, pl, po, pn, o, g, tr, p', ks') :=
  ⟨N, T, o, g, go, tr, mp, mo, mg, ks, q, h, nx, h', tp, pl, po, pn, p', ks', hX, hT, rfl, rfl⟩
theorem i_up {k : Nat} {u : SX} {v : SY} (h : i_Rel k u v) : i_Rel (k + 3) u v := h
theorem i_vc0 : wpX_init (fun u => wpY_init (fun v => i_Rel 0 u v)) := by
  unfold wpX_init
  refine xa_ins (N := 0) (l := []) (op := 1) (a := 0) (a' := 0) (by decide) (by decide) (fun j e he => by cases he) (mr_C_m 1 (by decide) (by decide)) (fun _ => rfl) (fun mp' mo' mg' hM => nm_e ?_)
  have e : mr_ml (upd (fun _ => 0) 0 1) (fun _ => 0) 1 = [] ++ (mr_mk 1 0).map (fun e => (0, e)) := rfl
  refine ⟨1, 0, upd (fun _ => 0) 0 1, fun _ => 0, upd (fun _ => 0) 0 0, fun _ => 0, mp', mo', mg', fun _ => 0, fun _ => 0, 0, 0, 0, 0, 0, 0, 0, fun _ => 0, fun _ => 0, ⟨⟨by decide, fun i hi => ?_⟩, fun i hi hu => ?_, ?_⟩, ⟨by decide, fun i hi => absurd hi (Nat.not_lt_zero i)⟩, ?_, rfl⟩
  · have ei : i = 0 := by omega
    subst ei
    exact mr_C_m 1 (by decide) (by decide)
  · have ei : i = 0 := by omega
    subst ei
    rfl
  · rw [e]
    exact hM
  · rw [e]
    rfl
theorem i_vc_begin {k : Nat} {u : SX} {v : SY} (I : i_Rel k u v) (hk : k + 3 ≤ 1536) : wpX_begin (fun u' => wpY_begin (fun v' => i_Rel (k + 3) u' v') v) u := by
  obtain ⟨N, T, o, g, go, tr, mp, mo, mg, ks, q, h, nx, h', tp, pl, po, pn, p', ks', hX, hT, rfl, rfl⟩ := I
  have hX0 : mr_XI o g go 0 mp mo mg := ⟨⟨by decide, fun i hi => absurd hi (Nat.not_lt_zero i)⟩, fun i hi => absurd hi (Nat.not_lt_zero i), fun j e he => by cases he⟩
  exact mr_rel (k := k + 3) hX0 hT
theorem i_vc_append {k : Nat} {u : SX} {v : SY} (I : i_Rel k u v) (hk : k + 3 ≤ 1536) (v1 : Int32) (v2 : Int32) : wpX_append (fun r u' => wpY_append (fun r' v' => r' = r ∧ i_Rel (k + 3) u' v') v v1 v2) u v1 v2 := by
  obtain ⟨N, T, o, g, go, tr, mp, mo, mg, ks, q, h, nx, h', tp, pl, po, pn, p', ks', hX, hT, rfl, rfl⟩ := I
  have hN := hX.1.1
  have hl := mr_ml_len hX.1.2
  unfold wpX_append
  dsimp only
  refine xq_ins (fun hC => br_f mr_n10 (pk_lt N 10 (fun z => xa_ins z (by omega) hX.2.2 hC (fun hu => mr_nm_us hu) (fun mp' mo' mg' hM => ?_)) (fun z => yq_ok hN hC (fun _ => ⟨rfl, mr_rel hX hT⟩) (fun y => absurd y (by omega))))) (fun hC => br_t rfl (yq_no hC ⟨rfl, mr_rel hX hT⟩))
  dsimp only
  rw [nI_pred]
  refine yq_ok hN hC (fun y => absurd y (by omega)) (fun _ => ⟨rfl, ?_⟩)
  have hX' : mr_XI (upd o N v1) (upd g N (mr_nm v1 v2)) (upd go N v2) (N + 1) mp' mo' mg' := by
    refine ⟨⟨by omega, fun i hi => ?_⟩, fun i hi hu => ?_, by rw [mr_ml_app]; exact hM⟩
    · by_cases ei : i = N
      · subst ei
        rw [pk_us, pk_us]
        exact hC
      · rw [pk_un ei, pk_un ei]
        exact hX.1.2 i (by omega)
    · by_cases ei : i = N
      · subst ei
        rw [pk_us] at hu
        rw [pk_us, pk_us]
        exact mr_nm_us hu
      · rw [pk_un ei] at hu
        rw [pk_un ei, pk_un ei]
        exact hX.2.1 i (by omega) hu
  have w := mr_rel (k := k + 3) (ks := ks) (q := q) (h := h) (nx := nx) (h' := h') (tp := tp) (pl := pl) (po := po) (pn := pn) (p' := p') (ks' := ks') hX' hT
  rw [mr_ml_app] at w
  exact w
theorem i_vc_size {k : Nat} {u : SX} {v : SY} (I : i_Rel k u v) (hk : k + 3 ≤ 1536) : wpX_size (fun r => wpY_size (fun r' => r' = r ∧ i_Rel (k + 3) u v) v) u := by
  have J := i_up I
  obtain ⟨N, T, o, g, go, tr, mp, mo, mg, ks, q, h, nx, h', tp, pl, po, pn, p', ks', hX, hT, rfl, rfl⟩ := I
  exact ⟨rfl, J⟩
theorem i_vc_outcome {k : Nat} {u : SX} {v : SY} (I : i_Rel k u v) (hk : k + 3 ≤ 1536) (v1 : Int32) : wpX_outcome (fun r u' => wpY_outcome (fun r' v' => r' = r ∧ i_Rel (k + 3) u' v') v v1) u v1 := by
  obtain ⟨N, T, o, g, go, tr, mp, mo, mg, ks, q, h, nx, h', tp, pl, po, pn, p', ks', hX, hT, rfl, rfl⟩ := I
  unfold wpX_outcome wpY_outcome
  dsimp only
  rcases mr_in_d v1 with hb | ⟨j, hj, rfl⟩
  · exact xq_in0 hb (br_t rfl (yq_in0 hb (br_t rfl ⟨rfl, mr_rel hX hT⟩)))
  · exact xq_in1 hj (br_f mr_n10 (xk_r0 hX (mr_rg_in j hj) (fun h1 nx1 q1 => yk_in hj (br_f mr_n10 (yk_prog hX.1 (mr_rg_in j hj) (fun h2 tp2 pl2 po2 pn2 p2 => ⟨rfl, mr_rel hX hT⟩))))))
theorem i_vc_trial {k : Nat} {u : SX} {v : SY} (I : i_Rel k u v) (hk : k + 3 ≤ 1536) (v1 : Int32) : wpX_trial (fun r u' => wpY_trial (fun r' v' => r' = r ∧ i_Rel (k + 3) u' v') v v1) u v1 := by
  obtain ⟨N, T, o, g, go, tr, mp, mo, mg, ks, q, h, nx, h', tp, pl, po, pn, p', ks', hX, hT, rfl, rfl⟩ := I
  have hT6 := hT.1
  unfold wpX_trial
  dsimp only
  rcases mr_in_d v1 with hb | ⟨j, hj, ej⟩
  · exact xq_in0 hb (br_t rfl (yt_bad hb ⟨rfl, mr_rel hX hT⟩))
  · have cT : (nI T).toNatClampNeg = T := nI_clamp (by omega)
    rw [cT]
    have hx : ∀ post : Int32 → Prop, post 1 → wpX_isInput post v1 := by
      intro post H
      rw [ej]
      exact xq_in1 hj H
    refine hx _ (br_f mr_n10 (xt_is hT6 (fun hi => br_f mr_n10 ?_) (fun hn => br_t rfl ?_)))
    · have hc : ¬ ∀ i, i < T → ¬ tr i = v1 := fun hn => by
        obtain ⟨i, a, b⟩ := hi
        exact hn i a b
      exact yt_trial hT6 hj ej (fun _ => ⟨rfl, mr_rel hX hT⟩) (fun hn => absurd hn hc) (fun hn => absurd hn hc)
    · have hno : ¬ ∃ i, i < T ∧ tr i = v1 := fun w => by
        obtain ⟨i, a, b⟩ := w
        exact hn i a b
      refine pk_lt T 6 (fun z => ⟨vp_in_nI z (by decide), nm_e (nm_r (nI_1 T) ?_)⟩) (fun z => ?_)
      · refine yt_trial hT6 hj ej (fun w => absurd w hno) (fun _ w => absurd w (by omega)) (fun _ _ => ⟨rfl, mr_rel hX ⟨by omega, fun i hi => ?_⟩⟩)
        by_cases ei : i = T
        · subst ei
          exact ⟨j, hj, by rw [pk_us]; exact ej⟩
        · rw [pk_un ei]
          exact hT.2 i (by omega)
      · exact yt_trial hT6 hj ej (fun w => absurd w hno) (fun _ _ => ⟨rfl, mr_rel hX hT⟩) (fun _ w => absurd w (by omega))
theorem i_vc_clearTrials {k : Nat} {u : SX} {v : SY} (I : i_Rel k u v) (hk : k + 3 ≤ 1536) : wpX_clearTrials (fun u' => wpY_clearTrials (fun v' => i_Rel (k + 3) u' v') v) u := by
  obtain ⟨N, T, o, g, go, tr, mp, mo, mg, ks, q, h, nx, h', tp, pl, po, pn, p', ks', hX, hT, rfl, rfl⟩ := I
  have hT0 : mr_TI tr 0 := ⟨by decide, fun i hi => absurd hi (Nat.not_lt_zero i)⟩
  exact mr_rel (k := k + 3) hX hT0
theorem i_vc_mutants {k : Nat} {u : SX} {v : SY} (I : i_Rel k u v) (hk : k + 3 ≤ 1536) : wpX_mutants (fun r => wpY_mutants (fun r' => r' = r ∧ i_Rel (k + 3) u v) v) u := by
  have J := i_up I
  obtain ⟨N, T, o, g, go, tr, mp, mo, mg, ks, q, h, nx, h', tp, pl, po, pn, p', ks', hX, hT, rfl, rfl⟩ := I
  exact yf_mut hX.1 ⟨rfl, J⟩
theorem i_vc_mutantAt {k : Nat} {u : SX} {v : SY} (I : i_Rel k u v) (hk : k + 3 ≤ 1536) (v1 : Int32) : wpX_mutantAt (fun r => wpY_mutantAt (fun r' v' => r' = r ∧ i_Rel (k + 3) u v') v v1) u v1 := by
  obtain ⟨N, T, o, g, go, tr, mp, mo, mg, ks, q, h, nx, h', tp, pl, po, pn, p', ks', hX, hT, rfl, rfl⟩ := I
  have h30 := mr_ml_30 hX.1
  unfold wpX_mutantAt wpY_mutantAt
  dsimp only
  rcases mr_md v1 h30 with hm | ⟨j, hj, rfl, hl⟩ | ⟨j, hl, rfl⟩
  · exact xm_n hm (br_t rfl (yf_findN hm (br_t rfl ⟨rfl, mr_rel hX hT⟩)))
  · exact xm_0 hj hl (br_t rfl (yf_find hX.1 hj (fun e he => by rw [mr_ml_no hl] at he; cases he) (fun _ => br_t rfl ⟨rfl, mr_rel hX hT⟩)))
  · have cj : (nI j).toNatClampNeg = j := nI_clamp (by omega)
    refine xm_1 h30 hl (br_f mr_n10 ⟨vp_in_nI (by omega) (by decide), ?_⟩)
    rw [cj]
    exact yf_find hX.1 (by omega) (fun e he => br_f mr_n10 ⟨((hX.2.2 j e he).1).symm, mr_rel hX hT⟩) (fun w => absurd w (by omega))
theorem i_vc_mutantOp {k : Nat} {u : SX} {v : SY} (I : i_Rel k u v) (hk : k + 3 ≤ 1536) (v1 : Int32) : wpX_mutantOp (fun r => wpY_mutantOp (fun r' v' => r' = r ∧ i_Rel (k + 3) u v') v v1) u v1 := by
  obtain ⟨N, T, o, g, go, tr, mp, mo, mg, ks, q, h, nx, h', tp, pl, po, pn, p', ks', hX, hT, rfl, rfl⟩ := I
  have h30 := mr_ml_30 hX.1
  unfold wpX_mutantOp wpY_mutantOp
  dsimp only
  rcases mr_md v1 h30 with hm | ⟨j, hj, rfl, hl⟩ | ⟨j, hl, rfl⟩
  · exact xm_n hm (br_t rfl (yf_findN hm (br_t rfl ⟨rfl, mr_rel hX hT⟩)))
  · exact xm_0 hj hl (br_t rfl (yf_find hX.1 hj (fun e he => by rw [mr_ml_no hl] at he; cases he) (fun _ => br_t rfl ⟨rfl, mr_rel hX hT⟩)))
  · have cj : (nI j).toNatClampNeg = j := nI_clamp (by omega)
    refine xm_1 h30 hl (br_f mr_n10 ⟨vp_in_nI (by omega) (by decide), ?_⟩)
    rw [cj]
    exact yf_find hX.1 (by omega) (fun e he => br_f mr_n10 ⟨((hX.2.2 j e he).2.1).symm, mr_rel hX hT⟩) (fun w => absurd w (by omega))
theorem i_vc_mutantNumber {k : Nat} {u : SX} {v : SY} (I : i_Rel k u v) (hk : k + 3 ≤ 1536) (v1 : Int32) : wpX_mutantNumber (fun r => wpY_mutantNumber (fun r' v' => r' = r ∧ i_Rel (k + 3) u v') v v1) u v1 := by
  obtain ⟨N, T, o, g, go, tr, mp, mo, mg, ks, q, h, nx, h', tp, pl, po, pn, p', ks', hX, hT, rfl, rfl⟩ := I
  have h30 := mr_ml_30 hX.1
  unfold wpX_mutantNumber wpY_mutantNumber
  dsimp only
  rcases mr_md v1 h30 with hm | ⟨j, hj, rfl, hl⟩ | ⟨j, hl, rfl⟩
  · exact xm_n hm (br_t rfl (yf_findN hm (br_t rfl ⟨rfl, mr_rel hX hT⟩)))
  · exact xm_0 hj hl (br_t rfl (yf_find hX.1 hj (fun e he => by rw [mr_ml_no hl] at he; cases he) (fun _ => br_t rfl ⟨rfl, mr_rel hX hT⟩)))
  · have cj : (nI j).toNatClampNeg = j := nI_clamp (by omega)
    refine xm_1 h30 hl (br_f mr_n10 ⟨vp_in_nI (by omega) (by decide), ?_⟩)
    rw [cj]
    exact yf_find hX.1 (by omega) (fun e he => br_f mr_n10 ⟨((hX.2.2 j e he).2.2).symm, mr_rel hX hT⟩) (fun w => absurd w (by omega))
theorem i_vc_outcomeOf {k : Nat} {u : SX} {v : SY} (I : i_Rel k u v) (hk : k + 3 ≤ 1536) (v1 : Int32) (v2 : Int32) : wpX_outcomeOf (fun r u' => wpY_outcomeOf (fun r' v' => r' = r ∧ i_Rel (k + 3) u' v') v v1 v2) u v1 v2 := by
  obtain ⟨N, T, o, g, go, tr, mp, mo, mg, ks, q, h, nx, h', tp, pl, po, pn, p', ks', hX, hT, rfl, rfl⟩ := I
  have h30 := mr_ml_30 hX.1
  unfold wpX_outcomeOf
  dsimp only
  rcases mr_in_d v2 with hb | ⟨i, hi, rfl⟩
  · exact xq_in0 hb (br_t rfl (yo_bad hb ⟨rfl, mr_rel hX hT⟩))
  · refine xq_in1 hi (br_f mr_n10 ?_)
    rcases mr_md v1 h30 with hm | ⟨j, hj, rfl, hl⟩ | ⟨j, hl, rfl⟩
    · exact xm_n hm (br_t rfl (yo_neg hi hm ⟨rfl, mr_rel hX hT⟩))
    · exact xm_0 hj hl (br_t rfl (yo_big hX.1 hi hj hl ⟨rfl, mr_rel hX hT⟩))
    · obtain ⟨e, he⟩ := mr_ml_lt hl
      exact xm_1 h30 hl (br_f mr_n10 (xk_r1 hX he (mr_rg_in i hi) (fun h1 nx1 q1 => yk_out hX.1 he hi rfl (fun h2 tp2 pl2 po2 pn2 p2 => ⟨rfl, mr_rel hX hT⟩))))
theorem i_vc_killers {k : Nat} {u : SX} {v : SY} (I : i_Rel k u v) (hk : k + 3 ≤ 1536) (v1 : Int32) : wpX_killers (fun r u' => wpY_killers (fun r' v' => r' = r ∧ i_Rel (k + 3) u' v') v v1) u v1 := by
  obtain ⟨N, T, o, g, go, tr, mp, mo, mg, ks, q, h, nx, h', tp, pl, po, pn, p', ks', hX, hT, rfl, rfl⟩ := I
  have h30 := mr_ml_30 hX.1
  unfold wpX_killers
  dsimp only
  rcases mr_md v1 h30 with hm | ⟨j, hj, rfl, hl⟩ | ⟨j, hl, rfl⟩
  · exact xm_n hm (br_t rfl (yf_findN hm (br_t rfl ⟨rfl, mr_rel hX hT⟩)))
  · exact xm_0 hj hl (br_t rfl (yk_set hX.1 hT hj (fun e he => by rw [mr_ml_no hl] at he; cases he) (fun _ h2 tp2 pl2 po2 pn2 p2 => ⟨rfl, mr_rel hX hT⟩)))
  · obtain ⟨e, he⟩ := mr_ml_lt hl
    exact xm_1 h30 hl (br_f mr_n10 (xk_set hX hT he (fun h1 nx1 q1 => yk_set hX.1 hT (by omega) (fun e' he' h2 tp2 pl2 po2 pn2 p2 => ⟨by rw [he] at he'; cases he'; rfl, mr_rel hX hT⟩) (fun w => absurd w (by omega)))))
theorem i_vc_killed {k : Nat} {u : SX} {v : SY} (I : i_Rel k u v) (hk : k + 3 ≤ 1536) : wpX_killed (fun r u' => wpY_killed (fun r' v' => r' = r ∧ i_Rel (k + 3) u' v') v) u := by
  obtain ⟨N, T, o, g, go, tr, mp, mo, mg, ks, q, h, nx, h', tp, pl, po, pn, p', ks', hX, hT, rfl, rfl⟩ := I
  exact xk_killed hX hT (fun h1 nx1 q1 => yk_killed hX.1 hT (fun h2 tp2 pl2 po2 pn2 p2 => ⟨rfl, mr_rel hX hT⟩))
theorem i_vc_equalOnes {k : Nat} {u : SX} {v : SY} (I : i_Rel k u v) (hk : k + 3 ≤ 1536) : wpX_equalOnes (fun r u' => wpY_equalOnes (fun r' v' => r' = r ∧ i_Rel (k + 3) u' v') v) u := by
  obtain ⟨N, T, o, g, go, tr, mp, mo, mg, ks, q, h, nx, h', tp, pl, po, pn, p', ks', hX, hT, rfl, rfl⟩ := I
  exact xk_equal hX (fun h1 nx1 q1 => yk_equal hX.1 (fun h2 tp2 pl2 po2 pn2 p2 => ⟨rfl, mr_rel hX hT⟩))
theorem i_vc_killer {k : Nat} {u : SX} {v : SY} (I : i_Rel k u v) (hk : k + 3 ≤ 1536) (v1 : Int32) : wpX_killer (fun r u' => wpY_killer (fun r' v' => r' = r ∧ i_Rel (k + 3) u' v') v v1) u v1 := by
  obtain ⟨N, T, o, g, go, tr, mp, mo, mg, ks, q, h, nx, h', tp, pl, po, pn, p', ks', hX, hT, rfl, rfl⟩ := I
  have h30 := mr_ml_30 hX.1
  unfold wpX_killer
  dsimp only
  rcases mr_md v1 h30 with hm | ⟨j, hj, rfl, hl⟩ | ⟨j, hl, rfl⟩
  · exact xm_n hm (br_t rfl (yf_findN hm (br_t rfl ⟨rfl, mr_rel hX hT⟩)))
  · exact xm_0 hj hl (br_t rfl (yk_lk hX.1 hj (fun e he => by rw [mr_ml_no hl] at he; cases he) (fun _ h2 tp2 pl2 po2 pn2 p2 => ⟨rfl, mr_rel hX hT⟩)))
  · obtain ⟨e, he⟩ := mr_ml_lt hl
    exact xm_1 h30 hl (br_f mr_n10 (xk_lk hX he (fun h1 nx1 q1 => yk_lk hX.1 (by omega) (fun e' he' h2 tp2 pl2 po2 pn2 p2 => ⟨by rw [he] at he'; cases he'; rfl, mr_rel hX hT⟩) (fun w => absurd w (by omega)))))
theorem i_vc_needed {k : Nat} {u : SX} {v : SY} (I : i_Rel k u v) (hk : k + 3 ≤ 1536) : wpX_needed (fun r u' => wpY_needed (fun r' v' => r' = r ∧ i_Rel (k + 3) u' v') v) u := by
  obtain ⟨N, T, o, g, go, tr, mp, mo, mg, ks, q, h, nx, h', tp, pl, po, pn, p', ks', hX, hT, rfl, rfl⟩ := I
  exact xn_needed hX hT (fun r h1 nx1 ks1 q1 hr => yn_needed hX.1 hT (fun r' h2 tp2 pl2 po2 pn2 p2 ks2 hr' => ⟨by rw [mr_Min_u hr hr'], mr_rel hX hT⟩))
theorem i_vc_leading {k : Nat} {u : SX} {v : SY} (I : i_Rel k u v) (hk : k + 3 ≤ 1536) : wpX_leading (fun r u' => wpY_leading (fun r' v' => r' = r ∧ i_Rel (k + 3) u' v') v) u := by
  obtain ⟨N, T, o, g, go, tr, mp, mo, mg, ks, q, h, nx, h', tp, pl, po, pn, p', ks', hX, hT, rfl, rfl⟩ := I
  exact xn_leading hX hT (fun h1 nx1 ks1 q1 => yn_leading hX.1 hT (fun h2 tp2 pl2 po2 pn2 p2 ks2 => ⟨rfl, mr_rel hX hT⟩))
theorem i_vc_numbers {k : Nat} {u : SX} {v : SY} (I : i_Rel k u v) (hk : k + 3 ≤ 1536) : wpX_numbers (fun r u' => wpY_numbers (fun r' v' => r' = r ∧ i_Rel (k + 3) u' v') v) u := by
  obtain ⟨N, T, o, g, go, tr, mp, mo, mg, ks, q, h, nx, h', tp, pl, po, pn, p', ks', hX, hT, rfl, rfl⟩ := I
  exact xk_num hX (fun h1 nx1 q1 => yk_num hX.1 (fun h2 tp2 pl2 po2 pn2 p2 => ⟨rfl, mr_rel hX hT⟩))
