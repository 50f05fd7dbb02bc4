/-- X's three lists hold l -/
def mr_M (mp mo mg : Nat → Int32) (l : List (Nat × Int32 × Int32)) : Prop := ∀ j e, l[j]? = some e → mp j = nI e.1 ∧ mo j = e.2.1 ∧ mg j = e.2.2
theorem mr_M_c {mp mo mg : Nat → Int32} {l : List (Nat × Int32 × Int32)} {q : Nat} {op a : Int32} (h : mr_M mp mo mg l) : mr_M (upd mp l.length (nI q)) (upd mo l.length op) (upd mg l.length a) (l ++ [(q, op, a)]) := by
  intro j e he
  by_cases hj : j < l.length
  · rw [List.getElem?_append_left hj] at he
    have hn : j ≠ l.length := by omega
    rw [pk_un hn, pk_un hn, pk_un hn]
    exact h j e he
  · rw [List.getElem?_append_right (by omega)] at he
    by_cases hz : j = l.length
    · subst hz
      rw [Nat.sub_self] at he
      cases he
      exact ⟨pk_us, pk_us, pk_us⟩
    · rw [List.getElem?_eq_none (by show 1 ≤ j - l.length; omega)] at he
      cases he
/-- the other operations, from the x-th on -/
def mr_oth (op : Int32) : Nat → Nat → List (Int32 × Int32)
  | 0, _ => []
  | d + 1, x => (if nI x = op then [] else [(nI x, 0)]) ++ mr_oth op d (x + 1)
theorem mr_oth_2 : mr_oth 2 4 2 = mr_mk 2 0 := by decide +kernel
theorem mr_oth_3 : mr_oth 3 4 2 = mr_mk 3 0 := by decide +kernel
theorem mr_oth_4 : mr_oth 4 4 2 = mr_mk 4 0 := by decide +kernel
theorem mr_oth_5 : mr_oth 5 4 2 = mr_mk 5 0 := by decide +kernel
theorem mr_mk_0 (a : Int32) : mr_mk 0 a = (if a < 7 then [((0 : Int32), a + 1)] else []) ++ (if -8 < a then [((0 : Int32), a - 1)] else []) := by simp [mr_mk]
theorem mr_mk_8 (a : Int32) : mr_mk 8 a = (if a < 3 then [((8 : Int32), a + 1)] else []) ++ (if 0 < a then [((8 : Int32), a - 1)] else []) := by simp [mr_mk]
theorem mr_mk_9 (a : Int32) : mr_mk 9 a = (if 0 < a then [((9 : Int32), a - 1)] else []) := by simp [mr_mk]
theorem mr_mk_1 (a : Int32) : mr_mk 1 a = [(0, 0)] := by simp [mr_mk]
theorem mr_mk_6 (a : Int32) : mr_mk 6 a = [(1, 0)] := by simp [mr_mk]
theorem mr_mk_7 (a : Int32) : mr_mk 7 a = [(6, 0)] := by simp [mr_mk]
theorem mr_mk_2 (a : Int32) : mr_mk 2 a = mr_mk 2 0 := by simp [mr_mk]
theorem mr_mk_3 (a : Int32) : mr_mk 3 a = mr_mk 3 0 := by simp [mr_mk]
theorem mr_mk_4 (a : Int32) : mr_mk 4 a = mr_mk 4 0 := by simp [mr_mk]
theorem mr_mk_5 (a : Int32) : mr_mk 5 a = mr_mk 5 0 := by simp [mr_mk]
section
variable {n t h nx : Int32} {o go tr mp mo mg ks p : Nat → Int32}
theorem xa_mut {post : SX → Prop} {l : List (Nat × Int32 × Int32)} {q : Nat} {op a : Int32} (hl : l.length < 30) (hM : mr_M mp mo mg l)
    (H : ∀ mp' mo' mg', mr_M mp' mo' mg' (l ++ [(q, op, a)]) → post (n, t, nI (l ++ [(q, op, a)]).length, h, nx, o, go, tr, mp', mo', mg', ks, p)) :
    wpX_addMutant post (n, t, nI l.length, h, nx, o, go, tr, mp, mo, mg, ks, p) (nI q) op a := by
  have v : vp_in (nI l.length) 30 := vp_in_nI hl (by decide)
  have c : (nI l.length).toNatClampNeg = l.length := nI_clamp (by omega)
  refine br_f (nI_ge (b := 30) hl (by decide)) ⟨v, fun a1 e1 => ⟨v, fun a2 e2 => ⟨v, fun a3 e3 => fun b eb => ?_⟩⟩⟩
  rw [e1, e2, e3, eb, c, nI_1]
  have := H _ _ _ (mr_M_c (q := q) (op := op) (a := a) hM)
  rw [List.length_append] at this
  exact this
theorem xa_29 {post : SX → Prop} {l : List (Nat × Int32 × Int32)} {q : Nat} {lo a : Int32} (hq : q < 10) (hl : l.length < 30) (hM : mr_M mp mo mg l)
    (H : ∀ mp' mo' mg' l', l' = l ++ (if lo < a then [(q, o q, a - 1)] else []) → mr_M mp' mo' mg' l' → post (n, t, nI l'.length, h, nx, o, go, tr, mp', mo', mg', ks, p)) :
    wX_addNeighbours_29 post (nI q) lo a n t (nI l.length) h nx o go tr mp mo mg ks p := by
  have cq : (nI q).toNatClampNeg = q := nI_clamp (by omega)
  refine br_c (fun z => ?_) (fun z => ⟨vp_in_nI hq (by decide), ?_⟩)
  · exact H mp mo mg l (by rw [if_neg (Int32.not_lt.mpr z), List.append_nil]) hM
  · rw [cq]
    exact xa_mut hl hM (fun mp' mo' mg' hM' => H mp' mo' mg' _ (by rw [if_pos (Int32.not_le.mp z)]) hM')
theorem xa_nb {post : SX → Prop} {l : List (Nat × Int32 × Int32)} {q : Nat} {lo hi : Int32} (hq : q < 10) (hl : l.length + 2 ≤ 30) (hM : mr_M mp mo mg l)
    (H : ∀ mp' mo' mg' l', l' = (l ++ (if go q < hi then [(q, o q, go q + 1)] else [])) ++ (if lo < go q then [(q, o q, go q - 1)] else []) → mr_M mp' mo' mg' l' → post (n, t, nI l'.length, h, nx, o, go, tr, mp', mo', mg', ks, p)) :
    wpX_addNeighbours post (n, t, nI l.length, h, nx, o, go, tr, mp, mo, mg, ks, p) (nI q) lo hi := by
  have cq : (nI q).toNatClampNeg = q := nI_clamp (by omega)
  have vq : vp_in (nI q) 10 := vp_in_nI hq (by decide)
  unfold wpX_addNeighbours
  dsimp only
  rw [cq]
  refine ⟨vq, nm_e (br_c (fun z => ?_) (fun z => ⟨vq, ?_⟩))⟩
  · exact xa_29 hq (by omega) hM (fun mp' mo' mg' l' e hM' => H mp' mo' mg' l' (by rw [if_neg (Int32.not_lt.mpr z), List.append_nil]; exact e) hM')
  · refine xa_mut (by omega) hM (fun mp' mo' mg' hM' => ?_)
    exact xa_29 hq (by rw [List.length_append]; show l.length + 1 < 30; omega) hM' (fun mp'' mo'' mg'' l' e hM'' => H mp'' mo'' mg'' l' (by rw [if_pos (Int32.not_le.mp z)]; exact e) hM'')
theorem xa_oth {post : SX → Prop} {q : Nat} (hq : q < 10) : ∀ (d x : Nat) (l : List (Nat × Int32 × Int32)) (mp mo mg : Nat → Int32), x + d = 6 → l.length + (mr_oth (o q) d x).length ≤ 30 → mr_M mp mo mg l →
    (∀ mp' mo' mg', mr_M mp' mo' mg' (l ++ (mr_oth (o q) d x).map (fun e => (q, e))) → post (n, t, nI (l ++ (mr_oth (o q) d x).map (fun e => (q, e))).length, h, nx, o, go, tr, mp', mo', mg', ks, p)) →
    wX_addOtherArithmetic_2 post (nI q) (d + 1) (nI x) n t (nI l.length) h nx o go tr mp mo mg ks p := by
  intro d
  induction d with
  | zero =>
    intro x l mp mo mg hx hl hM H
    have H1 := H mp mo mg
    rw [show mr_oth (o q) 0 x = [] from rfl, List.map_nil, List.append_nil] at H1
    exact br_t (nI_lt (a := 5) (b := x) (by omega) (by omega)) (H1 hM)
  | succ d ih =>
    intro x l mp mo mg hx hl hM H
    have cq : (nI q).toNatClampNeg = q := nI_clamp (by omega)
    refine br_f (nI_nlt (a := 5) (b := x) (by omega) (by decide)) ⟨vp_in_nI hq (by decide), ?_⟩
    rw [cq]
    have eo : mr_oth (o q) (d + 1) x = (if nI x = o q then [] else [(nI x, 0)]) ++ mr_oth (o q) d (x + 1) := rfl
    have hlt : nI x = o q → l.length + (mr_oth (o q) d (x + 1)).length ≤ 30 := fun z => by
      rw [eo, if_pos z, List.nil_append] at hl
      exact hl
    have hlf : ¬ nI x = o q → l.length + 1 + (mr_oth (o q) d (x + 1)).length ≤ 30 := fun z => by
      rw [eo, if_neg z, List.length_append] at hl
      change l.length + (1 + (mr_oth (o q) d (x + 1)).length) ≤ 30 at hl
      omega
    refine br_c (fun z => nm_r (nI_1 x) (ih (x + 1) l mp mo mg (by omega) (hlt z) hM ?_)) (fun z => xa_mut (by have := hlf z; omega) hM (fun mp' mo' mg' hM' => nm_r (nI_1 x) (ih (x + 1) _ mp' mo' mg' (by omega) (by rw [List.length_append]; exact hlf z) hM' ?_)))
    · intro mp' mo' mg' hM'
      have H1 := H mp' mo' mg'
      rw [eo, if_pos z, List.nil_append] at H1
      exact H1 hM'
    · intro mp'' mo'' mg'' hM''
      have H1 := H mp'' mo'' mg''
      rw [eo, if_neg z, List.map_append, ← List.append_assoc] at H1
      exact H1 hM''
theorem xa_138 {post : SX → Prop} {q : Nat} {l m : List (Nat × Int32 × Int32)} (hq : q < 10) (hl : l.length + m.length ≤ 30) (hM : mr_M mp mo mg l) (hm : (mr_oth (o q) 4 2).map (fun e => (q, e)) = m)
    (H : ∀ mp' mo' mg', mr_M mp' mo' mg' (l ++ m) → post (n, t, nI (l ++ m).length, h, nx, o, go, tr, mp', mo', mg', ks, p)) :
    wX_addMutantsAt_138 post (nI q) n t (nI l.length) h nx o go tr mp mo mg ks p := by
  subst hm
  unfold wX_addMutantsAt_138
  rw [List.length_map] at hl
  exact ⟨5, xa_oth hq 4 2 l mp mo mg rfl hl hM H⟩
theorem xa_at {post : SX → Prop} {q : Nat} {l : List (Nat × Int32 × Int32)} {op a : Int32} (hq : q < 10) (hl : l.length + 3 ≤ 30) (hM : mr_M mp mo mg l) (hC : (op, a) ∈ mr_C) (ho : o q = op) (hg : mr_us op → go q = a)
    (H : ∀ mp' mo' mg', mr_M mp' mo' mg' (l ++ (mr_mk op a).map (fun e => (q, e))) → post (n, t, nI (l ++ (mr_mk op a).map (fun e => (q, e))).length, h, nx, o, go, tr, mp', mo', mg', ks, p)) :
    wpX_addMutantsAt post (n, t, nI l.length, h, nx, o, go, tr, mp, mo, mg, ks, p) (nI q) := by
  have cq : (nI q).toNatClampNeg = q := nI_clamp (by omega)
  have vq : vp_in (nI q) 10 := vp_in_nI hq (by decide)
  have hlm : ((mr_mk op a).map (fun e => (q, e))).length ≤ 3 := by
    rw [List.length_map]
    exact mr_mk_len _ hC
  unfold wpX_addMutantsAt
  dsimp only
  rw [cq]
  refine ⟨vq, nm_e ⟨vq, nm_r ho ?_⟩⟩
  rcases mr_C_op _ hC with e | e | e | e | e | e | e
  · change op = 0 at e
    subst e
    have hg' : go q = a := hg (Or.inl rfl)
    refine br_f (by decide) (br_f (by decide) (br_t rfl (xa_nb hq (by omega) hM (fun mp' mo' mg' l' el hM' => ?_))))
    have e2 : l' = l ++ (mr_mk 0 a).map (fun e => (q, e)) := by
      rw [el, mr_mk_0, hg', ho, List.append_assoc, List.map_append]
      congr 1
      congr 1 <;> split <;> rfl
    subst e2
    exact H mp' mo' mg' hM'
  · change op = 1 at e
    subst e
    rw [mr_mk_1] at H
    exact br_f (by decide) (br_f (by decide) (br_f (by decide) (br_t rfl (xa_mut (by omega) hM H))))
  · change op = 6 at e
    subst e
    rw [mr_mk_6] at H
    exact br_f (by decide) (br_f (by decide) (br_f (by decide) (br_f (by decide) (br_f (by decide) (br_f (by decide) (br_f (by decide) (br_f (by decide) (br_t rfl (xa_mut (by omega) hM H)))))))))
  · change op = 7 at e
    subst e
    rw [mr_mk_7] at H
    exact br_f (by decide) (br_f (by decide) (br_f (by decide) (br_f (by decide) (br_f (by decide) (br_f (by decide) (br_f (by decide) (br_f (by decide) (br_f (by decide) (br_t rfl (xa_mut (by omega) hM H))))))))))
  · change op = 8 at e
    subst e
    have hg' : go q = a := hg (Or.inr (Or.inl rfl))
    refine br_f (by decide) (br_f (by decide) (br_f (by decide) (br_f (by decide) (br_f (by decide) (br_f (by decide) (br_f (by decide) (br_f (by decide) (br_f (by decide) (br_f (by decide) (br_t rfl (xa_nb hq (by omega) hM (fun mp' mo' mg' l' el hM' => ?_))))))))))))
    have e2 : l' = l ++ (mr_mk 8 a).map (fun e => (q, e)) := by
      rw [el, mr_mk_8, hg', ho, List.append_assoc, List.map_append]
      congr 1
      congr 1 <;> split <;> rfl
    subst e2
    exact H mp' mo' mg' hM'
  · change op = 9 at e
    subst e
    have hg' : go q = a := hg (Or.inr (Or.inr rfl))
    rw [mr_mk_9] at H
    refine br_f (by decide) (br_f (by decide) (br_f (by decide) (br_f (by decide) (br_f (by decide) (br_f (by decide) (br_f (by decide) (br_f (by decide) (br_f (by decide) (br_f (by decide) (br_f (by decide) (br_t rfl ?_)))))))))))
    rw [hg']
    refine br_c (fun z => ?_) (fun z => ?_)
    · rw [if_neg (Int32.not_lt.mpr z), List.map_nil, List.append_nil] at H
      exact H mp mo mg hM
    · rw [if_pos (Int32.not_le.mp z)] at H
      exact xa_mut (by omega) hM H
  · change op = 2 ∨ op = 3 ∨ op = 4 ∨ op = 5 at e
    have hm : (mr_oth (o q) 4 2).map (fun e => (q, e)) = (mr_mk op a).map (fun e => (q, e)) := by
      rw [ho]
      rcases e with e | e | e | e <;> subst e
      · rw [mr_oth_2, ← mr_mk_2 a]
      · rw [mr_oth_3, ← mr_mk_3 a]
      · rw [mr_oth_4, ← mr_mk_4 a]
      · rw [mr_oth_5, ← mr_mk_5 a]
    have hh : wX_addMutantsAt_138 post (nI q) n t (nI l.length) h nx o go tr mp mo mg ks p := xa_138 hq (by omega) hM hm H
    rcases e with e | e | e | e
    · subst e
      exact br_f (by decide) (br_f (by decide) (br_f (by decide) (br_f (by decide) (br_t rfl hh))))
    · subst e
      exact br_f (by decide) (br_f (by decide) (br_f (by decide) (br_f (by decide) (br_f (by decide) (br_t rfl hh)))))
    · subst e
      exact br_f (by decide) (br_f (by decide) (br_f (by decide) (br_f (by decide) (br_f (by decide) (br_f (by decide) (br_t rfl hh))))))
    · subst e
      exact br_f (by decide) (br_f (by decide) (br_f (by decide) (br_f (by decide) (br_f (by decide) (br_f (by decide) (br_f (by decide) (br_t rfl hh)))))))
/-- addInstruction: op with the number a' behind the N instructions; its number counts as a -/
theorem xa_ins {post : SX → Prop} {N : Nat} {l : List (Nat × Int32 × Int32)} {op a a' : Int32} (hN : N < 10) (hl : l.length + 3 ≤ 30) (hM : mr_M mp mo mg l) (hC : (op, a) ∈ mr_C) (hg : mr_us op → a' = a)
    (H : ∀ mp' mo' mg', mr_M mp' mo' mg' (l ++ (mr_mk op a).map (fun e => (N, e))) → post (nI (N + 1), t, nI (l ++ (mr_mk op a).map (fun e => (N, e))).length, h, nx, upd o N op, upd go N a', tr, mp', mo', mg', ks, p)) :
    wpX_addInstruction post (nI N, t, nI l.length, h, nx, o, go, tr, mp, mo, mg, ks, p) op a' := by
  have cN : (nI N).toNatClampNeg = N := nI_clamp (by omega)
  have vN : vp_in (nI N) 10 := vp_in_nI hN (by decide)
  unfold wpX_addInstruction
  dsimp only
  rw [cN, nI_1 N]
  refine ⟨vN, nm_e ⟨vN, nm_e (nm_e ?_)⟩⟩
  exact xa_at hN hl hM hC pk_us (fun hu => by rw [pk_us]; exact hg hu) H
end
