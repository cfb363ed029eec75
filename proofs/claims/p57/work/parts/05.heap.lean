section SGC
/-- the whole memory as one world of the kit -/
theorem sg_I.world {D : va_G} {cl : List vw_C} {tys : List (ClassId × FieldType)} {B b : Nat} {μ : Nat → Nat} {M : sg_M} {H : Heap} (h : sg_I D cl tys B b μ M H) : ∃ ws : va_W, va_P D cl ws H ∧ va_D (sg_A B) ws ∧ (∀ a e, M.1 a = some e → ∃ i : Nat, ws[i]? = some (μ a, sg_c tys μ e)) ∧ ∀ (i : Nat) (q : Nat × va_E), ws[i]? = some q → ∃ a e, M.1 a = some e ∧ q = (μ a, sg_c tys μ e) := by
  have key : ∀ n : Nat, ∃ ws : va_W, va_P D cl ws H ∧ va_D (sg_A B) ws ∧ (∀ a e, a < n → M.1 a = some e → ∃ i : Nat, ws[i]? = some (μ a, sg_c tys μ e)) ∧ ∀ (i : Nat) (q : Nat × va_E), ws[i]? = some q → ∃ a e, a < n ∧ M.1 a = some e ∧ q = (μ a, sg_c tys μ e) := by
    intro n
    induction n with
    | zero => exact ⟨[], fun k q hk => by simp at hk, ⟨fun i j p q hi => by simp at hi, fun k q hk => by simp at hk⟩, fun a e ha => absurd ha (Nat.not_lt_zero _), fun i q hi => by simp at hi⟩
    | succ n ih =>
      obtain ⟨ws, g1, g2, g3, g4⟩ := ih
      cases hn : M.1 n with
      | none =>
        refine ⟨ws, g1, g2, fun a e ha he => ?_, fun i q hi => ?_⟩
        · refine g3 a e ?_ he
          rcases Nat.lt_succ_iff_lt_or_eq.mp ha with z | z
          · exact z
          · rw [z, hn] at he; cases he
        · obtain ⟨a, e, q1, q2⟩ := g4 i q hi
          exact ⟨a, e, Nat.lt_succ_of_lt q1, q2⟩
      | some e0 =>
        obtain ⟨o1, o2⟩ := h.one hn
        refine ⟨ws ++ [(μ n, sg_c tys μ e0)], g1.app o1, g2.app o2 (fun i j x y hi hj hxy => ?_), fun a e ha he => ?_, fun i q hi => ?_⟩
        · obtain ⟨a, e, q1, q2, q3⟩ := g4 i x hi
          have hj0 : y = (μ n, sg_c tys μ e0) := by
            cases j with
            | zero => cases hj; rfl
            | succ j => simp at hj
          rw [q3, hj0] at hxy
          exact absurd (h.2.1 a n e e0 q2 hn hxy) (Nat.ne_of_lt q1)
        · rcases Nat.lt_succ_iff_lt_or_eq.mp ha with z | z
          · obtain ⟨i, hi⟩ := g3 a e z he
            exact ⟨i, by rw [List.getElem?_append_left (List.getElem?_eq_some_iff.mp hi).1]; exact hi⟩
          · subst z
            rw [hn] at he
            cases he
            exact ⟨ws.length, by rw [List.getElem?_append_right (Nat.le_refl _), Nat.sub_self]; rfl⟩
        · by_cases hl : i < ws.length
          · rw [List.getElem?_append_left hl] at hi
            obtain ⟨a, e, q1, q2⟩ := g4 i q hi
            exact ⟨a, e, Nat.lt_succ_of_lt q1, q2⟩
          · rw [List.getElem?_append_right (by omega)] at hi
            have hz : i - ws.length < 1 := (List.getElem?_eq_some_iff.mp hi).1
            rw [show i - ws.length = 0 by omega] at hi
            cases hi
            exact ⟨n, e0, Nat.lt_succ_self _, hn, rfl⟩
  obtain ⟨ws, g1, g2, g3, g4⟩ := key M.2
  exact ⟨ws, g1, g2, fun a e he => g3 a e (h.1 a e he).1 he, fun i q hi => by obtain ⟨a, e, -, q2⟩ := g4 i q hi; exact ⟨a, e, q2⟩⟩
theorem sg_I.set {D : va_G} {cl : List vw_C} {tys : List (ClassId × FieldType)} {B b : Nat} {μ : Nat → Nat} {M : sg_M} {H H1 : Heap} (h : sg_I D cl tys B b μ M H) {ws : va_W} (hw : ∀ a e, M.1 a = some e → ∃ i : Nat, ws[i]? = some (μ a, sg_c tys μ e)) {a q0 : Nat} {e0 e : sg_E} (he : M.1 a = some e0) (hq : ws[q0]? = some (μ a, sg_c tys μ e0)) (hwf : sg_wE M.2 e) (hP : va_P D cl (ws.set q0 (μ a, sg_c tys μ e)) H1) : sg_I D cl tys B b μ (sg_up M.1 a e, M.2) H1 := by
  have ha0 := (h.lt he).2
  have hl := (List.getElem?_eq_some_iff.mp hq).1
  have key : ∀ z ez, sg_up M.1 a e z = some ez → ∃ e9, M.1 z = some e9 := by
    intro z ez hz
    have hz : (if z = a then some e else M.1 z) = some ez := hz
    by_cases hza : z = a
    · exact ⟨e0, by rw [hza]; exact he⟩
    · rw [if_neg hza] at hz
      exact ⟨ez, hz⟩
  refine ⟨fun a' e' he' => ?_, fun x y ex ey hx hy hxy => ?_, ?_, h.2.2.2.1, h.2.2.2.2⟩
  · have he1 : (if a' = a then some e else M.1 a') = some e' := he'
    by_cases hz : a' = a
    · subst hz
      rw [if_pos rfl] at he1
      cases he1
      exact ⟨(h.1 a' e0 he).1, hwf, hP q0 _ (List.getElem?_set_self hl), (h.1 a' e0 he).2.2.2⟩
    · rw [if_neg hz] at he1
      obtain ⟨k1, k2, k3, k4⟩ := h.1 a' e' he1
      obtain ⟨i, hi⟩ := hw a' e' he1
      have hne : q0 ≠ i := fun z => by
        subst z
        rw [hq] at hi
        have h9 : μ a = μ a' := congrArg Prod.fst (Option.some.inj hi)
        exact hz (h.2.1 _ _ _ _ he1 he h9.symm)
      exact ⟨k1, k2, hP i _ (by rw [List.getElem?_set_ne hne]; exact hi), k4⟩
  · obtain ⟨e1, g1⟩ := key x ex hx
    obtain ⟨e2, g2⟩ := key y ey hy
    exact h.2.1 x y e1 e2 g1 g2 hxy
  · show (if 0 = a then some e else M.1 0) = none
    rw [if_neg (fun z => ha0 z.symm)]
    exact h.2.2.1
theorem sg_I.push {D : va_G} {cl : List vw_C} {tys : List (ClassId × FieldType)} {B b : Nat} {μ : Nat → Nat} {M : sg_M} {H H1 : Heap} (h : sg_I D cl tys B b μ M H) {ws : va_W} (hw : ∀ a e, M.1 a = some e → ∃ i : Nat, ws[i]? = some (μ a, sg_c tys μ e)) {q : Nat} {e : sg_E} (hwf : sg_wE M.2 e) (hP : va_P D cl (ws ++ [(q, sg_c tys μ e)]) H1) (hD : va_D (sg_A B) (ws ++ [(q, sg_c tys μ e)])) :
    sg_I D cl tys B b (fun x => if x = M.2 then q else μ x) (sg_up M.1 M.2 e, M.2 + 1) H1 ∧ sg_X μ (fun x => if x = M.2 then q else μ x) M.2 := by
  have hX : sg_X μ (fun x => if x = M.2 then q else μ x) M.2 := fun a ha => if_neg (Nat.ne_of_lt ha)
  have hq : (ws ++ [(q, sg_c tys μ e)])[ws.length]? = some (q, sg_c tys μ e) := by rw [List.getElem?_append_right (Nat.le_refl _), Nat.sub_self]; rfl
  have hold : ∀ a e', M.1 a = some e' → ∃ i : Nat, i < ws.length ∧ (ws ++ [(q, sg_c tys μ e)])[i]? = some (μ a, sg_c tys μ e') := fun a e' he' => by
    obtain ⟨i, hi⟩ := hw a e' he'
    have hl := (List.getElem?_eq_some_iff.mp hi).1
    exact ⟨i, hl, by rw [List.getElem?_append_left hl]; exact hi⟩
  have hap : ∀ a e', M.1 a = some e' → μ a ≠ q := fun a e' he' z => by
    obtain ⟨i, hl, hi⟩ := hold a e' he'
    exact absurd (hD.1 i ws.length _ _ hi hq z) (Nat.ne_of_lt hl)
  refine ⟨⟨fun a' e' he' => ?_, fun x y ex ey hx hy hxy => ?_, ?_, Nat.succ_pos _, ?_⟩, hX⟩
  · have he' : (if a' = M.2 then some e else M.1 a') = some e' := he'
    show a' < M.2 + 1 ∧ sg_wE (M.2 + 1) e' ∧ va_at D cl (if a' = M.2 then q else μ a', _) H1 ∧ B ≤ (if a' = M.2 then q else μ a')
    by_cases hz : a' = M.2
    · rw [if_pos hz] at he' ⊢
      cases he'
      rw [sg_c_x hwf hX]
      exact ⟨by omega, hwf.mono (Nat.le_succ _), hP _ _ hq, hD.2 _ _ hq⟩
    · rw [if_neg hz] at he' ⊢
      obtain ⟨k1, k2, k3, k4⟩ := h.1 a' e' he'
      obtain ⟨i, hl, hi⟩ := hold a' e' he'
      rw [sg_c_x k2 hX]
      exact ⟨by omega, k2.mono (Nat.le_succ _), hP _ _ hi, k4⟩
  · have hx : (if x = M.2 then some e else M.1 x) = some ex := hx
    have hy : (if y = M.2 then some e else M.1 y) = some ey := hy
    have hxy : (if x = M.2 then q else μ x) = (if y = M.2 then q else μ y) := hxy
    by_cases z1 : x = M.2 <;> by_cases z2 : y = M.2
    · exact z1.trans z2.symm
    · rw [if_pos z1, if_neg z2] at hxy; rw [if_neg z2] at hy
      exact absurd hxy.symm (hap y ey hy)
    · rw [if_neg z1, if_pos z2] at hxy; rw [if_neg z1] at hx
      exact absurd hxy (hap x ex hx)
    · rw [if_neg z1, if_neg z2] at hxy; rw [if_neg z1] at hx; rw [if_neg z2] at hy
      exact h.2.1 x y ex ey hx hy hxy
  · show (if 0 = M.2 then some e else M.1 0) = none
    rw [if_neg (Nat.ne_of_lt h.2.2.2.1)]
    exact h.2.2.1
  · show (if 0 = M.2 then q else μ 0) = b
    rw [if_neg (Nat.ne_of_lt h.2.2.2.1)]
    exact h.2.2.2.2
/-- what a field of a type takes -/
def sg_kd (ty : FieldType) (v : Value) : Bool := match ty, v with
  | .int, .int _ => true
  | .long, .long _ => true
  | .boolean, .int x => x == 0 || x == 1
  | .object _, .ref _ => true
  | .object _, .null => true
  | .array _, .ref _ => true
  | .array _, .null => true
  | _, _ => false
theorem sg_kd_ok {μ : Nat → Nat} {ty : FieldType} {v : Value} (h : sg_kd ty v = true) : narrow ty (sg_v μ v) = sg_v μ v ∧ fits ty (sg_v μ v) = true := by
  cases ty <;> cases v <;> first | exact ⟨rfl, rfl⟩ | cases h | skip
  all_goals
    rename_i x
    simp only [sg_kd, Bool.or_eq_true, beq_iff_eq] at h
    rcases h with h | h <;> subst h <;> exact ⟨rfl, rfl⟩
theorem sg_mapget {μ : Nat → Nat} {fs : List Value} {f : Nat} {v : Value} (h : fs[f]? = some v) : (fs.map (sg_v μ))[f]? = some (sg_v μ v) := by rw [List.getElem?_map, h]; rfl
theorem sg_mapset {μ : Nat → Nat} {fs : List Value} {f : Nat} {v : Value} : (fs.map (sg_v μ)).set f (sg_v μ v) = (fs.set f v).map (sg_v μ) := List.map_set.symm
theorem sg_rf_v {μ : Nat → Nat} {r : Option Nat} : va_rf (r.map μ) = sg_v μ (va_rf r) := by cases r <;> rfl
theorem sg_wobj {n ci : Nat} {fs : List Value} (h : ∀ v ∈ fs, sg_wV n v) : sg_wE n (.inr (ci, fs)) := ⟨fun t x e => (by cases e), fun c g e => by cases e; exact h⟩
theorem sg_wset {n : Nat} {fs : List Value} {f : Nat} {v : Value} (h : ∀ v ∈ fs, sg_wV n v) (hv : sg_wV n v) : ∀ x ∈ fs.set f v, sg_wV n x := fun x hx => by
  rcases List.mem_or_eq_of_mem_set hx with z | z
  · exact h x z
  · rw [z]; exact hv
theorem sg_warr {n t : Nat} {x : vp_A} (h : sg_wA n x) : sg_wE n (.inl (t, x)) := ⟨fun _ _ e => by cases e; exact h, fun c g e => (by cases e)⟩
theorem sg_wAi {n k : Nat} {f : Nat → Int32} : sg_wA n (k, .inl f) := fun _ _ e => (by cases e)
theorem sg_wAl {n k : Nat} {f : Nat → Int64} : sg_wA n (k, .inr (.inl f)) := fun _ _ e => (by cases e)
section
variable {D : va_G} {cl : List vw_C} {tys : List (ClassId × FieldType)} {B b Ls : Nat} {xs : Nat → Int32} {Sx : List (String × Nat × String)} {Ax : List String} {P : sg_P} {Tw : List Cond} {k pc : Nat}

def sg_getf (pc ci f : Nat) : sg_F := fun L st M => match st with
  | .ref a :: r => match M.1 a with
    | some (.inr (cj, fs)) => if cj = ci then match fs[f]? with
      | some v => sg_go (pc + 3) L (v :: r) M
      | none => none else none
    | _ => none
  | _ => none
theorem sg_ok_getf {C : String} {T : u_T} {n ci f index : Nat} (hc : cl[ci]? = some (C, T, n)) (hin : ∀ w ∈ u_ws C T n, w ∈ Tw) (hk : f < n) (hw : Cond.fieldLink (sg_Y P k).cls index (T f).1 (T f).2.1 (T f).2.2.1 ∈ Tw) (hd : decode (sg_C P k) pc = .ok (.getfield index, 3)) : sg_Ok D cl tys B b Ls xs Sx Ax P Tw k pc (sg_getf pc ci f) := by
  intro p l e R s m args below meth c hF hC L st M μ H locs cells slots ls hJ
  obtain ⟨hx, hb, hml, hown, hts, hret, hlk, hfr, hlo, hnm, htr, htb⟩ := hF
  unfold sg_getf
  split
  · rename_i a r
    split
    · rename_i cj fs he
      split
      · rename_i hcj
        subst hcj
        split
        · rename_i v hv
          exact sg_pure hJ hJ.2.1 (sg_cc ((hJ.1.1 a _ he).2.1.2 _ _ rfl v (List.mem_of_getElem? hv)) (sg_c1 hJ.2.2.1).2) (fun Q kk => va_get hx hb hts hin hown hC.1 (hJ.1.one he).1 0 rfl hc f hk (hts _ hw) (fun _ h9 => h9) (sg_mapget hv) hd (kk ls hJ.2.2.2.1))
        · trivial
      · trivial
    · trivial
  · trivial
theorem sg_ok_getfN {C host : String} {T : u_T} {n ci f index : Nat} (hc : cl[ci]? = some (C, T, n)) (hin : ∀ w ∈ u_ws C T n, w ∈ Tw) (hk : f < n) (hw : Cond.fieldLinkNest (sg_Y P k).cls index (T f).1 (T f).2.1 (T f).2.2.1 host ∈ Tw) (hd : decode (sg_C P k) pc = .ok (.getfield index, 3)) : sg_Ok D cl tys B b Ls xs Sx Ax P Tw k pc (sg_getf pc ci f) := by
  intro p l e R s m args below meth c hF hC L st M μ H locs cells slots ls hJ
  obtain ⟨hx, hb, hml, hown, hts, hret, hlk, hfr, hlo, hnm, htr, htb⟩ := hF
  unfold sg_getf
  split
  · rename_i a r
    split
    · rename_i cj fs he
      split
      · rename_i hcj
        subst hcj
        split
        · rename_i v hv
          exact sg_pure hJ hJ.2.1 (sg_cc ((hJ.1.1 a _ he).2.1.2 _ _ rfl v (List.mem_of_getElem? hv)) (sg_c1 hJ.2.2.1).2) (fun Q kk => va_getN hx hb hts hin hown hC.1 (hJ.1.one he).1 0 rfl hc f hk (hts _ hw) (fun _ h9 => h9) (sg_mapget hv) hd (kk ls hJ.2.2.2.1))
        · trivial
      · trivial
    · trivial
  · trivial
def sg_putf (pc ci f : Nat) (ty : FieldType) : sg_F := fun L st M => match st with
  | v :: .ref a :: r => match M.1 a with
    | some (.inr (cj, fs)) => if cj = ci ∧ f < fs.length ∧ sg_kd ty v = true then some (.inl (pc + 3, L, r, (sg_up M.1 a (.inr (cj, fs.set f v)), M.2), 0, 0)) else none
    | _ => none
  | _ => none
theorem sg_ok_putf {C : String} {T : u_T} {n ci f index : Nat} {ty : FieldType} (hc : cl[ci]? = some (C, T, n)) (hin : ∀ w ∈ u_ws C T n, w ∈ Tw) (ty0 : Nat → FieldType) (hty : ∀ k, k < n → parseFieldDescriptor (T k).2.2.1 = some (ty0 k)) (hdis : ∀ a, a < n → ∀ b, b < n → a ≠ b → (T a).2.1 ≠ (T b).2.1) (hk : f < n) (hw : Cond.fieldLink (sg_Y P k).cls index (T f).1 (T f).2.1 (T f).2.2.1 ∈ Tw) (hfin : (T f).2.2.2 = false) (hpd : parseFieldDescriptor (T f).2.2.1 = some ty) (hd : decode (sg_C P k) pc = .ok (.putfield index, 3)) : sg_Ok D cl tys B b Ls xs Sx Ax P Tw k pc (sg_putf pc ci f ty) := by
  intro p l e R s m args below meth c hF hC L st M μ H locs cells slots ls hJ
  obtain ⟨hx, hb, hml, hown, hts, hret, hlk, hfr, hlo, hnm, htr, htb⟩ := hF
  unfold sg_putf
  split
  · rename_i v a r
    split
    · rename_i cj fs he
      split
      · rename_i hcj
        obtain ⟨hcj, hfl, hkd⟩ := hcj
        subst hcj
        obtain ⟨ws, g1, g2, g3, g4⟩ := hJ.1.world
        obtain ⟨q0, hq0⟩ := g3 a _ he
        obtain ⟨n1, n2⟩ := sg_kd_ok (μ := μ) hkd
        have hwv : sg_wV M.2 v := (sg_c1 hJ.2.2.1).1
        refine ⟨Nat.le_refl _, fun Q _ _ kk => va_put hx hb hts hin ty0 hty hdis hown hC.1 g1 g2 hJ.2.2.2.2 q0 hq0 hc f hk (hts _ hw) (fun _ h9 => h9) hfin hpd n1 n2 (by rw [List.length_map]; exact hfl) hd (fun H1 locs1 p1 p2 p3 => kk μ H1 locs1 ls sg_X.rf ⟨hJ.1.set g3 he hq0 (sg_wobj (sg_wset ((hJ.1.1 a _ he).2.1.2 _ _ rfl) hwv)) ?_, hJ.2.1, (sg_c1 (sg_c1 hJ.2.2.1).2).2, hJ.2.2.2.1, p3⟩)⟩
        have p1 : va_P D cl (ws.set q0 (μ a, .inr (cj, (fs.map (sg_v μ)).set f (sg_v μ v)))) H1 := p1
        rw [sg_mapset] at p1
        exact p1
      · trivial
    · trivial
  · trivial
theorem sg_ok_putfN {C host : String} {T : u_T} {n ci f index : Nat} {ty : FieldType} (hc : cl[ci]? = some (C, T, n)) (hin : ∀ w ∈ u_ws C T n, w ∈ Tw) (ty0 : Nat → FieldType) (hty : ∀ k, k < n → parseFieldDescriptor (T k).2.2.1 = some (ty0 k)) (hdis : ∀ a, a < n → ∀ b, b < n → a ≠ b → (T a).2.1 ≠ (T b).2.1) (hk : f < n) (hw : Cond.fieldLinkNest (sg_Y P k).cls index (T f).1 (T f).2.1 (T f).2.2.1 host ∈ Tw) (hfin : (T f).2.2.2 = false) (hpd : parseFieldDescriptor (T f).2.2.1 = some ty) (hd : decode (sg_C P k) pc = .ok (.putfield index, 3)) : sg_Ok D cl tys B b Ls xs Sx Ax P Tw k pc (sg_putf pc ci f ty) := by
  intro p l e R s m args below meth c hF hC L st M μ H locs cells slots ls hJ
  obtain ⟨hx, hb, hml, hown, hts, hret, hlk, hfr, hlo, hnm, htr, htb⟩ := hF
  unfold sg_putf
  split
  · rename_i v a r
    split
    · rename_i cj fs he
      split
      · rename_i hcj
        obtain ⟨hcj, hfl, hkd⟩ := hcj
        subst hcj
        obtain ⟨ws, g1, g2, g3, g4⟩ := hJ.1.world
        obtain ⟨q0, hq0⟩ := g3 a _ he
        obtain ⟨n1, n2⟩ := sg_kd_ok (μ := μ) hkd
        have hwv : sg_wV M.2 v := (sg_c1 hJ.2.2.1).1
        refine ⟨Nat.le_refl _, fun Q _ _ kk => va_putN hx hb hts hin ty0 hty hdis hown hC.1 g1 g2 hJ.2.2.2.2 q0 hq0 hc f hk (hts _ hw) (fun _ h9 => h9) hfin hpd n1 n2 (by rw [List.length_map]; exact hfl) hd (fun H1 locs1 p1 p2 p3 => kk μ H1 locs1 ls sg_X.rf ⟨hJ.1.set g3 he hq0 (sg_wobj (sg_wset ((hJ.1.1 a _ he).2.1.2 _ _ rfl) hwv)) ?_, hJ.2.1, (sg_c1 (sg_c1 hJ.2.2.1).2).2, hJ.2.2.2.1, p3⟩)⟩
        have p1 : va_P D cl (ws.set q0 (μ a, .inr (cj, (fs.map (sg_v μ)).set f (sg_v μ v)))) H1 := p1
        rw [sg_mapset] at p1
        exact p1
      · trivial
    · trivial
  · trivial
theorem sg_ok_putfF {C : String} {T : u_T} {n ci f index : Nat} {ty : FieldType} (hc : cl[ci]? = some (C, T, n)) (hin : ∀ w ∈ u_ws C T n, w ∈ Tw) (ty0 : Nat → FieldType) (hty : ∀ k, k < n → parseFieldDescriptor (T k).2.2.1 = some (ty0 k)) (hdis : ∀ a, a < n → ∀ b, b < n → a ≠ b → (T a).2.1 ≠ (T b).2.1) (hk : f < n) (hw : Cond.fieldLink (sg_Y P k).cls index (T f).1 (T f).2.1 (T f).2.2.1 ∈ Tw) (hfin : (T f).2.2.2 = true) (hini : (sg_Y P k).name = "<init>") (hdecl : (T f).1 = (sg_Y P k).cls) (hpd : parseFieldDescriptor (T f).2.2.1 = some ty) (hd : decode (sg_C P k) pc = .ok (.putfield index, 3)) : sg_Ok D cl tys B b Ls xs Sx Ax P Tw k pc (sg_putf pc ci f ty) := by
  intro p l e R s m args below meth c hF hC L st M μ H locs cells slots ls hJ
  obtain ⟨hx, hb, hml, hown, hts, hret, hlk, hfr, hlo, hnm, htr, htb⟩ := hF
  unfold sg_putf
  split
  · rename_i v a r
    split
    · rename_i cj fs he
      split
      · rename_i hcj
        obtain ⟨hcj, hfl, hkd⟩ := hcj
        subst hcj
        obtain ⟨ws, g1, g2, g3, g4⟩ := hJ.1.world
        obtain ⟨q0, hq0⟩ := g3 a _ he
        obtain ⟨n1, n2⟩ := sg_kd_ok (μ := μ) hkd
        have hwv : sg_wV M.2 v := (sg_c1 hJ.2.2.1).1
        refine ⟨Nat.le_refl _, fun Q _ _ kk => va_putF hx hb hts hin ty0 hty hdis hown hC.1 g1 g2 hJ.2.2.2.2 q0 hq0 hc f hk (hts _ hw) (fun _ h9 => h9) hfin (hnm.trans hini) hdecl hpd n1 n2 (by rw [List.length_map]; exact hfl) hd (fun H1 locs1 p1 p2 p3 => kk μ H1 locs1 ls sg_X.rf ⟨hJ.1.set g3 he hq0 (sg_wobj (sg_wset ((hJ.1.1 a _ he).2.1.2 _ _ rfl) hwv)) ?_, hJ.2.1, (sg_c1 (sg_c1 hJ.2.2.1).2).2, hJ.2.2.2.1, p3⟩)⟩
        have p1 : va_P D cl (ws.set q0 (μ a, .inr (cj, (fs.map (sg_v μ)).set f (sg_v μ v)))) H1 := p1
        rw [sg_mapset] at p1
        exact p1
      · trivial
    · trivial
  · trivial
def sg_iald (Ls : Nat) (xs : Nat → Int32) (pc : Nat) : sg_F := fun L st M => match st with
  | .int i :: .ref a :: r => if a = 0 then (if sg_in i Ls = true then sg_go (pc + 1) L (.int (xs i.toNatClampNeg) :: r) M else none) else match M.1 a with
    | some (.inl (0, n, .inl f)) => if sg_in i n = true then sg_go (pc + 1) L (.int (f i.toNatClampNeg) :: r) M else none
    | _ => none
  | _ => none
theorem sg_ok_iald (ht : tys[0]? = some (sg_tc tys 0, .int)) (hd : decode (sg_C P k) pc = .ok (.iaload, 1)) : sg_Ok D cl tys B b Ls xs Sx Ax P Tw k pc (sg_iald Ls xs pc) := by
  intro p l e R s m args below meth c hF hC L st M μ H locs cells slots ls hJ
  obtain ⟨hx, hb, hml, hown, hts, hret, hlk, hfr, hlo, hnm, htr, htb⟩ := hF
  unfold sg_iald
  split
  · rename_i i a r
    split
    · rename_i ha
      subst ha
      split
      · rename_i hi
        have hbl : b < s.heap.size := by
          obtain ⟨scr, g, -⟩ := hC.2.1
          exact (Array.getElem?_eq_some_iff.mp g).1
        refine sg_pure hJ hJ.2.1 (sg_cc sg_wi (sg_c1 (sg_c1 hJ.2.2.1).2).2) (fun Q kk => ?_)
        show W p l e R s m args below meth c H locs cells slots Q (F0 m pc ls (.int i :: .ref (μ 0) :: r.map (sg_v μ)))
        rw [hJ.1.2.2.2.2]
        exact va_sld hx hb hC.2.1 hbl (Nat.not_le.mpr hC.2.2.1) hJ.2.2.2.2 (sg_in_ok hi) hd (kk ls hJ.2.2.2.1)
      · trivial
    · split
      · rename_i n f he
        split
        · rename_i hi
          exact sg_pure hJ hJ.2.1 (sg_cc sg_wi (sg_c1 (sg_c1 hJ.2.2.1).2).2) (fun Q kk => va_iald hx hb hC.1 (hJ.1.one he).1 0 0 rfl ht (sg_in_ok hi) hd (kk ls hJ.2.2.2.1))
        · trivial
      · trivial
  · trivial
def sg_iast (pc : Nat) : sg_F := fun L st M => match st with
  | .int x :: .int i :: .ref a :: r => match M.1 a with
    | some (.inl (0, n, .inl f)) => if sg_in i n = true then some (.inl (pc + 1, L, r, (sg_up M.1 a (.inl (0, n, .inl (upd f i.toNatClampNeg x))), M.2), 0, 0)) else none
    | _ => none
  | _ => none
theorem sg_ok_iast (ht : tys[0]? = some (sg_tc tys 0, .int)) (hd : decode (sg_C P k) pc = .ok (.iastore, 1)) : sg_Ok D cl tys B b Ls xs Sx Ax P Tw k pc (sg_iast pc) := by
  intro p l e R s m args below meth c hF hC L st M μ H locs cells slots ls hJ
  obtain ⟨hx, hb, hml, hown, hts, hret, hlk, hfr, hlo, hnm, htr, htb⟩ := hF
  unfold sg_iast
  split
  · rename_i x i a r
    split
    · rename_i n f he
      split
      · rename_i hi
        obtain ⟨ws, g1, g2, g3, g4⟩ := hJ.1.world
        obtain ⟨q0, hq0⟩ := g3 a _ he
        exact ⟨Nat.le_refl _, fun Q _ _ kk => va_iast hx hb hC.1 g1 g2 hJ.2.2.2.2 q0 0 hq0 ht (sg_in_ok hi) hd (fun H1 locs1 p1 p2 p3 => kk μ H1 locs1 ls sg_X.rf ⟨hJ.1.set g3 he hq0 (e := .inl (0, n, .inl (upd f i.toNatClampNeg x))) (sg_warr sg_wAi) p1, hJ.2.1, (sg_c1 (sg_c1 (sg_c1 hJ.2.2.1).2).2).2, hJ.2.2.2.1, p3⟩)⟩
      · trivial
    · trivial
  · trivial
def sg_alen (Ls : Nat) (pc : Nat) : sg_F := fun L st M => match st with
  | .ref a :: r => if a = 0 then sg_go (pc + 1) L (.int (Int32.ofNat Ls) :: r) M else match M.1 a with
    | some (.inl (0, n, .inl f)) => sg_go (pc + 1) L (.int (Int32.ofNat n) :: r) M
    | _ => none
  | _ => none
theorem sg_ok_alen (ht : tys[0]? = some (sg_tc tys 0, .int)) (hd : decode (sg_C P k) pc = .ok (.arraylength, 1)) : sg_Ok D cl tys B b Ls xs Sx Ax P Tw k pc (sg_alen Ls pc) := by
  intro p l e R s m args below meth c hF hC L st M μ H locs cells slots ls hJ
  obtain ⟨hx, hb, hml, hown, hts, hret, hlk, hfr, hlo, hnm, htr, htb⟩ := hF
  unfold sg_alen
  split
  · rename_i a r
    split
    · rename_i ha
      subst ha
      have hbl : b < s.heap.size := by
        obtain ⟨scr, g, -⟩ := hC.2.1
        exact (Array.getElem?_eq_some_iff.mp g).1
      refine sg_pure hJ hJ.2.1 (sg_cc sg_wi (sg_c1 hJ.2.2.1).2) (fun Q kk => ?_)
      show W p l e R s m args below meth c H locs cells slots Q (F0 m pc ls (.ref (μ 0) :: r.map (sg_v μ)))
      rw [hJ.1.2.2.2.2]
      exact va_slen hx hb hC.2.1 hbl (Nat.not_le.mpr hC.2.2.1) hJ.2.2.2.2 hd (kk ls hJ.2.2.2.1)
    · split
      · rename_i n f he
        exact sg_pure hJ hJ.2.1 (sg_cc sg_wi (sg_c1 hJ.2.2.1).2) (fun Q kk => va_alen hx hb hC.1 (hJ.1.one he).1 0 0 rfl ht rfl hd (kk ls hJ.2.2.2.1))
      · trivial
  · trivial
def sg_aald (pc t : Nat) : sg_F := fun L st M => match st with
  | .int i :: .ref a :: r => match M.1 a with
    | some (.inl (t1, n, .inr (.inr (.inr (.inr f))))) => if t1 = t ∧ sg_in i n = true then sg_go (pc + 1) L (va_rf (f i.toNatClampNeg) :: r) M else none
    | _ => none
  | _ => none
theorem sg_ok_aald {t : Nat} {C : String} (ht : tys[t]? = some (sg_tc tys t, .object C)) (hd : decode (sg_C P k) pc = .ok (.aaload, 1)) : sg_Ok D cl tys B b Ls xs Sx Ax P Tw k pc (sg_aald pc t) := by
  intro p l e R s m args below meth c hF hC L st M μ H locs cells slots ls hJ
  obtain ⟨hx, hb, hml, hown, hts, hret, hlk, hfr, hlo, hnm, htr, htb⟩ := hF
  unfold sg_aald
  split
  · rename_i i a r
    split
    · rename_i t1 n f he
      split
      · rename_i hi
        obtain ⟨h1, hi⟩ := hi
        subst h1
        have hwv : sg_wV M.2 (va_rf (f i.toNatClampNeg)) := fun z hz => by
          cases hj : f i.toNatClampNeg with
          | none => rw [hj] at hz; cases hz
          | some y => rw [hj] at hz; cases hz; exact (hJ.1.1 a _ he).2.1.1 _ _ rfl _ _ rfl _ _ hj
        refine sg_pure hJ hJ.2.1 (sg_cc hwv (sg_c1 (sg_c1 hJ.2.2.1).2).2) (fun Q kk => va_aldq (f := fun j => (f j).map μ) hx hb hC.1 (hJ.1.one he).1 0 t1 rfl ht (sg_in_ok hi) hd ?_)
        rw [sg_rf_v]
        exact kk ls hJ.2.2.2.1
      · trivial
    · trivial
  · trivial
def sg_aast (pc t ci : Nat) : sg_F := fun L st M => match st with
  | .ref v :: .int i :: .ref a :: r => match M.1 a, M.1 v with
    | some (.inl (t1, n, .inr (.inr (.inr (.inr f))))), some (.inr (cj, fs)) => if t1 = t ∧ cj = ci ∧ sg_in i n = true then some (.inl (pc + 1, L, r, (sg_up M.1 a (.inl (t1, n, .inr (.inr (.inr (.inr (va_up f i.toNatClampNeg (some v))))))), M.2), 0, 0)) else none
    | _, _ => none
  | _ => none
theorem sg_ok_aast {t ci : Nat} {q : vw_C} (ht : tys[t]? = some (sg_tc tys t, .object q.1)) (hc : cl[ci]? = some q) (hd : decode (sg_C P k) pc = .ok (.aastore, 1)) : sg_Ok D cl tys B b Ls xs Sx Ax P Tw k pc (sg_aast pc t ci) := by
  intro p l e R s m args below meth c hF hC L st M μ H locs cells slots ls hJ
  obtain ⟨hx, hb, hml, hown, hts, hret, hlk, hfr, hlo, hnm, htr, htb⟩ := hF
  unfold sg_aast
  split
  · rename_i v i a r
    split
    · rename_i t1 n f cj fs he hv
      split
      · rename_i hi
        obtain ⟨h1, h2, hi⟩ := hi
        subst h1; subst h2
        obtain ⟨ws, g1, g2, g3, g4⟩ := hJ.1.world
        obtain ⟨q0, hq0⟩ := g3 a _ he
        obtain ⟨q1, hq1⟩ := g3 v _ hv
        refine ⟨Nat.le_refl _, fun Q _ _ kk => va_astq (f := fun j => (f j).map μ) hx hb hC.1 g1 g2 hJ.2.2.2.2 q0 t1 q1 cj hq0 ht hq1 hc (sg_in_ok hi) hd (fun H1 locs1 p1 p2 p3 => kk μ H1 locs1 ls sg_X.rf ⟨hJ.1.set g3 he hq0 (e := .inl (t1, n, .inr (.inr (.inr (.inr (va_up f i.toNatClampNeg (some v))))))) (sg_warr ?_) ?_, hJ.2.1, (sg_c1 (sg_c1 (sg_c1 hJ.2.2.1).2).2).2, hJ.2.2.2.1, p3⟩)⟩
        · intro k9 f9 e9 j y hy
          cases e9
          have hy : (if j = i.toNatClampNeg then some v else f j) = some y := hy
          by_cases hz : j = i.toNatClampNeg
          · rw [if_pos hz] at hy; cases hy
            exact (hJ.1.1 v _ hv).1
          · rw [if_neg hz] at hy
            exact (hJ.1.1 a _ he).2.1.1 _ _ rfl _ _ rfl _ _ hy
        · have e9 : (fun j => (va_up f i.toNatClampNeg (some v) j).map μ) = va_up (fun j => (f j).map μ) i.toNatClampNeg (some (μ v)) := by
            funext j
            show ((if j = i.toNatClampNeg then some v else f j)).map μ = if j = i.toNatClampNeg then some (μ v) else (f j).map μ
            by_cases hz : j = i.toNatClampNeg
            · rw [if_pos hz, if_pos hz]; rfl
            · rw [if_neg hz, if_neg hz]
          show va_P D cl (ws.set q0 (μ a, .inl (sg_tc tys t1, n, .inr (.inr (.inr (.inr (fun j => (va_up f i.toNatClampNeg (some v) j).map μ))))))) H1
          rw [e9]
          exact p1
      · trivial
    · trivial
  · trivial
def sg_new (pc ci n : Nat) (fs : List Value) : sg_F := fun L st M => some (.inl (pc + 3, L, .ref M.2 :: st, (sg_up M.1 M.2 (.inr (ci, fs)), M.2 + 1), 1, n))
theorem sg_ok_new {C : String} {T : u_T} {n ci index : Nat} {fs : List Value} (hc : cl[ci]? = some (C, T, n)) (hin : ∀ w ∈ u_ws C T n, w ∈ Tw) (ty : Nat → FieldType) (hty : ∀ k, k < n → parseFieldDescriptor (T k).2.2.1 = some (ty k)) (h1 : Cond.classLink (sg_Y P k).cls index C ∈ Tw) (h2 : Cond.instantiable C n ∈ Tw) (h3 : Cond.initialized C ∈ Tw) (hfs : ∀ j, j < n → defaultValue (ty j) = vp_V fs j) (hnr : ∀ v ∈ fs, ∀ a, v ≠ .ref a) (hd : decode (sg_C P k) pc = .ok (.new index, 3)) : sg_Ok D cl tys B b Ls xs Sx Ax P Tw k pc (sg_new pc ci n fs) := by
  intro p l e R s m args below meth c hF hC L st M μ H locs cells slots ls hJ
  obtain ⟨hx, hb, hml, hown, hts, hret, hlk, hfr, hlo, hnm, htr, htb⟩ := hF
  obtain ⟨ws, g1, g2, g3, g4⟩ := hJ.1.world
  have hfm : fs.map (sg_v μ) = fs := by
    have : fs.map (sg_v μ) = fs.map id := List.map_congr_left fun v hv => by
      cases v <;> first | rfl | exact absurd rfl (hnr _ hv _)
    rw [this, List.map_id]
  have hwf : sg_wE M.2 (.inr (ci, fs)) := sg_wobj fun v hv a e => absurd e (hnr v hv a)
  refine ⟨Nat.le_succ _, fun Q hc1 hc2 kk => va_new hx hb hts hin ty hty hown (hts _ h1) (hts _ h2) (hts _ h3) hC.1 g1 g2 hJ.2.2.2.2 (fun q hq => Nat.le_trans hC.2.2.2.1 hq) hc hfs hc1 hc2 hd (fun q H1 p1 p2 p3 => ?_)⟩
  have e9 : sg_c tys μ (.inr (ci, fs)) = .inr (ci, fs) := congrArg (fun z => Sum.inr (ci, z)) hfm
  obtain ⟨i1, i2⟩ := hJ.1.push (e := .inr (ci, fs)) g3 hwf (by rw [e9]; exact p1) (by rw [e9]; exact p2)
  have hk := kk _ H1 locs ls i2 ⟨i1, fun z hz => (hJ.2.1 z hz).mono (Nat.le_succ _), sg_cc (fun a e => by cases e; exact Nat.lt_succ_self _) (fun v hv => (hJ.2.2.1 v hv).mono (Nat.le_succ _)), by rw [sg_ls_x hJ.2.1 i2]; exact hJ.2.2.2.1, p3⟩
  rw [List.map_cons, sg_vs_x hJ.2.2.1 i2] at hk
  have e8 : sg_v (fun x => if x = M.2 then q else μ x) (.ref M.2) = .ref q := congrArg Value.ref (if_pos rfl)
  rw [e8] at hk
  exact hk
def sg_newa_int (pc : Nat) : sg_F := fun L st M => match st with
  | .int n :: r => if n < 0 ∨ 65536 < n.toNatClampNeg then none else some (.inl (pc + 2, L, .ref M.2 :: r, (sg_up M.1 M.2 (.inl (0, n.toNatClampNeg, .inl (fun _ => 0))), M.2 + 1), 1, n.toNatClampNeg))
  | _ => none
theorem sg_ok_newa_int (ht : tys[0]? = some (sg_tc tys 0, .int)) (hw : Cond.arrayClass .int ∈ Tw) (hd : decode (sg_C P k) pc = .ok (.newarray .int, 2)) : sg_Ok D cl tys B b Ls xs Sx Ax P Tw k pc (sg_newa_int pc) := by
  intro p l e R s m args below meth c hF hC L st M μ H locs cells slots ls hJ
  obtain ⟨hx, hb, hml, hown, hts, hret, hlk, hfr, hlo, hnm, htr, htb⟩ := hF
  unfold sg_newa_int
  split
  · rename_i n r
    split
    · trivial
    · rename_i hn
      have hn0 : ¬ n < 0 := fun z => hn (Or.inl z)
      have hn1 : n.toNatClampNeg ≤ 65536 := by omega
      obtain ⟨ws, g1, g2, g3, g4⟩ := hJ.1.world
      have hst := (sg_c1 hJ.2.2.1).2
      refine ⟨Nat.le_succ _, fun Q hc1 hc2 kk => va_newa (atype := .int) (ty := .int) (a0 := (n.toNatClampNeg, .inl (fun _ => 0))) hx hb (hts _ hw) rfl hC.1 g1 g2 hJ.2.2.2.2 (fun q hq => Nat.le_trans hC.2.2.2.1 hq) (fun cA => rfl) hn0 rfl (by show n.toNatClampNeg * 4 ≤ 536870912; omega) hc1 hc2 hd (fun q cA H1 pK p1 p2 p3 => ?_)⟩
      have hcA : cA = sg_tc tys 0 := by
        have k1 : s.vm.findClass ("[" ++ (FieldType.int).toString) = some cA := (pK.2 tys.length (cA, .int) (by rw [List.getElem?_append_right (Nat.le_refl _), Nat.sub_self]; rfl)).2
        have k2 : s.vm.findClass ("[" ++ (FieldType.int).toString) = some (sg_tc tys 0) := (hC.1.2 0 _ ht).2
        exact Option.some.inj (k1.symm.trans k2)
      subst hcA
      obtain ⟨i1, i2⟩ := hJ.1.push (e := .inl (0, n.toNatClampNeg, .inl (fun _ => 0))) g3 (sg_warr sg_wAi) p1 p2
      have hk := kk _ H1 locs ls i2 ⟨i1, fun z hz => (hJ.2.1 z hz).mono (Nat.le_succ _), sg_cc (fun a e => by cases e; exact Nat.lt_succ_self _) (fun v hv => (hst v hv).mono (Nat.le_succ _)), by rw [sg_ls_x hJ.2.1 i2]; exact hJ.2.2.2.1, p3⟩
      rw [List.map_cons, sg_vs_x hst i2] at hk
      have e8 : sg_v (fun x => if x = M.2 then q else μ x) (.ref M.2) = .ref q := congrArg Value.ref (if_pos rfl)
      rw [e8] at hk
      exact hk
  · trivial
def sg_newq (pc t : Nat) : sg_F := fun L st M => match st with
  | .int n :: r => if n < 0 ∨ 65536 < n.toNatClampNeg then none else some (.inl (pc + 3, L, .ref M.2 :: r, (sg_up M.1 M.2 (.inl (t, n.toNatClampNeg, .inr (.inr (.inr (.inr (fun _ => none)))))), M.2 + 1), 1, n.toNatClampNeg))
  | _ => none
theorem sg_ok_newq {t index : Nat} {C : String} (ht : tys[t]? = some (sg_tc tys t, .object C)) (hw : Cond.classLink (sg_Y P k).cls index C ∈ Tw) (hA : C ∈ Ax) (hd : decode (sg_C P k) pc = .ok (.anewarray index, 3)) : sg_Ok D cl tys B b Ls xs Sx Ax P Tw k pc (sg_newq pc t) := by
  intro p l e R s m args below meth c hF hC L st M μ H locs cells slots ls hJ
  obtain ⟨hx, hb, hml, hown, hts, hret, hlk, hfr, hlo, hnm, htr, htb⟩ := hF
  unfold sg_newq
  split
  · rename_i n r
    split
    · trivial
    · rename_i hn
      have hn0 : ¬ n < 0 := fun z => hn (Or.inl z)
      have hn1 : n.toNatClampNeg ≤ 65536 := by omega
      obtain ⟨ws, g1, g2, g3, g4⟩ := hJ.1.world
      have hst := (sg_c1 hJ.2.2.1).2
      refine ⟨Nat.le_succ _, fun Q hc1 hc2 kk => va_newq hx hb hown (hts _ hw) (hC.2.2.2.2.2.2.2 C hA) hC.1 g1 g2 hJ.2.2.2.2 (fun q hq => Nat.le_trans hC.2.2.2.1 hq) hn0 rfl (by omega) hc1 hc2 hd (fun q cA H1 pK p1 p2 p3 => ?_)⟩
      have hcA : cA = sg_tc tys t := by
        obtain ⟨-, -, -, -, -, k1⟩ := (pK.2 tys.length (cA, .object C) (by rw [List.getElem?_append_right (Nat.le_refl _), Nat.sub_self]; rfl)).2
        obtain ⟨-, -, -, -, -, k2⟩ := (hC.1.2 t _ ht).2
        exact Option.some.inj (k1.symm.trans k2)
      subst hcA
      obtain ⟨i1, i2⟩ := hJ.1.push (e := .inl (t, n.toNatClampNeg, .inr (.inr (.inr (.inr (fun _ => none)))))) g3 (sg_warr (fun _ _ e9 j a ha => by cases e9; cases ha)) p1 p2
      have hk := kk _ H1 locs ls i2 ⟨i1, fun z hz => (hJ.2.1 z hz).mono (Nat.le_succ _), sg_cc (fun a e => by cases e; exact Nat.lt_succ_self _) (fun v hv => (hst v hv).mono (Nat.le_succ _)), by rw [sg_ls_x hJ.2.1 i2]; exact hJ.2.2.2.1, p3⟩
      rw [List.map_cons, sg_vs_x hst i2] at hk
      have e8 : sg_v (fun x => if x = M.2 then q else μ x) (.ref M.2) = .ref q := congrArg Value.ref (if_pos rfl)
      rw [e8] at hk
      exact hk
  · trivial
def sg_copy (pc : Nat) (P : sg_P) (k : Nat) : sg_F := fun L st M => match st with
  | .int n :: .int dp :: .ref a :: .int sp :: .ref a0 :: r => match M.1 a0, M.1 a with
    | some (.inl (0, n0, .inl f)), some (.inl (0, n1, .inl g)) => if sp < 0 ∨ dp < 0 ∨ n < 0 ∨ n0 < sp.toNatClampNeg + n.toNatClampNeg ∨ n1 < dp.toNatClampNeg + n.toNatClampNeg ∨ sg_fr P k < 1 ∨ sg_lo P k < (r.map fun v => v.category).sum + (nativeFrameWords "java/lang/System" "arraycopy" 5 + 11) then none else some (.inl (pc + 3, L, r, (sg_up M.1 a (.inl (0, n1, .inl (va_cpy f g sp.toNatClampNeg dp.toNatClampNeg n.toNatClampNeg))), M.2), 0, 0))
    | _, _ => none
  | _ => none
theorem sg_ok_copy {index : Nat} (ht : tys[0]? = some (sg_tc tys 0, .int)) (h1 : Cond.methodLink (sg_Y P k).cls index arraycopyName ∈ Tw) (h2 : Cond.native arraycopyName ∈ Tw) (h3 : Cond.static arraycopyName ∈ Tw) (h4 : Cond.initialized "java/lang/System" ∈ Tw) (hd : decode (sg_C P k) pc = .ok (.invokestatic index, 3)) : sg_Ok D cl tys B b Ls xs Sx Ax P Tw k pc (sg_copy pc P k) := by
  intro p l e R s m args below meth c hF hC L st M μ H locs cells slots ls hJ
  obtain ⟨hx, hb, hml, hown, hts, hret, hlk, hfr, hlo, hnm, htr, htb⟩ := hF
  unfold sg_copy
  split
  · rename_i n dp a sp a0 r
    split
    · rename_i n0 f n1 g he0 he1
      split
      · trivial
      · rename_i hn
        simp only [not_or, Nat.not_lt] at hn
        obtain ⟨z1, z2, z3, z4, z5, z6, z7⟩ := hn
        obtain ⟨ws, g1, g2, g3, g4⟩ := hJ.1.world
        obtain ⟨q0, hq0⟩ := g3 a0 _ he0
        obtain ⟨q1, hq1⟩ := g3 a _ he1
        have hst := (sg_c1 (sg_c1 (sg_c1 (sg_c1 (sg_c1 hJ.2.2.1).2).2).2).2).2
        exact ⟨Nat.le_refl _, fun Q _ _ kk => va_copyi hx hb (hml.trans hJ.2.2.2.1.1.symm) hown (hts _ h1) (hts _ h2) (hts _ h3) (hts _ h4) hC.1 g1 g2 hJ.2.2.2.2 q0 q1 0 0 hq0 hq1 ht ht rfl z1 z2 z3 z4 z5 (fun _ _ => rfl) (by rw [hfr]; exact z6) (by rw [hlo, sg_cats]; exact z7) hd (fun H1 locs1 p1 p2 p3 => kk μ H1 locs1 ls sg_X.rf ⟨hJ.1.set g3 he1 hq1 (e := .inl (0, n1, .inl (va_cpy f g sp.toNatClampNeg dp.toNatClampNeg n.toNatClampNeg))) (sg_warr sg_wAi) p1, hJ.2.1, hst, hJ.2.2.2.1, p3⟩)⟩
    · trivial
  · trivial
def sg_obj (pc : Nat) (P : sg_P) (k : Nat) : sg_F := fun L st M => match st with
  | .ref _ :: r => if sg_fr P k < 1 ∨ sg_lo P k < (r.map fun v => v.category).sum + 12 then none else sg_go (pc + 3) L r M
  | _ => none
theorem sg_ok_obj {index : Nat} (h1 : Cond.methodLink (sg_Y P k).cls index Lib.objectInit ∈ Tw) (h2 : Cond.instanceMethod Lib.objectInit ∈ Tw) (h3 : Cond.code Lib.objectInit ⟨#[0xb1]⟩ 1 none ∈ Tw) (hd : decode (sg_C P k) pc = .ok (.invokespecial index, 3)) : sg_Ok D cl tys B b Ls xs Sx Ax P Tw k pc (sg_obj pc P k) := by
  intro p l e R s m args below meth c hF hC L st M μ H locs cells slots ls hJ
  obtain ⟨hx, hb, hml, hown, hts, hret, hlk, hfr, hlo, hnm, htr, htb⟩ := hF
  unfold sg_obj
  split
  · rename_i a r
    split
    · trivial
    · rename_i hn
      simp only [not_or, Nat.not_lt] at hn
      exact sg_pure hJ hJ.2.1 (sg_c1 hJ.2.2.1).2 (fun Q kk => W.objInit hx hb hown (hts _ h1) (hts _ h2) (hts _ h3) rfl (hJ.2.2.2.1.1.trans hml.symm) rfl hd (by rw [hfr]; exact hn.1) (by show 2 * 0 + (((r.map (sg_v μ)).map fun v => v.category).sum) + 12 ≤ R.locals; rw [hlo, sg_cats]; omega) (kk ls hJ.2.2.2.1))
  · trivial
def sg_mmax (pc : Nat) (P : sg_P) (k : Nat) : sg_F := fun L st M => match st with
  | .int y :: .int x :: r => bif Nat.ble 1 (sg_fr P k) && Nat.ble ((r.map fun v => v.category).sum + 13) (sg_lo P k) then sg_go (pc + 3) L (.int (if x < y then y else x) :: r) M else none
  | _ => none
theorem sg_ok_mmax {index : Nat} (h1 : Cond.methodLink (sg_Y P k).cls index Lib.Math.max.name ∈ Tw) (h2 : Cond.static Lib.Math.max.name ∈ Tw) (h3 : Cond.initialized "java/lang/Math" ∈ Tw) (h4 : Cond.code Lib.Math.max.name Lib.Math.max.code 2 (some .int) ∈ Tw) (hd : decode (sg_C P k) pc = .ok (.invokestatic index, 3)) : sg_Ok D cl tys B b Ls xs Sx Ax P Tw k pc (sg_mmax pc P k) := by
  intro p l e R s m args below meth c hF hC L st M μ H locs cells slots ls hJ
  obtain ⟨hx, hb, hml, hown, hts, hret, hlk, hfr, hlo, hnm, htr, htb⟩ := hF
  unfold sg_mmax
  split
  · rename_i y x r
    cases hb9 : (Nat.ble 1 (sg_fr P k) && Nat.ble ((r.map fun v => v.category).sum + 13) (sg_lo P k)) with
    | false => trivial
    | true =>
      simp only [Bool.and_eq_true, Nat.ble_eq] at hb9
      refine ⟨Nat.le_refl _, fun Q q1 q2 kk => va_mmax hx hb (hml.trans hJ.2.2.2.1.1.symm) hown (hts _ h1) (hts _ h2) (hts _ h3) (hts _ h4) (by rw [hfr]; exact hb9.1) (by rw [hlo, sg_cats]; exact hb9.2) (by omega) (by omega) hd (kk μ H locs ls sg_X.rf ⟨hJ.1, hJ.2.1, sg_cc sg_wi (sg_c1 (sg_c1 hJ.2.2.1).2).2, hJ.2.2.2.1, hJ.2.2.2.2⟩)⟩
  · trivial
def sg_mmin (pc : Nat) (P : sg_P) (k : Nat) : sg_F := fun L st M => match st with
  | .int y :: .int x :: r => bif Nat.ble 1 (sg_fr P k) && Nat.ble ((r.map fun v => v.category).sum + 13) (sg_lo P k) then sg_go (pc + 3) L (.int (if y < x then y else x) :: r) M else none
  | _ => none
theorem sg_ok_mmin {index : Nat} (h1 : Cond.methodLink (sg_Y P k).cls index Lib.Math.min.name ∈ Tw) (h2 : Cond.static Lib.Math.min.name ∈ Tw) (h3 : Cond.initialized "java/lang/Math" ∈ Tw) (h4 : Cond.code Lib.Math.min.name Lib.Math.min.code 2 (some .int) ∈ Tw) (hd : decode (sg_C P k) pc = .ok (.invokestatic index, 3)) : sg_Ok D cl tys B b Ls xs Sx Ax P Tw k pc (sg_mmin pc P k) := by
  intro p l e R s m args below meth c hF hC L st M μ H locs cells slots ls hJ
  obtain ⟨hx, hb, hml, hown, hts, hret, hlk, hfr, hlo, hnm, htr, htb⟩ := hF
  unfold sg_mmin
  split
  · rename_i y x r
    cases hb9 : (Nat.ble 1 (sg_fr P k) && Nat.ble ((r.map fun v => v.category).sum + 13) (sg_lo P k)) with
    | false => trivial
    | true =>
      simp only [Bool.and_eq_true, Nat.ble_eq] at hb9
      refine ⟨Nat.le_refl _, fun Q q1 q2 kk => va_mmin hx hb (hml.trans hJ.2.2.2.1.1.symm) hown (hts _ h1) (hts _ h2) (hts _ h3) (hts _ h4) (by rw [hfr]; exact hb9.1) (by rw [hlo, sg_cats]; exact hb9.2) (by omega) (by omega) hd (kk μ H locs ls sg_X.rf ⟨hJ.1, hJ.2.1, sg_cc sg_wi (sg_c1 (sg_c1 hJ.2.2.1).2).2, hJ.2.2.2.1, hJ.2.2.2.2⟩)⟩
  · trivial
def sg_iret : sg_F := fun L st M => match st with
  | [.int x] => some (.inr (.inr (.inl (some (.int x)))))
  | _ => none
theorem sg_ok_iret (hT : sg_T P k = some .int) (hd : decode (sg_C P k) pc = .ok (.ireturn, 1)) : sg_Ok D cl tys B b Ls xs Sx Ax P Tw k pc sg_iret := by
  intro p l e R s m args below meth c hF hC L st M μ H locs cells slots ls hJ
  obtain ⟨hx, hb, hml, hown, hts, hret, hlk, hfr, hlo, hnm, htr, htb⟩ := hF
  unfold sg_iret
  split
  · rename_i x
    exact ⟨fun y hy => by cases hy; exact sg_wi, fun Qc XC free hq hf => vx_ret (W.iret (v := x) hx hb (hret.trans hT) hq hf hd hlk)⟩
  · trivial
def sg_lret : sg_F := fun L st M => match st with
  | [.long x] => some (.inr (.inr (.inl (some (.long x)))))
  | _ => none
theorem sg_ok_lret (hT : sg_T P k = some .long) (hd : decode (sg_C P k) pc = .ok (.lreturn, 1)) : sg_Ok D cl tys B b Ls xs Sx Ax P Tw k pc sg_lret := by
  intro p l e R s m args below meth c hF hC L st M μ H locs cells slots ls hJ
  obtain ⟨hx, hb, hml, hown, hts, hret, hlk, hfr, hlo, hnm, htr, htb⟩ := hF
  unfold sg_lret
  split
  · rename_i x
    exact ⟨fun y hy => by cases hy; exact sg_wl, fun Qc XC free hq hf => vx_ret (W.lret (v := x) hx hb (hret.trans hT) hq hf hd hlk)⟩
  · trivial
def sg_zret : sg_F := fun L st M => match st with
  | [.int x] => if x = 0 ∨ x = 1 then some (.inr (.inr (.inl (some (.int x))))) else none
  | _ => none
theorem sg_ok_zret (hT : sg_T P k = some .boolean) (hd : decode (sg_C P k) pc = .ok (.ireturn, 1)) : sg_Ok D cl tys B b Ls xs Sx Ax P Tw k pc sg_zret := by
  intro p l e R s m args below meth c hF hC L st M μ H locs cells slots ls hJ
  obtain ⟨hx, hb, hml, hown, hts, hret, hlk, hfr, hlo, hnm, htr, htb⟩ := hF
  unfold sg_zret
  split
  · rename_i x
    split
    · rename_i hx01
      have hn : narrow .boolean (.int x) = .int x := by rcases hx01 with h | h <;> subst h <;> rfl
      exact ⟨fun y hy => by cases hy; exact sg_wi, fun Qc XC free hq hf => vx_ret (W.zret (v := x) hx hb (hret.trans hT) hn hq hf hd hlk)⟩
    · trivial
  · trivial
def sg_vret : sg_F := fun L st M => match st with
  | [] => some (.inr (.inr (.inl none)))
  | _ => none
theorem sg_ok_vret (hT : sg_T P k = none) (hd : decode (sg_C P k) pc = .ok (.return_, 1)) : sg_Ok D cl tys B b Ls xs Sx Ax P Tw k pc sg_vret := by
  intro p l e R s m args below meth c hF hC L st M μ H locs cells slots ls hJ
  obtain ⟨hx, hb, hml, hown, hts, hret, hlk, hfr, hlo, hnm, htr, htb⟩ := hF
  unfold sg_vret
  split
  · exact ⟨fun y hy => (nomatch hy), fun Qc XC free hq hf => vx_ret (W.vret hx hb (hret.trans hT) hq hf hd hlk)⟩
  · trivial
def sg_aret : sg_F := fun L st M => match st with
  | [.ref a] => some (.inr (.inr (.inl (some (.ref a)))))
  | [.null] => some (.inr (.inr (.inl (some .null))))
  | _ => none
theorem sg_ok_aret {rt : FieldType} (hT : sg_T P k = some rt) (hrt : (∃ n, rt = .object n) ∨ ∃ t, rt = .array t) (hd : decode (sg_C P k) pc = .ok (.areturn, 1)) : sg_Ok D cl tys B b Ls xs Sx Ax P Tw k pc sg_aret := by
  intro p l e R s m args below meth c hF hC L st M μ H locs cells slots ls hJ
  obtain ⟨hx, hb, hml, hown, hts, hret, hlk, hfr, hlo, hnm, htr, htb⟩ := hF
  unfold sg_aret
  split
  · rename_i a
    exact ⟨fun y hy => by cases hy; exact (sg_c1 hJ.2.2.1).1, fun Qc XC free hq hf => vx_ret (W.aret (v := .ref (μ a)) hx hb (hret.trans hT) hrt (Or.inr ⟨_, rfl⟩) hq hf hd hlk)⟩
  · exact ⟨fun y hy => by cases hy; exact sg_wnull, fun Qc XC free hq hf => vx_ret (W.aret (v := .null) hx hb (hret.trans hT) hrt (Or.inl rfl) hq hf hd hlk)⟩
  · trivial
end
end SGC
