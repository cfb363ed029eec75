section SGA
/-! A small machine of its own: abstract cells by abstract numbers, steps as functions, and each step's soundness over the kit's rows. -/
abbrev sg_E : Type := (Nat × vp_A) ⊕ (Nat × List Value)
abbrev sg_M : Type := (Nat → Option sg_E) × Nat
abbrev sg_L : Type := List (Nat × Value)
abbrev sg_O : Type := (Nat × sg_L × List Value × sg_M × Nat × Nat) ⊕ ((Nat × List Value × List Value) ⊕ ((Option Value) ⊕ Nat))
abbrev sg_F : Type := sg_L → List Value → sg_M → Option sg_O
abbrev sg_R : Type := (Option Value ⊕ Nat) × sg_M × Nat × Nat
def sg_up (f : Nat → Option sg_E) (a : Nat) (e : sg_E) : Nat → Option sg_E := fun q => if q = a then some e else f q
def sg_at (L : sg_L) (i : Nat) : Option Value := match L with
  | [] => none
  | q :: L => if q.1 = i then some q.2 else sg_at L i
def sg_ins (L : sg_L) (i : Nat) (v : Value) : sg_L := match L with
  | [] => [(i, v)]
  | q :: L => bif q.1 == i then (i, v) :: L.filter (fun q => !(q.1 == i)) else q :: sg_ins L i v
def sg_st1 (L : sg_L) (i : Nat) (v : Value) : sg_L := sg_ins (L.filter (fun q => !(q.1 + 1 == i && q.2.category == 2))) i v
def sg_st2 (L : sg_L) (i : Nat) (v : Value) : sg_L := sg_ins (L.filter (fun q => !(q.1 == i + 1) && !(q.1 + 1 == i && q.2.category == 2))) i v
def sg_go (pc : Nat) (L : sg_L) (st : List Value) (M : sg_M) : Option sg_O := some (.inl (pc, L, st, M, 0, 0))
def sg_in (i : Int32) (n : Nat) : Bool := !(decide (i < 0) || decide (n ≤ i.toNatClampNeg))
theorem sg_in_ok {i : Int32} {n : Nat} (h : sg_in i n = true) : vp_in i n := by
  simpa [sg_in, vp_in] using h
/-- the machine: at most n steps -/
def sg_ev (tab : Nat → Nat → Option sg_F) (hd : Nat → Nat → Nat → Option (Option Nat)) : Nat → Nat → Nat → sg_L → List Value → sg_M → Option sg_R
  | 0, _, _, _, _, _ => none
  | n + 1, k, pc, L, st, M =>
    match tab k pc with
    | none => none
    | some f => match f L st M with
      | none => none
      | some (.inl (pc1, L1, st1, M1, dc, ds)) => match sg_ev tab hd n k pc1 L1 st1 M1 with
        | none => none
        | some (r, M2, c, s) => some (r, M2, dc + c, ds + s)
      | some (.inr (.inl (j, av, rest))) => match sg_ev tab hd n j 0 (lv_args 0 av) [] M with
        | none => none
        | some (.inl v, M1, c1, s1) => match sg_ev tab hd n k (pc + 3) L (v.toList ++ rest) M1 with
          | none => none
          | some (r, M2, c, s) => some (r, M2, c1 + c, s1 + s)
        | some (.inr E, M1, c1, s1) => match hd k pc E with
          | none => none
          | some none => some (.inr E, M1, c1, s1)
          | some (some h) => match sg_ev tab hd n k h L [.ref M1.2] (M1.1, M1.2 + 1) with
            | none => none
            | some (r, M2, c, s) => some (r, M2, c1 + c, s1 + s)
      | some (.inr (.inr (.inl v))) => some (.inl v, M, 0, 0)
      | some (.inr (.inr (.inr E))) => some (.inr E, M, 1, 6)
/-! abstract numbers to addresses -/
def sg_v (μ : Nat → Nat) (v : Value) : Value := match v with
  | .ref a => .ref (μ a)
  | v => v
def sg_a (μ : Nat → Nat) (x : vp_A) : vp_A := match x with
  | (n, .inr (.inr (.inr (.inr f)))) => (n, .inr (.inr (.inr (.inr (fun j => (f j).map μ)))))
  | x => x
def sg_tc (tys : List (ClassId × FieldType)) (t : Nat) : ClassId := ((tys[t]?).map (fun q => q.1)).getD 0
def sg_c (tys : List (ClassId × FieldType)) (μ : Nat → Nat) (e : sg_E) : va_E := match e with
  | .inl (t, x) => .inl (sg_tc tys t, sg_a μ x)
  | .inr (ci, fs) => .inr (ci, fs.map (sg_v μ))
def sg_wV (n : Nat) (v : Value) : Prop := ∀ a, v = .ref a → a < n
def sg_wA (n : Nat) (x : vp_A) : Prop := ∀ k f, x = (k, .inr (.inr (.inr (.inr f)))) → ∀ j a, f j = some a → a < n
def sg_wE (n : Nat) (e : sg_E) : Prop := (∀ t x, e = .inl (t, x) → sg_wA n x) ∧ ∀ ci fs, e = .inr (ci, fs) → ∀ v ∈ fs, sg_wV n v
def sg_X (μ μ' : Nat → Nat) (n : Nat) : Prop := ∀ a, a < n → μ' a = μ a
theorem sg_X.rf {μ : Nat → Nat} {n : Nat} : sg_X μ μ n := fun _ _ => rfl
theorem sg_X.tr {μ μ1 μ2 : Nat → Nat} {n k : Nat} (h1 : sg_X μ μ1 n) (h2 : sg_X μ1 μ2 k) (h : n ≤ k) : sg_X μ μ2 n := fun a ha => (h2 a (Nat.lt_of_lt_of_le ha h)).trans (h1 a ha)
theorem sg_wV.mono {n k : Nat} {v : Value} (h : sg_wV n v) (hk : n ≤ k) : sg_wV k v := fun a e => Nat.lt_of_lt_of_le (h a e) hk
theorem sg_wA.mono {n k : Nat} {x : vp_A} (h : sg_wA n x) (hk : n ≤ k) : sg_wA k x := fun q f e j a ha => Nat.lt_of_lt_of_le (h q f e j a ha) hk
theorem sg_wE.mono {n k : Nat} {e : sg_E} (h : sg_wE n e) (hk : n ≤ k) : sg_wE k e := ⟨fun t x q => (h.1 t x q).mono hk, fun ci fs q v hv => (h.2 ci fs q v hv).mono hk⟩
theorem sg_wi {n : Nat} {x : Int32} : sg_wV n (.int x) := fun _ e => by cases e
theorem sg_wl {n : Nat} {x : Int64} : sg_wV n (.long x) := fun _ e => by cases e
theorem sg_wnull {n : Nat} : sg_wV n .null := fun _ e => by cases e
theorem sg_v_x {μ μ' : Nat → Nat} {n : Nat} {v : Value} (h : sg_wV n v) (hX : sg_X μ μ' n) : sg_v μ' v = sg_v μ v := by
  cases v <;> first | rfl | exact congrArg Value.ref (hX _ (h _ rfl))
theorem sg_vs_x {μ μ' : Nat → Nat} {n : Nat} {st : List Value} (h : ∀ v ∈ st, sg_wV n v) (hX : sg_X μ μ' n) : st.map (sg_v μ') = st.map (sg_v μ) := List.map_congr_left fun v hv => sg_v_x (h v hv) hX
theorem sg_ls_x {μ μ' : Nat → Nat} {n : Nat} {L : sg_L} (h : ∀ q ∈ L, sg_wV n q.2) (hX : sg_X μ μ' n) : L.map (fun q => (q.1, sg_v μ' q.2)) = L.map (fun q => (q.1, sg_v μ q.2)) := List.map_congr_left fun q hq => by rw [sg_v_x (h q hq) hX]
theorem sg_a_x {μ μ' : Nat → Nat} {n : Nat} {x : vp_A} (h : sg_wA n x) (hX : sg_X μ μ' n) : sg_a μ' x = sg_a μ x := by
  obtain ⟨k, f | f | f | f | f⟩ := x
  · rfl
  · rfl
  · rfl
  · rfl
  · show ((k, _) : vp_A) = (k, _)
    congr 5
    funext j
    cases hj : f j with
    | none => rfl
    | some a => exact congrArg some (hX a (h k f rfl j a hj))
theorem sg_c_x {tys : List (ClassId × FieldType)} {μ μ' : Nat → Nat} {n : Nat} {e : sg_E} (h : sg_wE n e) (hX : sg_X μ μ' n) : sg_c tys μ' e = sg_c tys μ e := by
  obtain ⟨t, x⟩ | ⟨ci, fs⟩ := e
  · exact congrArg (fun z => Sum.inl (sg_tc tys t, z)) (sg_a_x (h.1 t x rfl) hX)
  · exact congrArg (fun z => Sum.inr (ci, z)) (sg_vs_x (h.2 ci fs rfl) hX)
theorem sg_cat {μ : Nat → Nat} {v : Value} : (sg_v μ v).category = v.category := by cases v <;> rfl
theorem sg_cats {μ : Nat → Nat} {st : List Value} : ((st.map (sg_v μ)).map fun v => v.category) = st.map fun v => v.category := by
  rw [List.map_map]
  exact List.map_congr_left fun v _ => sg_cat
/-- the abstract memory is the heap's, by the addresses μ; number 0 is the script's -/
def sg_I (D : va_G) (cl : List vw_C) (tys : List (ClassId × FieldType)) (B b : Nat) (μ : Nat → Nat) (M : sg_M) (H : Heap) : Prop :=
  (∀ a e, M.1 a = some e → a < M.2 ∧ sg_wE M.2 e ∧ va_at D cl (μ a, sg_c tys μ e) H ∧ B ≤ μ a) ∧ (∀ a a' e e', M.1 a = some e → M.1 a' = some e' → μ a = μ a' → a = a') ∧ M.1 0 = none ∧ 0 < M.2 ∧ μ 0 = b
def sg_A (B : Nat) : Nat → Prop := fun q => B ≤ q
/-- one cell of it as a world of the kit -/
theorem sg_I.one {D : va_G} {cl : List vw_C} {tys : List (ClassId × FieldType)} {B b : Nat} {μ : Nat → Nat} {M : sg_M} {H : Heap} (h : sg_I D cl tys B b μ M H) {a : Nat} {e : sg_E} (he : M.1 a = some e) : va_P D cl [(μ a, sg_c tys μ e)] H ∧ va_D (sg_A B) [(μ a, sg_c tys μ e)] := by
  obtain ⟨h1, h2, h3, h4⟩ := h.1 a e he
  refine ⟨fun k q hk => ?_, fun i j p q hi hj _ => ?_, fun k q hk => ?_⟩
  · cases k with
    | zero => cases hk; exact h3
    | succ k => simp at hk
  · cases i with
    | zero => cases j with
      | zero => rfl
      | succ j => simp at hj
    | succ i => simp at hi
  · cases k with
    | zero => cases hk; exact h4
    | succ k => simp at hk
theorem sg_I.lt {D : va_G} {cl : List vw_C} {tys : List (ClassId × FieldType)} {B b : Nat} {μ : Nat → Nat} {M : sg_M} {H : Heap} (h : sg_I D cl tys B b μ M H) {a : Nat} {e : sg_E} (he : M.1 a = some e) : a < M.2 ∧ a ≠ 0 := by
  refine ⟨(h.1 a e he).1, fun z => ?_⟩
  subst z
  rw [h.2.2.1] at he
  cases he
/-- a cell changed, the others as they were -/
theorem sg_I.put {D : va_G} {cl : List vw_C} {tys : List (ClassId × FieldType)} {B b : Nat} {μ : Nat → Nat} {M : sg_M} {H H1 : Heap} (h : sg_I D cl tys B b μ M H) {a : Nat} {e0 e : sg_E} (he : M.1 a = some e0) (hw : sg_wE M.2 e) (hP : va_at D cl (μ a, sg_c tys μ e) H1) (hq : ∀ q : Nat, q ≠ μ a → q < H.size → H1[q]? = H[q]?) : sg_I D cl tys B b μ (sg_up M.1 a e, M.2) H1 := by
  have ha0 := (h.lt he).2
  refine ⟨fun a' e' he' => ?_, fun x y ex ey hx hy hxy => ?_, ?_, h.2.2.2.1, h.2.2.2.2⟩
  · have he' : (if a' = a then some e else M.1 a') = some e' := he'
    by_cases hz : a' = a
    · subst hz
      rw [if_pos rfl] at he'
      cases he'
      exact ⟨(h.1 a' e0 he).1, hw, hP, (h.1 a' e0 he).2.2.2⟩
    · rw [if_neg hz] at he'
      obtain ⟨k1, k2, k3, k4⟩ := h.1 a' e' he'
      exact ⟨k1, k2, k3.kept (hq _ (fun z => hz (h.2.1 _ _ _ _ he' he z)) k3.lt), k4⟩
  · have key : ∀ z ez, (if z = a then some e else M.1 z) = some ez → ∃ e9, M.1 z = some e9 := by
      intro z ez hz
      by_cases hza : z = a
      · exact ⟨e0, by rw [hza]; exact he⟩
      · rw [if_neg hza] at hz
        exact ⟨ez, hz⟩
    obtain ⟨e1, g1⟩ := key x ex hx
    obtain ⟨e2, g2⟩ := key y ey hy
    exact h.2.1 x y e1 e2 g1 g2 hxy
  · show (if 0 = a then some e else M.1 0) = none
    rw [if_neg (fun z => ha0 z.symm)]
    exact h.2.2.1
/-- a new cell, at the address q -/
theorem sg_I.new {D : va_G} {cl : List vw_C} {tys : List (ClassId × FieldType)} {B b : Nat} {μ : Nat → Nat} {M : sg_M} {H H1 : Heap} (h : sg_I D cl tys B b μ M H) {q : Nat} {e : sg_E} (hw : sg_wE M.2 e) (hP : va_at D cl (q, sg_c tys μ e) H1) (hq : ∀ x : Nat, x < H.size → H1[x]? = H[x]?) (hf : H.size ≤ q) (hB : B ≤ q) :
    sg_I D cl tys B b (fun x => if x = M.2 then q else μ x) (sg_up M.1 M.2 e, M.2 + 1) H1 ∧ sg_X μ (fun x => if x = M.2 then q else μ x) M.2 := by
  have hX : sg_X μ (fun x => if x = M.2 then q else μ x) M.2 := fun a ha => if_neg (Nat.ne_of_lt ha)
  refine ⟨⟨fun a' e' he' => ?_, fun x y ex ey hx hy hxy => ?_, ?_, Nat.succ_pos _, ?_⟩, hX⟩
  · have he' : (if a' = M.2 then some e else M.1 a') = some e' := he'
    show a' < M.2 + 1 ∧ _
    by_cases hz : a' = M.2
    · rw [if_pos hz] at he'
      cases he'
      subst hz
      refine ⟨Nat.lt_succ_self _, hw.mono (Nat.le_succ _), ?_, ?_⟩
      · show va_at D cl (if M.2 = M.2 then q else μ M.2, _) H1
        rw [if_pos rfl, sg_c_x hw hX]
        exact hP
      · show B ≤ (if M.2 = M.2 then q else μ M.2)
        rw [if_pos rfl]; exact hB
    · rw [if_neg hz] at he'
      obtain ⟨k1, k2, k3, k4⟩ := h.1 a' e' he'
      refine ⟨Nat.lt_succ_of_lt k1, k2.mono (Nat.le_succ _), ?_, ?_⟩
      · show va_at D cl (if a' = M.2 then q else μ a', _) H1
        rw [if_neg hz, sg_c_x k2 hX]
        exact k3.kept (hq _ k3.lt)
      · show B ≤ (if a' = M.2 then q else μ a')
        rw [if_neg hz]; exact k4
  · have key : ∀ z ez, (if z = M.2 then some e else M.1 z) = some ez → (z = M.2 ∨ ∃ e9, M.1 z = some e9 ∧ z ≠ M.2 ∧ μ z < H.size) := by
      intro z ez hz
      by_cases hza : z = M.2
      · exact Or.inl hza
      · rw [if_neg hza] at hz
        exact Or.inr ⟨ez, hz, hza, (h.1 z ez hz).2.2.1.lt⟩
    have hxy : (if x = M.2 then q else μ x) = (if y = M.2 then q else μ y) := hxy
    rcases key x ex hx with g1 | ⟨e1, g1, n1, l1⟩ <;> rcases key y ey hy with g2 | ⟨e2, g2, n2, l2⟩
    · exact g1.trans g2.symm
    · rw [if_pos g1, if_neg n2] at hxy; omega
    · rw [if_neg n1, if_pos g2] at hxy; omega
    · rw [if_neg n1, if_neg n2] at hxy; exact h.2.1 x y e1 e2 g1 g2 hxy
  · show (if 0 = M.2 then some e else M.1 0) = none
    rw [if_neg (Nat.ne_of_lt h.2.2.2.1)]
    exact h.2.2.1
  · show (if 0 = M.2 then q else μ 0) = b
    rw [if_neg (Nat.ne_of_lt h.2.2.2.1)]
    exact h.2.2.2.2
/-- a number for a thing that the memory doesn't hold -/
theorem sg_I.skip {D : va_G} {cl : List vw_C} {tys : List (ClassId × FieldType)} {B b : Nat} {μ : Nat → Nat} {M : sg_M} {H : Heap} (h : sg_I D cl tys B b μ M H) (q : Nat) :
    sg_I D cl tys B b (fun x => if x = M.2 then q else μ x) (M.1, M.2 + 1) H ∧ sg_X μ (fun x => if x = M.2 then q else μ x) M.2 := by
  have hX : sg_X μ (fun x => if x = M.2 then q else μ x) M.2 := fun a ha => if_neg (Nat.ne_of_lt ha)
  refine ⟨⟨fun a' e' he' => ?_, fun x y ex ey hx hy hxy => ?_, h.2.2.1, Nat.succ_pos _, ?_⟩, hX⟩
  · obtain ⟨k1, k2, k3, k4⟩ := h.1 a' e' he'
    show a' < M.2 + 1 ∧ sg_wE (M.2 + 1) e' ∧ va_at D cl (if a' = M.2 then q else μ a', _) H ∧ B ≤ (if a' = M.2 then q else μ a')
    rw [if_neg (Nat.ne_of_lt k1), sg_c_x k2 hX]
    exact ⟨Nat.lt_succ_of_lt k1, k2.mono (Nat.le_succ _), k3, k4⟩
  · have hxy : (if x = M.2 then q else μ x) = (if y = M.2 then q else μ y) := hxy
    rw [if_neg (Nat.ne_of_lt (h.1 x ex hx).1), if_neg (Nat.ne_of_lt (h.1 y ey hy).1)] at hxy
    exact h.2.1 x y ex ey hx hy hxy
  · show (if 0 = M.2 then q else μ 0) = b
    rw [if_neg (Nat.ne_of_lt h.2.2.2.1)]
    exact h.2.2.2.2
theorem sg_at_mem {L : sg_L} {i : Nat} {v : Value} (h : sg_at L i = some v) : (i, v) ∈ L := by
  induction L with
  | nil => cases h
  | cons q L ih =>
    unfold sg_at at h
    by_cases hq : q.1 = i
    · rw [if_pos hq] at h
      obtain ⟨a, b⟩ := q
      cases h
      cases hq
      exact List.mem_cons_self
    · rw [if_neg hq] at h
      exact List.mem_cons_of_mem _ (ih h)
theorem sg_at_ls {ls : Array Slot} {nL : Nat} {μ : Nat → Nat} {L : sg_L} (hl : lv_has ls nL (L.map (fun q => (q.1, sg_v μ q.2)))) {i : Nat} {v : Value} (h : sg_at L i = some v) : ls[i]? = some (.val (sg_v μ v)) :=
  hl.2.2 (i, sg_v μ v) (List.mem_map.mpr ⟨(i, v), sg_at_mem h, rfl⟩)
theorem sg_ins_mem {L : sg_L} {i : Nat} {v : Value} : ∀ q ∈ sg_ins L i v, q = (i, v) ∨ (q ∈ L ∧ (q.1 == i) = false) := by
  induction L with
  | nil => intro q hq; exact Or.inl (List.mem_singleton.mp hq)
  | cons x L ih =>
    intro q hq
    unfold sg_ins at hq
    cases hx : x.1 == i with
    | true =>
      rw [hx] at hq
      rcases List.mem_cons.mp hq with h | h
      · exact Or.inl h
      · obtain ⟨h1, h2⟩ := List.mem_filter.mp h
        exact Or.inr ⟨List.mem_cons_of_mem _ h1, by simpa using h2⟩
    | false =>
      rw [hx] at hq
      rcases List.mem_cons.mp hq with h | h
      · exact Or.inr ⟨by rw [h]; exact List.mem_cons_self, by rw [h]; exact hx⟩
      · rcases ih q h with h1 | ⟨h1, h2⟩
        · exact Or.inl h1
        · exact Or.inr ⟨List.mem_cons_of_mem _ h1, h2⟩
theorem sg_st1_map {μ : Nat → Nat} {L : sg_L} {i : Nat} {v : Value} : ∀ q ∈ (sg_st1 L i v).map (fun q => (q.1, sg_v μ q.2)), q ∈ (i, sg_v μ v) :: (L.map (fun q => (q.1, sg_v μ q.2))).filter (fun q => !(q.1 == i) && !(q.1 + 1 == i && q.2.category == 2)) := by
  intro q hq
  obtain ⟨z, hz, rfl⟩ := List.mem_map.mp hq
  rcases sg_ins_mem z hz with h | ⟨h, h2⟩
  · rw [h]; exact List.mem_cons_self
  · obtain ⟨h3, h4⟩ := List.mem_filter.mp h
    refine List.mem_cons_of_mem _ (List.mem_filter.mpr ⟨List.mem_map.mpr ⟨z, h3, rfl⟩, ?_⟩)
    show (!(z.1 == i) && !(z.1 + 1 == i && (sg_v μ z.2).category == 2)) = true
    rw [sg_cat, h2, h4]; rfl
theorem sg_st2_map {μ : Nat → Nat} {L : sg_L} {i : Nat} {v : Value} : ∀ q ∈ (sg_st2 L i v).map (fun q => (q.1, sg_v μ q.2)), q ∈ (i, sg_v μ v) :: (L.map (fun q => (q.1, sg_v μ q.2))).filter (fun q => !(q.1 == i) && (!(q.1 == i + 1) && !(q.1 + 1 == i && q.2.category == 2))) := by
  intro q hq
  obtain ⟨z, hz, rfl⟩ := List.mem_map.mp hq
  rcases sg_ins_mem z hz with h | ⟨h, h2⟩
  · rw [h]; exact List.mem_cons_self
  · obtain ⟨h3, h4⟩ := List.mem_filter.mp h
    refine List.mem_cons_of_mem _ (List.mem_filter.mpr ⟨List.mem_map.mpr ⟨z, h3, rfl⟩, ?_⟩)
    show (!(z.1 == i) && (!(z.1 == i + 1) && !(z.1 + 1 == i && (sg_v μ z.2).category == 2))) = true
    rw [sg_cat, h2, h4]; rfl
theorem sg_st1_w {n : Nat} {L : sg_L} {i : Nat} {v : Value} (hL : ∀ q ∈ L, sg_wV n q.2) (hv : sg_wV n v) : ∀ q ∈ sg_st1 L i v, sg_wV n q.2 := by
  intro q hq
  rcases sg_ins_mem q hq with rfl | ⟨h, -⟩
  · exact hv
  · exact hL q (List.mem_filter.mp h).1
theorem sg_st2_w {n : Nat} {L : sg_L} {i : Nat} {v : Value} (hL : ∀ q ∈ L, sg_wV n q.2) (hv : sg_wV n v) : ∀ q ∈ sg_st2 L i v, sg_wV n q.2 := by
  intro q hq
  rcases sg_ins_mem q hq with rfl | ⟨h, -⟩
  · exact hv
  · exact hL q (List.mem_filter.mp h).1
theorem sg_sub {ls : Array Slot} {nL : Nat} {l l' : List (Nat × Value)} (h : lv_has ls nL l) (hs : ∀ q ∈ l', q ∈ l) : lv_has ls nL l' := ⟨h.1, h.2.1, fun q hq => h.2.2 q (hs q hq)⟩
theorem sg_c1 {n : Nat} {v : Value} {st : List Value} (h : ∀ x ∈ v :: st, sg_wV n x) : sg_wV n v ∧ ∀ x ∈ st, sg_wV n x := List.forall_mem_cons.mp h
theorem sg_cc {n : Nat} {v : Value} {st : List Value} (h1 : sg_wV n v) (h2 : ∀ x ∈ st, sg_wV n x) : ∀ x ∈ v :: st, sg_wV n x := List.forall_mem_cons.mpr ⟨h1, h2⟩
/-- a word that stays as links are resolved -/
def sg_okw (w : Cond) : Bool := goodWord w || (match w with | .castable _ _ => true | .declares _ => true | .fieldLinkNest _ _ _ _ _ _ => true | .methodLinkNest _ _ _ _ => true | _ => false)
theorem sg_okw_at {w : Cond} (hw : sg_okw w = true) {s U : State} {a a' : Array Value} (hW : s.WarmedH U.vm) (h : w.before a s = true) : w.before a' U = true := by
  unfold sg_okw at hw
  rcases Bool.or_eq_true _ _ ▸ hw with h1 | h1
  · exact word_at hW (good_of_word h1) h
  · cases w <;> first | exact va_Nw.use rfl (va_Nw.warmF hW (va_Nw.of rfl h)) | exact va_Nw.use rfl (va_Nw.warmM hW (va_Nw.of rfl h)) | exact va_Nw.use rfl (va_Nw.warmC hW (va_Nw.of rfl h)) | exact va_Nw.use rfl (va_Nw.warmD hW (va_Nw.of rfl h)) | cases h1
end SGA
