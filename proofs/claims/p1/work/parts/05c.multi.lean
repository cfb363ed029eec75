section SGN
/-! rows of rows made at once: the state behind i of the inner rows -/
def sg_mo (c : ClassId) (N h i : Nat) : Cell := arrV c N (fun j => if j < i then .ref (h + 1 + j) else .null)
def sg_mi (c : ClassId) (K : Nat) (dv : Value) : Cell := arrV c K (fun _ => dv)
def sg_ml (s : State) (c comp : ClassId) (N K : Nat) (dv : Value) : Nat → State
  | 0 => s.pushCell (sg_mo c N s.heap.size 0)
  | i + 1 => ((sg_ml s c comp N K dv i).pushCell (sg_mi comp K dv)).setCell s.heap.size ((sg_mo c N s.heap.size i).setSlot i (.ref (s.heap.size + 1 + i)))
theorem sg_mo_succ (c : ClassId) (N h i : Nat) : (sg_mo c N h i).setSlot i (.ref (h + 1 + i)) = sg_mo c N h (i + 1) := by
  unfold sg_mo
  rw [arrV_store]
  congr 1
  funext j
  show (if j = i then Value.ref (h + 1 + i) else (if j < i then Value.ref (h + 1 + j) else Value.null)) = if j < i + 1 then Value.ref (h + 1 + j) else Value.null
  by_cases h1 : j = i
  · subst h1
    rw [if_pos rfl, if_pos (Nat.lt_succ_self _)]
  · rw [if_neg h1]
    by_cases h2 : j < i
    · rw [if_pos h2, if_pos (Nat.lt_succ_of_lt h2)]
    · rw [if_neg h2, if_neg (by omega)]
theorem sg_ml_f (s : State) (c comp : ClassId) (N K : Nat) (dv : Value) : ∀ i, (sg_ml s c comp N K dv i).heap.size = s.heap.size + 1 + i ∧ (sg_ml s c comp N K dv i).heap[s.heap.size]? = some (sg_mo c N s.heap.size i) ∧ (sg_ml s c comp N K dv i).vm = s.vm ∧ (sg_ml s c comp N K dv i).slotsUsed = s.slotsUsed + N + i * K := by
  intro i
  induction i with
  | zero => exact ⟨by simp [sg_ml], by simp [sg_ml], rfl, by simp [sg_ml, sg_mo, arrV_size]⟩
  | succ i ih =>
    obtain ⟨h1, h2, h3, h4⟩ := ih
    have hl : s.heap.size < (sg_ml s c comp N K dv i).heap.size := by rw [h1]; omega
    have h2' : ((sg_ml s c comp N K dv i).pushCell (sg_mi comp K dv)).heap[s.heap.size]? = some (sg_mo c N s.heap.size i) := by rw [State.heap_pushCell_of_lt (h := hl)]; exact h2
    refine ⟨?_, ?_, by simp [sg_ml, h3], ?_⟩
    · simp [sg_ml, State.setCell, h1]; omega
    · rw [← sg_mo_succ]
      exact State.heap_setCell_self h2'
    · have : (sg_mi comp K dv).slots.size = K := arrV_size _ _ _
      simp [sg_ml, h4, this, Nat.succ_mul]; omega
theorem sg_ml_old (s : State) (c comp : ClassId) (N K : Nat) (dv : Value) {a : Addr} (ha : a < s.heap.size) : ∀ i, (sg_ml s c comp N K dv i).heap[a]? = s.heap[a]? := by
  intro i
  induction i with
  | zero => exact State.heap_pushCell_of_lt _ _ ha
  | succ i ih =>
    have h1 := (sg_ml_f s c comp N K dv i).1
    have hl : a < (sg_ml s c comp N K dv i).heap.size := Nat.lt_of_lt_of_le ha (by rw [h1]; omega)
    show (((sg_ml s c comp N K dv i).pushCell (sg_mi comp K dv)).setCell s.heap.size _).heap[a]? = _
    rw [State.heap_setCell_other (Nat.ne_of_gt ha), State.heap_pushCell_of_lt (h := hl)]
    exact ih
theorem sg_ml_in (s : State) (c comp : ClassId) (N K : Nat) (dv : Value) : ∀ i j, j < i → (sg_ml s c comp N K dv i).heap[s.heap.size + 1 + j]? = some (sg_mi comp K dv) := by
  intro i
  induction i with
  | zero => intro j h; exact absurd h (Nat.not_lt_zero _)
  | succ i ih =>
    intro j h
    have h1 := (sg_ml_f s c comp N K dv i).1
    show (((sg_ml s c comp N K dv i).pushCell (sg_mi comp K dv)).setCell s.heap.size _).heap[s.heap.size + 1 + j]? = _
    rw [State.heap_setCell_other (show s.heap.size ≠ s.heap.size + 1 + j by omega)]
    rcases Nat.lt_succ_iff_lt_or_eq.mp h with hj | hj
    · have hl : s.heap.size + 1 + j < (sg_ml s c comp N K dv i).heap.size := by omega
      rw [State.heap_pushCell_of_lt (h := hl)]
      exact ih j hj
    · subst hj
      rw [← h1]
      exact State.heap_pushCell_size _ _
theorem sg_ml_top (s : State) (f : JFrame) (c comp : ClassId) (N K : Nat) (dv : Value) : ∀ i, sg_ml (s.setTop f) c comp N K dv i = (sg_ml s c comp N K dv i).setTop f := by
  intro i
  induction i with
  | zero => rfl
  | succ i ih => simp only [sg_ml, ih, State.heap_setTop, State.pushCell_setTop, State.setCell_setTop]
section
variable {E : CtlPost} {e : Env} {d : Bool} {acts : List Action} {s : State}
theorem sg_wpnew {c comp : ClassId} {k : Class} {type : FieldType} {len : Nat} {init : Value} (hk : s.vm.classes[c]? = some k) (hkind : k.kind = .array comp type) (hl : ¬ len > e.platform.arrayLengthLimit) (hh : ¬ len * componentBytes type > e.platform.maxHeapBytes) (hfit : fits type init = true) (hdef : init.isDefault = true) {Q : Addr → Pre} (h1 : s.heap.size < e.platform.maxCells) (h2 : s.slotsUsed + len ≤ e.platform.maxSlots) (hq : Q s.heap.size d acts (s.pushCell (arrV c len (fun _ => init)))) : wp (Jvm.newArray c len init) Q E e d acts s := by
  rw [← arrV_new] at hq
  have hf : ∀ i v, (Array.replicate len init)[i]? = some v → s.fitsSlot c .none i v = true := by
    intro i v hv
    simp only [Array.getElem?_replicate] at hv
    split at hv
    · cases hv
      simp [State.fitsSlot, State.slotType?, hk, hkind, hfit]
    · cases hv
  have ha : allocActs (Array.replicate len init) s.heap.size acts = acts := by
    unfold allocActs
    rw [if_pos (by rw [Array.all_replicate]; split <;> simp [hdef])]
  simp only [Jvm.newArray, Jvm.arrayFits, wp_bind', W.ask, W.ite, hl, if_false, wp_pure', W.theClass, hk, hkind, hh, W.alloc, W.stop, Option.some.injEq, exists_eq_left', Array.size_replicate, ha]
  rw [if_neg (by omega)]
  exact ⟨h1, h2, hf, hq⟩
theorem sg_wpmake {c comp cc : ClassId} {k kc : Class} {type : FieldType} {n m : Int32} (hk : s.vm.classes[c]? = some k) (hkind : k.kind = .array comp (.array type)) (hkc : s.vm.classes[comp]? = some kc) (hkindc : kc.kind = .array cc type) (hn : ¬ n < 0) (hm : ¬ m < 0)
    (hl1 : ¬ n.toNatClampNeg > e.platform.arrayLengthLimit) (hh1 : ¬ n.toNatClampNeg * componentBytes (.array type) > e.platform.maxHeapBytes) (hl2 : ¬ m.toNatClampNeg > e.platform.arrayLengthLimit) (hh2 : ¬ m.toNatClampNeg * componentBytes type > e.platform.maxHeapBytes) (hdf : fits type (defaultValue type) = true) (hdd : (defaultValue type).isDefault = true)
    (hc : s.heap.size + 1 + n.toNatClampNeg ≤ e.platform.maxCells) (hs : s.slotsUsed + n.toNatClampNeg + n.toNatClampNeg * m.toNatClampNeg ≤ e.platform.maxSlots) {Q : Addr → Pre} (hq : ∀ d' acts', Q s.heap.size d' acts' (sg_ml s c comp n.toNatClampNeg m.toNatClampNeg (defaultValue type) n.toNatClampNeg)) : wp (multianewarray.make c [n, m]) Q E e d acts s := by
  generalize hN : n.toNatClampNeg = N at *
  generalize hK : m.toNatClampNeg = K at *
  have hfind : ([m].find? (· < 0)) = none := by simp [hm]
  rw [multianewarray.make]
  simp only [wp_bind', W.ite, hn, if_false, wp_pure', W.theClass, hk, hkind, Option.some.injEq, exists_eq_left', hN]
  refine sg_wpnew hk hkind hl1 hh1 rfl rfl (by omega) (by have := Nat.zero_le (N * K); omega) ?_
  have e0 : s.pushCell (arrV c N (fun _ => .null)) = sg_ml s c comp N K (defaultValue type) 0 := by
    show _ = s.pushCell (arrV c N (fun j => if j < 0 then _ else _))
    congr 2
  rw [e0]
  simp only [hfind]
  rw [ite_self, wp_bind', Std.Legacy.Range.forIn_eq_forIn_range']
  have hsz : ([:N] : Std.Legacy.Range).size = N := by simp [Std.Legacy.Range.size]
  rw [hsz]
  show wp (forIn (List.range' 0 N 1) PUnit.unit _) _ E e d acts _
  refine wp_forIn_inv (fun rest s' => ∃ i, i ≤ N ∧ rest = List.range' i (N - i) ∧ s' = sg_ml s c comp N K (defaultValue type) i) _ _ ⟨0, Nat.zero_le _, rfl, rfl⟩ ?_ ?_
  · rintro x rest s' d' acts' Q' ⟨i, hi, hl, rfl⟩ hnext
    have hlt : i < N := by
      rcases Nat.lt_or_ge i N with h | h
      · exact h
      · rw [show N - i = 0 from by omega] at hl; simp at hl
    obtain ⟨rfl, hrest⟩ : x = i ∧ rest = List.range' (i + 1) (N - (i + 1)) := by
      rw [show N - i = (N - (i + 1)) + 1 from by omega, List.range'_succ] at hl
      exact ⟨(List.cons.inj hl).1, (List.cons.inj hl).2⟩
    obtain ⟨f1, f2, f3, f4⟩ := sg_ml_f s c comp N K (defaultValue type) x
    have hmul : x * K + K ≤ N * K := by
      have := Nat.mul_le_mul_right K (show x + 1 ≤ N from hlt)
      rw [Nat.succ_mul] at this
      exact this
    have hkc' : (sg_ml s c comp N K (defaultValue type) x).vm.classes[comp]? = some kc := by rw [f3]; exact hkc
    simp only [wp_bind']
    rw [multianewarray.make]
    simp only [wp_bind', W.ite, hm, if_false, wp_pure', W.theClass, hkc', hkindc, Option.some.injEq, exists_eq_left', hK]
    refine sg_wpnew hkc' hkindc hl2 hh2 hdf hdd (by rw [f1]; omega) (by rw [f4]; omega) ?_
    have hl0 : s.heap.size < (sg_ml s c comp N K (defaultValue type) x).heap.size := by rw [f1]; omega
    simp only [wp_bind', W.writeLoc, wp_pure']
    refine ⟨sg_mo c N s.heap.size x, (by rw [State.heap_pushCell_of_lt (h := hl0)]; exact f2), (by intro h; cases h), (by rw [show (sg_mo c N s.heap.size x).slots.size = N from arrV_size _ _ _]; exact hlt), ?_, hnext _ _ _ ⟨x + 1, hlt, hrest, ?_⟩⟩
    · simp [sg_mo, arrV, State.fitsSlot, State.slotType?, f3, hk, hkind, fits]
    · rw [f1]; rfl
  · rintro s' d' acts' ⟨i, hi, hl, rfl⟩
    have hiN : i = N := by
      rcases Nat.lt_or_ge i N with h | h
      · rw [show N - i = (N - (i + 1)) + 1 from by omega, List.range'_succ] at hl; cases hl
      · omega
    subst hiN
    simp only [wp_pure']
    exact hq _ _
end
section
variable {p : Program} {l : Launch} {e : Env} {R : Room} {s : State} {m : MethodId} {args : Array Value} {below : List Frame} {meth : Method} {c : Code} {H : Heap} {locs : List Loc} {cells slots : Nat} {Q : State → Prop} {T : State}
theorem sg_mlX (X : Stand p l e R s m args below meth c T locs cells slots) (cA comp : ClassId) (N K : Nat) (dv : Value) : ∀ i, Stand p l e R s m args below meth c (sg_ml T cA comp N K dv i) (locs ++ (List.range i).map fun j => ⟨T.heap.size, j⟩) (cells + 1 + i) (slots + N + i * K) := by
  intro i
  induction i with
  | zero =>
    have h := X.pushed (sg_mo cA N T.heap.size 0)
    rw [show (sg_mo cA N T.heap.size 0).slots.size = N from arrV_size _ _ _] at h
    simpa [sg_ml] using h
  | succ i ih =>
    obtain ⟨f1, f2, f3, f4⟩ := sg_ml_f T cA comp N K dv i
    have hl0 : T.heap.size < (sg_ml T cA comp N K dv i).heap.size := by rw [f1]; omega
    have hcell : ((sg_ml T cA comp N K dv i).pushCell (sg_mi comp K dv)).heap[T.heap.size]? = some (sg_mo cA N T.heap.size i) := by rw [State.heap_pushCell_of_lt (h := hl0)]; exact f2
    have h := (ih.pushed (sg_mi comp K dv)).stored hcell i (.ref (T.heap.size + 1 + i))
    rw [show (sg_mi comp K dv).slots.size = K from arrV_size _ _ _] at h
    have e2 : (locs ++ (List.range (i + 1)).map fun j => (⟨T.heap.size, j⟩ : Loc)) = (locs ++ (List.range i).map fun j => (⟨T.heap.size, j⟩ : Loc)) ++ [⟨T.heap.size, i⟩] := by simp [List.range_succ, List.append_assoc]
    have e3 : slots + N + (i + 1) * K = slots + N + i * K + K := by rw [Nat.succ_mul]; omega
    rw [e2, e3]
    exact h
theorem sg_Wmulti {cc : ByteArray} (hexec : p.tables.exec = Jvm.exec) (hb : c.code = cc) {own : String} {index pc : Nat} {ls : Array Slot} {ty : FieldType} (hown : s.vm.findClass own = some m.cls) (hclink : (Cond.classLink own index ("[" ++ (FieldType.array ty).toString)).before args s = true) (hover : (Cond.arrayOver (.array ty)).before args s = true) (harr : (Cond.arrayClass ty).before args s = true)
    {n k : Int32} {rest : List Value} (hdg : decode cc pc = .ok (.multianewarray index 2, 4)) (hn : ¬ n < 0) (hk : ¬ k < 0) (hb1 : n.toNatClampNeg * 4 ≤ 536870912) (hb2 : k.toNatClampNeg * componentBytes ty ≤ 536870912) (hb3 : k.toNatClampNeg ≤ 536870912) (hdf : fits ty (defaultValue ty) = true) (hdd : (defaultValue ty).isDefault = true)
    (hcells : cells + (1 + n.toNatClampNeg) ≤ R.cells) (hslots : slots + (n.toNatClampNeg + n.toNatClampNeg * k.toNatClampNeg) ≤ R.slots)
    (kk : ∀ (cA comp : ClassId) (H1 : Heap), s.vm.findClass ("[" ++ (FieldType.array ty).toString) = some cA → s.vm.findClass (FieldType.array ty).toString = some comp → H1.size = H.size + 1 + n.toNatClampNeg → H1[H.size]? = some (sg_mo cA n.toNatClampNeg H.size n.toNatClampNeg) → (∀ j, j < n.toNatClampNeg → H1[H.size + 1 + j]? = some (sg_mi comp k.toNatClampNeg (defaultValue ty))) → (∀ q : Nat, q < H.size → H1[q]? = H[q]?) →
      W p l e R s m args below meth c H1 (locs ++ (List.range n.toNatClampNeg).map fun j => ⟨H.size, j⟩) (cells + (1 + n.toNatClampNeg)) (slots + (n.toNatClampNeg + n.toNatClampNeg * k.toNatClampNeg)) Q (F0 m (pc + 4) ls (.ref H.size :: rest))) :
    W p l e R s m args below meth c H locs cells slots Q (F0 m pc ls (.int k :: .int n :: rest)) := by
  intro T hT X
  subst hT
  have hpl : e.platform.magicAccessors = ({} : Platform).magicAccessors := by rw [X.admits.platform]
  obtain ⟨comp, cA, kA, hcomp, -, hkA, hkindA, hnameA⟩ := arrayOverA_spec hover
  obtain ⟨comp', kC, cc', hcomp', hkC, hkindC⟩ := Cond.arrayClass_spec harr
  have ecomp : comp' = comp := Option.some.inj (hcomp'.symm.trans hcomp)
  subst ecomp
  obtain ⟨c0, hfc0, hcl⟩ := Cond.classLink_spec hown hclink e.platform hpl
  cases hnameA.symm.trans hfc0
  obtain ⟨hg₁, hwarm₁, hready₁⟩ := State.classEntry (e := e) X.warmed hcl
  generalize T.vm.noted m.cls index (.cls cA) = vm₁ at hg₁ hwarm₁ hready₁
  have hal : s.vm.Alike vm₁ := hwarm₁.alike
  obtain ⟨kA₁, hkA₁, heA⟩ := hal.2.2 _ _ hkA
  obtain ⟨kC₁, hkC₁, heC⟩ := hal.2.2 _ _ hkC
  have hkindA₁ : kA₁.kind = .array comp' (.array ty) := by rw [heA]; exact hkindA
  have hkindC₁ : kC₁.kind = .array cc' ty := by rw [heC]; exact hkindC
  have X₁ := X.noted hwarm₁
  obtain ⟨hr1, hr2⟩ := X.roomAbove hcells hslots
  obtain ⟨f1, f2, f3, f4⟩ := sg_ml_f (T.setVm vm₁) cA comp' n.toNatClampNeg k.toNatClampNeg (defaultValue ty) n.toNatClampNeg
  have XF := sg_mlX X₁ cA comp' n.toNatClampNeg k.toNatClampNeg (defaultValue ty) n.toNatClampNeg
  have ec : cells + 1 + n.toNatClampNeg = cells + (1 + n.toNatClampNeg) := by omega
  have es : slots + n.toNatClampNeg + n.toNatClampNeg * k.toNatClampNeg = slots + (n.toNatClampNeg + n.toNatClampNeg * k.toNatClampNeg) := by omega
  rw [ec, es] at XF
  obtain ⟨t', a1, b1⟩ := kk cA comp' _ hnameA hcomp f1 f2 (fun j hj => sg_ml_in (T.setVm vm₁) cA comp' _ _ _ _ j hj) (fun q hq => sg_ml_old (T.setVm vm₁) cA comp' _ _ _ hq _) _ rfl XF
  refine ⟨t', ?_, b1⟩
  have hl1 : ¬ n.toNatClampNeg > e.platform.arrayLengthLimit := by rw [Launch.admits_arrayLengthLimit X.admits]; omega
  have hh1 : ¬ n.toNatClampNeg * componentBytes (.array ty) > e.platform.maxHeapBytes := by
    rw [Launch.admits_maxHeapBytes X.admits]; show ¬ n.toNatClampNeg * 4 > 536870912; omega
  have hl2 : ¬ k.toNatClampNeg > e.platform.arrayLengthLimit := by rw [Launch.admits_arrayLengthLimit X.admits]; omega
  have hh2 : ¬ k.toNatClampNeg * componentBytes ty > e.platform.maxHeapBytes := by rw [Launch.admits_maxHeapBytes X.admits]; omega
  jvm_step X.here [hexec, hb, hdg]
  simp only [multianewarray.sem, wp_bind', W.resolveClassAt_links (State.method?_setTop (F0 m pc ls (.int k :: .int n :: rest)) X.here.top) hg₁]
  rw [W.popN, if_neg (by decide)]
  refine ⟨F0 m pc ls (.int k :: .int n :: rest), State.topJava?_setTop' (s := T.setVm vm₁) _ X.here.top, [.int n, .int k], rest, rfl, rfl, ?_⟩
  simp only [List.mapM_cons, List.mapM_nil, wp_bind', wp_pure']
  refine sg_wpmake (k := kA₁) (kc := kC₁) (comp := comp') (cc := cc') (type := ty) hkA₁ hkindA₁ hkC₁ hkindC₁ hn hk hl1 hh1 hl2 hh2 hdf hdd (by show T.heap.size + 1 + _ ≤ _; omega) (by show T.slotsUsed + _ + _ ≤ _; omega) (fun d' acts' => ?_)
  have eS : ((T.setTop (F0 m pc ls (.int k :: .int n :: rest))).setVm vm₁).setTop { F0 m pc ls (.int k :: .int n :: rest) with stack := rest } = (T.setVm vm₁).setTop { F0 m pc ls (.int k :: .int n :: rest) with stack := rest } := by
    show ((T.setVm vm₁).setTop _).setTop _ = _
    rw [State.setTop_setTop]
  rw [eS, sg_ml_top]
  simp only [wp_bind', W.mark, W.pushRef, State.topJava?_setTop' _ XF.here.top, Option.some.injEq, exists_eq_left', State.setTop_setTop, State.heap_setTop]
  intro acts
  simp [jvm, XF.here.top]
  exact a1
end
section
variable {D : va_G} {cl : List vw_C} {tys : List (ClassId × FieldType)} {B : Nat} {b : Nat → Nat} {Ls : Nat} {xs : Nat → Int32} {Sx : List (String × Nat × String)} {Ax : List String} {P : sg_P} {Tw : List Cond} {k pc : Nat}
def sg_mN (f : Nat → Option sg_E) (x n : Nat) (eo ei : sg_E) : Nat → Option sg_E := fun q => if q < x then f q else if q = x then some eo else if q ≤ x + n then some ei else f q
/-- rows of n rows of k ints each -/
def sg_mult (pc t ti : Nat) : sg_F := fun L st M => match st with
  | .int k :: .int n :: r => if n < 0 ∨ k < 0 ∨ 65536 < n.toNatClampNeg ∨ 65536 < k.toNatClampNeg then none else some (.inl (pc + 4, L, .ref M.2 :: r, (sg_mN M.1 M.2 n.toNatClampNeg (.inl (t, n.toNatClampNeg, .inr (.inr (.inr (.inr (fun j => if j < n.toNatClampNeg then some (M.2 + 1 + j) else none)))))) (.inl (ti, k.toNatClampNeg, .inl (fun _ => 0))), M.2 + (1 + n.toNatClampNeg)), 1 + n.toNatClampNeg, n.toNatClampNeg + n.toNatClampNeg * k.toNatClampNeg))
  | _ => none
set_option maxHeartbeats 1000000 in
theorem sg_ok_mult {t ti index : Nat} {C : String} (hC0 : C = "[" ++ (FieldType.array .int).toString) (ht : tys[t]? = some (sg_tc tys t, .array .int)) (hti : tys[ti]? = some (sg_tc tys ti, .int)) (hw : Cond.classLink (sg_Y P k).cls index C ∈ Tw) (hw2 : Cond.arrayClass .int ∈ Tw) (hd : decode (sg_C P k) pc = .ok (.multianewarray index 2, 4)) : sg_Ok D cl tys B b Ls xs Sx Ax P Tw k pc (sg_mult pc t ti) := by
  intro p l e R s m args below meth c hF hC L st M μ H locs cells slots ls hJ
  obtain ⟨hx, hb, hml, hown, hts, hret, hlk, hfr, hlo, hnm, htr, htb⟩ := hF
  subst hC0
  unfold sg_mult
  split
  · rename_i kx n r
    split
    · trivial
    · rename_i hn
      simp only [not_or] at hn
      obtain ⟨n0, k0, n1, k1⟩ := hn
      have hst := (sg_c1 (sg_c1 hJ.2.2.1).2).2
      have hI := hJ.1
      have hB : B ≤ H.size := Nat.le_trans hC.2.2.2.1 hJ.2.2.2.2.1
      generalize hN : n.toNatClampNeg = N at *
      generalize hK : kx.toNatClampNeg = K at *
      refine ⟨by show M.2 ≤ M.2 + (1 + N); omega, fun Q hc1 hc2 kk => sg_Wmulti (ty := .int) hx hb hown (hts _ hw) hC.2.2.2.2.2.2.2.2.2.1 (hts _ hw2) hd n0 k0 (by rw [hN]; omega) (by rw [hK]; show K * 4 ≤ 536870912; omega) (by rw [hK]; omega) rfl rfl (by rw [hN]; exact hc1) (by rw [hN, hK]; exact hc2) (fun cA comp H1 f1 f2 f3 f4 f5 f6 => ?_)⟩
      rw [hN, hK] at *
      have hcA : cA = sg_tc tys t := Option.some.inj (f1.symm.trans (hC.1.2 t _ ht).2)
      subst hcA
      have hco : comp = sg_tc tys ti := Option.some.inj (f2.symm.trans (hC.1.2 ti _ hti).2)
      subst hco
      generalize hμ : (fun x => if M.2 ≤ x ∧ x ≤ M.2 + N then H.size + (x - M.2) else μ x) = μ1
      have m0 : ∀ x, x < M.2 → μ1 x = μ x := fun x hx9 => by rw [← hμ]; exact if_neg (fun z => by omega)
      have m1 : ∀ x, M.2 ≤ x → x ≤ M.2 + N → μ1 x = H.size + (x - M.2) := fun x z1 z2 => by rw [← hμ]; exact if_pos ⟨z1, z2⟩
      have hX : sg_X μ μ1 M.2 := m0
      have key : ∀ q e9, sg_mN M.1 M.2 N (.inl (t, N, .inr (.inr (.inr (.inr (fun j => if j < N then some (M.2 + 1 + j) else none)))))) (.inl (ti, K, .inl (fun _ => 0))) q = some e9 → (q < M.2 ∧ M.1 q = some e9) ∨ (q = M.2 ∧ e9 = .inl (t, N, .inr (.inr (.inr (.inr (fun j => if j < N then some (M.2 + 1 + j) else none)))))) ∨ (M.2 < q ∧ q ≤ M.2 + N ∧ e9 = .inl (ti, K, .inl (fun _ => 0))) := by
        intro q e9 h9
        unfold sg_mN at h9
        split at h9
        · rename_i z
          exact Or.inl ⟨z, h9⟩
        · split at h9
          · rename_i z
            cases h9
            exact Or.inr (Or.inl ⟨z, rfl⟩)
          · split at h9
            · rename_i z1 z2 z3
              cases h9
              exact Or.inr (Or.inr ⟨by omega, z3, rfl⟩)
            · rename_i z1 z2 z3
              exact absurd (hI.1 q e9 h9).1 z1
      have i1 : sg_I D cl tys B b μ1 (sg_mN M.1 M.2 N (.inl (t, N, .inr (.inr (.inr (.inr (fun j => if j < N then some (M.2 + 1 + j) else none)))))) (.inl (ti, K, .inl (fun _ => 0))), M.2 + (1 + N)) H1 := by
        refine ⟨fun q e9 h9 => ?_, fun x y ex ey hx9 hy9 hxy => ?_, fun i hi => ?_, ?_, fun i hi => ?_⟩
        · show q < M.2 + (1 + N) ∧ sg_wE (M.2 + (1 + N)) e9 ∧ va_at D cl (μ1 q, sg_c tys μ1 e9) H1 ∧ B ≤ μ1 q
          rcases key q e9 h9 with ⟨z1, z2⟩ | ⟨z1, z2⟩ | ⟨z1, z2, z3⟩
          · obtain ⟨k1, k2, k3, k4⟩ := hI.1 q e9 z2
            rw [m0 q z1, sg_c_x k2 hX]
            exact ⟨by omega, k2.mono (by omega), k3.kept (f6 _ k3.lt), k4⟩
          · subst z1
            subst z2
            rw [m1 M.2 (Nat.le_refl _) (by omega), Nat.sub_self, Nat.add_zero]
            refine ⟨by omega, sg_warr (fun k9 f9 e9 j a ha => ?_), ?_, hB⟩
            · cases e9
              have ha : (if j < N then some (M.2 + 1 + j) else none) = some a := ha
              by_cases hj : j < N
              · rw [if_pos hj] at ha; cases ha; omega
              · rw [if_neg hj] at ha; cases ha
            · show H1[H.size]? = some (arrV (sg_tc tys t) N (fun j => va_rf ((if j < N then some (M.2 + 1 + j) else none).map μ1)))
              rw [f4]
              unfold sg_mo
              congr 2
              funext j
              by_cases hj : j < N
              · rw [if_pos hj, if_pos hj]
                show _ = Value.ref (μ1 (M.2 + 1 + j))
                rw [m1 _ (by omega) (by omega)]
                exact congrArg Value.ref (show (H.size + 1 + j : Nat) = H.size + (M.2 + 1 + j - M.2) by omega)
              · rw [if_neg hj, if_neg hj]
                rfl
          · subst z3
            rw [m1 q (by omega) z2]
            refine ⟨by omega, sg_warr sg_wAi, ?_, by omega⟩
            have h5 := f5 (q - M.2 - 1) (by omega)
            rw [show H.size + 1 + (q - M.2 - 1) = H.size + (q - M.2) by omega] at h5
            exact h5
        · have hxy : μ1 x = μ1 y := hxy
          rcases key x ex hx9 with ⟨a1, a2⟩ | ⟨a1, a2⟩ | ⟨a1, a2, a3⟩ <;> rcases key y ey hy9 with ⟨b1, b2⟩ | ⟨b1, b2⟩ | ⟨b1, b2, b3⟩
          · rw [m0 x a1, m0 y b1] at hxy
            exact hI.2.1 x y ex ey a2 b2 hxy
          · rw [m0 x a1, m1 y (by omega) (by omega)] at hxy
            have := (hI.1 x ex a2).2.2.1.lt
            simp only at this
            omega
          · rw [m0 x a1, m1 y (by omega) (by omega)] at hxy
            have := (hI.1 x ex a2).2.2.1.lt
            simp only at this
            omega
          · rw [m0 y b1, m1 x (by omega) (by omega)] at hxy
            have := (hI.1 y ey b2).2.2.1.lt
            simp only at this
            omega
          · omega
          · rw [m1 x (by omega) (by omega), m1 y (by omega) (by omega)] at hxy
            omega
          · rw [m0 y b1, m1 x (by omega) (by omega)] at hxy
            have := (hI.1 y ey b2).2.2.1.lt
            simp only at this
            omega
          · rw [m1 x (by omega) (by omega), m1 y (by omega) (by omega)] at hxy
            omega
          · rw [m1 x (by omega) (by omega), m1 y (by omega) (by omega)] at hxy
            omega
        · have := hI.2.2.2.1
          show sg_mN M.1 M.2 N _ _ i = none
          unfold sg_mN
          rw [if_pos (by omega)]
          exact hI.2.2.1 i hi
        · have := hI.2.2.2.1
          show sg_pn ≤ M.2 + (1 + N)
          omega
        · have := hI.2.2.2.1
          rw [m0 i (by omega)]
          exact hI.2.2.2.2 i hi
      have hk := kk μ1 H1 (locs ++ (List.range N).map fun j => (⟨H.size, j⟩ : Loc)) ls hX ⟨i1, fun z hz => (hJ.2.1 z hz).mono (by show M.2 ≤ M.2 + (1 + N); omega), sg_cc (fun a e => by rcases e with e | e <;> cases e; show M.2 < M.2 + (1 + N); omega) (fun v hv => (hst v hv).mono (by show M.2 ≤ M.2 + (1 + N); omega)), by rw [sg_ls_x hJ.2.1 hX]; exact hJ.2.2.2.1, ⟨Nat.le_trans hJ.2.2.2.2.1 (by omega), fun x h1 h2 => (f6 x (Nat.lt_of_lt_of_le h1 hJ.2.2.2.2.1)).trans (hJ.2.2.2.2.2.1 x h1 h2), fun z hz => ?_⟩⟩
      · rw [List.map_cons, sg_vs_x hst hX] at hk
        have e8 : sg_v μ1 (.ref M.2) = .ref H.size := congrArg Value.ref (by rw [m1 M.2 (Nat.le_refl _) (by omega), Nat.sub_self, Nat.add_zero])
        rw [e8] at hk
        exact hk
      · rcases List.mem_append.mp hz with z1 | z1
        · exact hJ.2.2.2.2.2.2 z z1
        · obtain ⟨j, -, rfl⟩ := List.mem_map.mp z1
          exact hB
  · trivial
end
end SGN
