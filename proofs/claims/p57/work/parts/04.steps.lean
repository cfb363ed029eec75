section SGB
/-! Steps. The program's tables: names, codes, locals, what is returned, frames and words of room, handlers. -/
abbrev sg_P : Type := (Nat → MethodName) × (Nat → ByteArray) × (Nat → Nat) × (Nat → Option FieldType) × (Nat → Nat) × (Nat → Nat) × (Nat → List (Nat × Nat × Nat × Nat))
abbrev sg_Y (P : sg_P) (k : Nat) : MethodName := P.1 k
abbrev sg_C (P : sg_P) (k : Nat) : ByteArray := P.2.1 k
abbrev sg_N (P : sg_P) (k : Nat) : Nat := P.2.2.1 k
abbrev sg_T (P : sg_P) (k : Nat) : Option FieldType := P.2.2.2.1 k
abbrev sg_fr (P : sg_P) (k : Nat) : Nat := P.2.2.2.2.1 k
abbrev sg_lo (P : sg_P) (k : Nat) : Nat := P.2.2.2.2.2.1 k
abbrev sg_hh (P : sg_P) (k : Nat) : List (Nat × Nat × Nat × Nat) := P.2.2.2.2.2.2 k
def sg_hw (P : sg_P) (k : Nat) : Cond := match sg_hh P k with
  | [] => .code (sg_Y P k) (sg_C P k) (sg_N P k) (sg_T P k)
  | h :: hs => .codeWith (sg_Y P k) (sg_C P k) (sg_N P k) (sg_T P k) (h :: hs)
/-- the exceptions that the class throws, by their places -/
def sg_nm (E : Nat) : String := match E with
  | 0 => "java/lang/IndexOutOfBoundsException"
  | 1 => "java/lang/IllegalArgumentException"
  | _ => "java/lang/IllegalStateException"
/-- what holds of the world all along: the tables, the script, Throwable's statics, the texts -/
def sg_Cx (D : va_G) (cl : List vw_C) (tys : List (ClassId × FieldType)) (B b Ls : Nat) (xs : Nat → Int32) (Sx : List (String × Nat × String)) (Ax : List String) (U : State) (H : Heap) : Prop :=
  va_K D cl tys U ∧ va_X b Ls xs U H ∧ b < B ∧ B ≤ H.size ∧ vx_Zq Bundle.tN "UNASSIGNED_STACK" Bundle.steD (sg_A B) U H ∧ vx_Zq Bundle.tN "SUPPRESSED_SENTINEL" Bundle.listD (sg_A B) U H ∧ (∀ z ∈ Sx, ∃ sa, vk_R z.1 z.2.1 z.2.2 sa U) ∧ ∀ C ∈ Ax, va_AO C U
theorem sg_Cx.moved {D : va_G} {cl : List vw_C} {tys : List (ClassId × FieldType)} {B b Ls : Nat} {xs : Nat → Int32} {Sx : List (String × Nat × String)} {Ax : List String} {s U : State} {H0 H : Heap} (h : sg_Cx D cl tys B b Ls xs Sx Ax s H0) (hW : s.WarmedH U.vm) (hz : H0.size ≤ H.size) (hq : ∀ q : Nat, q < H0.size → ¬ sg_A B q → H[q]? = H0[q]?) : sg_Cx D cl tys B b Ls xs Sx Ax U H := by
  obtain ⟨h1, h2, h3, h4, h5, h6, h7, h8⟩ := h
  have hbl : b < H0.size := by
    obtain ⟨scr, g, -⟩ := h2
    exact (Array.getElem?_eq_some_iff.mp g).1
  exact ⟨va_K.moved hW.alike h1, va_X.moved hW.alike (h2.kept (hq b hbl (Nat.not_le.mpr h3))), h3, Nat.le_trans h4 hz, vx_Zq.moved hW.alike (h5.kept hq), vx_Zq.moved hW.alike (h6.kept hq), fun z hz9 => by obtain ⟨sa, g⟩ := h7 z hz9; exact ⟨sa, vk_R.warm hW g⟩, fun C hC => va_AO.moved hW.alike (h8 C hC)⟩
theorem sg_Cx.same {D : va_G} {cl : List vw_C} {tys : List (ClassId × FieldType)} {B b Ls : Nat} {xs : Nat → Int32} {Sx : List (String × Nat × String)} {Ax : List String} {s U : State} {H : Heap} (h : sg_Cx D cl tys B b Ls xs Sx Ax s H) (hv : U.vm = s.vm) : sg_Cx D cl tys B b Ls xs Sx Ax U H := by
  have hW : s.WarmedH U.vm := by rw [hv]; exact State.WarmedH.refl s
  exact h.moved hW (Nat.le_refl _) (fun _ _ _ => rfl)
/-- a method's frame -/
def sg_Fr (P : sg_P) (Tw : List Cond) (k : Nat) (p : Program) (l : Launch) (R : Room) (s : State) (m : MethodId) (args : Array Value) (meth : Method) (c : Code) : Prop :=
  p.tables.exec = Jvm.exec ∧ c.code = sg_C P k ∧ c.maxLocals = sg_N P k ∧ s.vm.findClass (sg_Y P k).cls = some m.cls ∧ (∀ w ∈ Tw, w.before args s = true) ∧ meth.sig.returnType = sg_T P k ∧ meth.locks = false ∧ R.frames = sg_fr P k ∧ R.locals = sg_lo P k ∧ meth.name = (sg_Y P k).name ∧ l.stackTraces = false ∧ c.exceptionTable.toList = tableOf (sg_hh P k)
/-- a point of a walk -/
def sg_J (D : va_G) (cl : List vw_C) (tys : List (ClassId × FieldType)) (B b nL : Nat) (s : State) (μ : Nat → Nat) (M : sg_M) (H : Heap) (ls : Array Slot) (L : sg_L) (st : List Value) (locs : List Loc) : Prop :=
  sg_I D cl tys B b μ M H ∧ (∀ q ∈ L, sg_wV M.2 q.2) ∧ (∀ v ∈ st, sg_wV M.2 v) ∧ lv_has ls nL (L.map (fun q => (q.1, sg_v μ q.2))) ∧ va_S (sg_A B) s.heap H locs
/-- what a step's outcome says of the walk -/
def sg_Res (D : va_G) (cl : List vw_C) (tys : List (ClassId × FieldType)) (B b : Nat) (P : sg_P) (Tw : List Cond) (k : Nat) (p : Program) (l : Launch) (e : Env) (R : Room) (s : State) (m : MethodId) (args : Array Value) (below : List Frame) (meth : Method) (c : Code) (μ : Nat → Nat) (M : sg_M) (H : Heap) (locs : List Loc) (cells slots pc : Nat) (ls : Array Slot) (st : List Value) (o : Option sg_O) : Prop := match o with
  | none => True
  | some (.inl (pc1, L1, st1, M1, dc, ds)) => M.2 ≤ M1.2 ∧ ∀ Q : State → Prop, cells + dc ≤ R.cells → slots + ds ≤ R.slots →
      (∀ (μ1 : Nat → Nat) (H1 : Heap) (locs1 : List Loc) (ls1 : Array Slot), sg_X μ μ1 M.2 → sg_J D cl tys B b (sg_N P k) s μ1 M1 H1 ls1 L1 st1 locs1 → W p l e R s m args below meth c H1 locs1 (cells + dc) (slots + ds) Q (F0 m pc1 ls1 (st1.map (sg_v μ1)))) →
      W p l e R s m args below meth c H locs cells slots Q (F0 m pc ls (st.map (sg_v μ)))
  | some (.inr (.inl (j, av, rest))) => (∀ v ∈ av, sg_wV M.2 v) ∧ (∀ v ∈ rest, sg_wV M.2 v) ∧ (lg_sl av).length ≤ sg_N P j ∧
      ∀ (Pc : Array Value → State → Prop) (Qc : Array Value → State → Outcome → State → Prop) (XC : String → State → State → Prop) (mc ms : Nat), vx_Met l (sg_Y P j) (sg_hw P j :: Tw) ⟨sg_fr P j, mc, ms, sg_lo P j⟩ Pc Qc XC mc ms (sg_A B) → FrameBlind Pc → (∀ U : State, U.heap = H → s.WarmedH U.vm → Pc (av.map (sg_v μ)).toArray U) → cells + mc ≤ R.cells → slots + ms ≤ R.slots →
        vx_Run p l e R s m args below meth c H locs cells slots mc ms (F0 m pc ls (st.map (sg_v μ))) (rest.map (sg_v μ)) (Qc (av.map (sg_v μ)).toArray) XC (sg_A B)
  | some (.inr (.inr (.inl v))) => (∀ x, v = some x → sg_wV M.2 x) ∧ ∀ (Qc : Array Value → State → Outcome → State → Prop) (XC : String → State → State → Prop) (free : Addr → Prop), (∀ t : State, t.heap = H → s.WarmedH t.vm → Qc args s (.returned (v.map (sg_v μ))) t) → (∀ q ∈ locs, free q.base) →
      W p l e R s m args below meth c H locs cells slots (vx_MQ below Qc XC args s cells slots free) (F0 m pc ls (st.map (sg_v μ)))
  | some (.inr (.inr (.inr E))) => ∀ (Qc : Array Value → State → Outcome → State → Prop) (XC : String → State → State → Prop) (free : Addr → Prop) (mc ms : Nat), (∀ t : State, s.vm.Alike t.vm → H.size ≤ t.heap.size → (∀ q : Nat, q < H.size → t.heap[q]? = H[q]?) → XC (sg_nm E) s t) → (∀ z ∈ locs, free z.base) → cells + 1 ≤ mc → slots + 6 ≤ ms → cells + 1 ≤ R.cells → slots + 6 ≤ R.slots →
      W p l e R s m args below meth c H locs cells slots (vx_MQ below Qc XC args s mc ms free) (F0 m pc ls (st.map (sg_v μ)))
/-- a step is sound where it stands -/
def sg_Ok (D : va_G) (cl : List vw_C) (tys : List (ClassId × FieldType)) (B b Ls : Nat) (xs : Nat → Int32) (Sx : List (String × Nat × String)) (Ax : List String) (P : sg_P) (Tw : List Cond) (k pc : Nat) (f : sg_F) : Prop :=
  ∀ (p : Program) (l : Launch) (e : Env) (R : Room) (s : State) (m : MethodId) (args : Array Value) (below : List Frame) (meth : Method) (c : Code), sg_Fr P Tw k p l R s m args meth c → sg_Cx D cl tys B b Ls xs Sx Ax s s.heap →
    ∀ (L : sg_L) (st : List Value) (M : sg_M) (μ : Nat → Nat) (H : Heap) (locs : List Loc) (cells slots : Nat) (ls : Array Slot), sg_J D cl tys B b (sg_N P k) s μ M H ls L st locs →
      sg_Res D cl tys B b P Tw k p l e R s m args below meth c μ M H locs cells slots pc ls st (f L st M)
section
variable {D : va_G} {cl : List vw_C} {tys : List (ClassId × FieldType)} {B b Ls : Nat} {xs : Nat → Int32} {Sx : List (String × Nat × String)} {Ax : List String} {P : sg_P} {Tw : List Cond} {k pc : Nat}
/-- a step that changes no cell -/
theorem sg_pure {p : Program} {l : Launch} {e : Env} {R : Room} {s : State} {m : MethodId} {args : Array Value} {below : List Frame} {meth : Method} {c : Code} {L L1 : sg_L} {st st1 : List Value} {M : sg_M} {μ : Nat → Nat} {H : Heap} {locs : List Loc} {cells slots pc1 : Nat} {ls : Array Slot} (hJ : sg_J D cl tys B b (sg_N P k) s μ M H ls L st locs)
    (hL : ∀ q ∈ L1, sg_wV M.2 q.2) (hst : ∀ v ∈ st1, sg_wV M.2 v) (h : ∀ Q : State → Prop, (∀ ls1 : Array Slot, lv_has ls1 (sg_N P k) (L1.map (fun q => (q.1, sg_v μ q.2))) → W p l e R s m args below meth c H locs cells slots Q (F0 m pc1 ls1 (st1.map (sg_v μ)))) → W p l e R s m args below meth c H locs cells slots Q (F0 m pc ls (st.map (sg_v μ)))) :
    sg_Res D cl tys B b P Tw k p l e R s m args below meth c μ M H locs cells slots pc ls st (sg_go pc1 L1 st1 M) :=
  ⟨Nat.le_refl _, fun Q _ _ kk => h Q (fun ls1 hl => kk μ H locs ls1 sg_X.rf ⟨hJ.1, hL, hst, hl, hJ.2.2.2.2⟩)⟩

def sg_k (pc n : Nat) (v : Value) : sg_F := fun L st M => sg_go (pc + n) L (v :: st) M
theorem sg_ok_iconst {n : Int} {v : Int32} (hd : decode (sg_C P k) pc = .ok (.iconst n, 1)) (hv : Int32.ofInt n = v) : sg_Ok D cl tys B b Ls xs Sx Ax P Tw k pc (sg_k pc 1 (.int v)) := by
  intro p l e R s m args below meth c hF hC L st M μ H locs cells slots ls hJ
  obtain ⟨hx, hb, hml, hown, hts, hret, hlk, hfr, hlo, hnm, htr, htb⟩ := hF
  exact sg_pure hJ hJ.2.1 (sg_cc sg_wi hJ.2.2.1) (fun Q kk => lv_iconst hx hb hd hv (kk ls hJ.2.2.2.1))
theorem sg_ok_bipush {n : Int} {v : Int32} (hd : decode (sg_C P k) pc = .ok (.bipush n, 2)) (hv : (Int8.ofInt n).toInt32 = v) : sg_Ok D cl tys B b Ls xs Sx Ax P Tw k pc (sg_k pc 2 (.int v)) := by
  intro p l e R s m args below meth c hF hC L st M μ H locs cells slots ls hJ
  obtain ⟨hx, hb, hml, hown, hts, hret, hlk, hfr, hlo, hnm, htr, htb⟩ := hF
  exact sg_pure hJ hJ.2.1 (sg_cc sg_wi hJ.2.2.1) (fun Q kk => lv_bipush hx hb hd hv (kk ls hJ.2.2.2.1))
theorem sg_ok_sipush {n : Int} {v : Int32} (hd : decode (sg_C P k) pc = .ok (.sipush n, 3)) (hv : (Int16.ofInt n).toInt32 = v) : sg_Ok D cl tys B b Ls xs Sx Ax P Tw k pc (sg_k pc 3 (.int v)) := by
  intro p l e R s m args below meth c hF hC L st M μ H locs cells slots ls hJ
  obtain ⟨hx, hb, hml, hown, hts, hret, hlk, hfr, hlo, hnm, htr, htb⟩ := hF
  exact sg_pure hJ hJ.2.1 (sg_cc sg_wi hJ.2.2.1) (fun Q kk => lv_sipush hx hb hd hv (kk ls hJ.2.2.2.1))
theorem sg_ok_lconst {n : Fin 2} {v : Int64} (hd : decode (sg_C P k) pc = .ok (.lconst n, 1)) (hv : Int64.ofNat (n : Nat) = v) : sg_Ok D cl tys B b Ls xs Sx Ax P Tw k pc (sg_k pc 1 (.long v)) := by
  intro p l e R s m args below meth c hF hC L st M μ H locs cells slots ls hJ
  obtain ⟨hx, hb, hml, hown, hts, hret, hlk, hfr, hlo, hnm, htr, htb⟩ := hF
  exact sg_pure hJ hJ.2.1 (sg_cc sg_wl hJ.2.2.1) (fun Q kk => lv_lconst hx hb hd hv (kk ls hJ.2.2.2.1))
theorem sg_ok_null  (hd : decode (sg_C P k) pc = .ok (.aconst_null, 1))  : sg_Ok D cl tys B b Ls xs Sx Ax P Tw k pc (sg_k pc 1 .null) := by
  intro p l e R s m args below meth c hF hC L st M μ H locs cells slots ls hJ
  obtain ⟨hx, hb, hml, hown, hts, hret, hlk, hfr, hlo, hnm, htr, htb⟩ := hF
  exact sg_pure hJ hJ.2.1 (sg_cc sg_wnull hJ.2.2.1) (fun Q kk => lv_null hx hb hd (kk ls hJ.2.2.2.1))
theorem sg_ok_ldc2 {i : Nat} {v : Int64} (hd : decode (sg_C P k) pc = .ok (.ldc2_w i, 3)) (hw : Cond.constantLong (sg_Y P k).cls i v ∈ Tw) : sg_Ok D cl tys B b Ls xs Sx Ax P Tw k pc (sg_k pc 3 (.long v)) := by
  intro p l e R s m args below meth c hF hC L st M μ H locs cells slots ls hJ
  obtain ⟨hx, hb, hml, hown, hts, hret, hlk, hfr, hlo, hnm, htr, htb⟩ := hF
  exact sg_pure hJ hJ.2.1 (sg_cc sg_wl hJ.2.2.1) (fun Q kk => lv_ldc2 hx hb hown (hts _ hw) hd (kk ls hJ.2.2.2.1))
theorem sg_ok_ldc {i : Nat} {v : Int32} (hd : decode (sg_C P k) pc = .ok (.ldc i, 2)) (hw : Cond.constant (sg_Y P k).cls i v ∈ Tw) : sg_Ok D cl tys B b Ls xs Sx Ax P Tw k pc (sg_k pc 2 (.int v)) := by
  intro p l e R s m args below meth c hF hC L st M μ H locs cells slots ls hJ
  obtain ⟨hx, hb, hml, hown, hts, hret, hlk, hfr, hlo, hnm, htr, htb⟩ := hF
  exact sg_pure hJ hJ.2.1 (sg_cc sg_wi hJ.2.2.1) (fun Q kk => lv_ldc hx hb hown (hts _ hw) hd (kk ls hJ.2.2.2.1))
theorem sg_ok_ldcw {i : Nat} {v : Int32} (hd : decode (sg_C P k) pc = .ok (.ldc_w i, 3)) (hw : Cond.constant (sg_Y P k).cls i v ∈ Tw) : sg_Ok D cl tys B b Ls xs Sx Ax P Tw k pc (sg_k pc 3 (.int v)) := by
  intro p l e R s m args below meth c hF hC L st M μ H locs cells slots ls hJ
  obtain ⟨hx, hb, hml, hown, hts, hret, hlk, hfr, hlo, hnm, htr, htb⟩ := hF
  exact sg_pure hJ hJ.2.1 (sg_cc sg_wi hJ.2.2.1) (fun Q kk => lv_ldcw hx hb hown (hts _ hw) hd (kk ls hJ.2.2.2.1))
def sg_iload (pc n i : Nat) : sg_F := fun L st M => match sg_at L i with
  | some (.int x) => sg_go (pc + n) L (.int x :: st) M
  | _ => none
theorem sg_ok_iload_n {i : Nat} {j : Fin 4} (hi : (j : Nat) = i) (hd : decode (sg_C P k) pc = .ok (.iload_n j, 1)) : sg_Ok D cl tys B b Ls xs Sx Ax P Tw k pc (sg_iload pc 1 i) := by
  intro p l e R s m args below meth c hF hC L st M μ H locs cells slots ls hJ
  obtain ⟨hx, hb, hml, hown, hts, hret, hlk, hfr, hlo, hnm, htr, htb⟩ := hF
  unfold sg_iload
  split
  · rename_i x hg
    exact sg_pure hJ hJ.2.1 (sg_cc sg_wi hJ.2.2.1) (fun Q kk => lv_iload_n hx hb hd hi (sg_at_ls hJ.2.2.2.1 hg) (kk ls hJ.2.2.2.1))
  · trivial
theorem sg_ok_iload {i : Nat} (hd : decode (sg_C P k) pc = .ok (.iload i, 2)) : sg_Ok D cl tys B b Ls xs Sx Ax P Tw k pc (sg_iload pc 2 i) := by
  intro p l e R s m args below meth c hF hC L st M μ H locs cells slots ls hJ
  obtain ⟨hx, hb, hml, hown, hts, hret, hlk, hfr, hlo, hnm, htr, htb⟩ := hF
  unfold sg_iload
  split
  · rename_i x hg
    exact sg_pure hJ hJ.2.1 (sg_cc sg_wi hJ.2.2.1) (fun Q kk => lv_iload hx hb hd (sg_at_ls hJ.2.2.2.1 hg) (kk ls hJ.2.2.2.1))
  · trivial
def sg_lload (pc n i : Nat) : sg_F := fun L st M => match sg_at L i with
  | some (.long x) => sg_go (pc + n) L (.long x :: st) M
  | _ => none
theorem sg_ok_lload_n {i : Nat} {j : Fin 4} (hi : (j : Nat) = i) (hd : decode (sg_C P k) pc = .ok (.lload_n j, 1)) : sg_Ok D cl tys B b Ls xs Sx Ax P Tw k pc (sg_lload pc 1 i) := by
  intro p l e R s m args below meth c hF hC L st M μ H locs cells slots ls hJ
  obtain ⟨hx, hb, hml, hown, hts, hret, hlk, hfr, hlo, hnm, htr, htb⟩ := hF
  unfold sg_lload
  split
  · rename_i x hg
    exact sg_pure hJ hJ.2.1 (sg_cc sg_wl hJ.2.2.1) (fun Q kk => lv_lload_n hx hb hd hi (sg_at_ls hJ.2.2.2.1 hg) (kk ls hJ.2.2.2.1))
  · trivial
theorem sg_ok_lload {i : Nat} (hd : decode (sg_C P k) pc = .ok (.lload i, 2)) : sg_Ok D cl tys B b Ls xs Sx Ax P Tw k pc (sg_lload pc 2 i) := by
  intro p l e R s m args below meth c hF hC L st M μ H locs cells slots ls hJ
  obtain ⟨hx, hb, hml, hown, hts, hret, hlk, hfr, hlo, hnm, htr, htb⟩ := hF
  unfold sg_lload
  split
  · rename_i x hg
    exact sg_pure hJ hJ.2.1 (sg_cc sg_wl hJ.2.2.1) (fun Q kk => lv_lload hx hb hd (sg_at_ls hJ.2.2.2.1 hg) (kk ls hJ.2.2.2.1))
  · trivial
def sg_aload (pc n i : Nat) : sg_F := fun L st M => match sg_at L i with
  | some (.ref x) => sg_go (pc + n) L (.ref x :: st) M
  | some .null => sg_go (pc + n) L (.null :: st) M
  | _ => none
theorem sg_ok_aload_n {i : Nat} {j : Fin 4} (hi : (j : Nat) = i) (hd : decode (sg_C P k) pc = .ok (.aload_n j, 1)) : sg_Ok D cl tys B b Ls xs Sx Ax P Tw k pc (sg_aload pc 1 i) := by
  intro p l e R s m args below meth c hF hC L st M μ H locs cells slots ls hJ
  obtain ⟨hx, hb, hml, hown, hts, hret, hlk, hfr, hlo, hnm, htr, htb⟩ := hF
  unfold sg_aload
  split
  · rename_i x hg
    exact sg_pure hJ hJ.2.1 (sg_cc (hJ.2.1 _ (sg_at_mem hg)) hJ.2.2.1) (fun Q kk => lv_aload_n hx hb hd hi (sg_at_ls hJ.2.2.2.1 hg) (kk ls hJ.2.2.2.1))
  · rename_i hg
    exact sg_pure hJ hJ.2.1 (sg_cc sg_wnull hJ.2.2.1) (fun Q kk => lv_aload_nN hx hb hd hi (sg_at_ls hJ.2.2.2.1 hg) (kk ls hJ.2.2.2.1))
  · trivial
theorem sg_ok_aload {i : Nat} (hd : decode (sg_C P k) pc = .ok (.aload i, 2)) : sg_Ok D cl tys B b Ls xs Sx Ax P Tw k pc (sg_aload pc 2 i) := by
  intro p l e R s m args below meth c hF hC L st M μ H locs cells slots ls hJ
  obtain ⟨hx, hb, hml, hown, hts, hret, hlk, hfr, hlo, hnm, htr, htb⟩ := hF
  unfold sg_aload
  split
  · rename_i x hg
    exact sg_pure hJ hJ.2.1 (sg_cc (hJ.2.1 _ (sg_at_mem hg)) hJ.2.2.1) (fun Q kk => lv_aload hx hb hd (sg_at_ls hJ.2.2.2.1 hg) (kk ls hJ.2.2.2.1))
  · rename_i hg
    exact sg_pure hJ hJ.2.1 (sg_cc sg_wnull hJ.2.2.1) (fun Q kk => lv_aloadN hx hb hd (sg_at_ls hJ.2.2.2.1 hg) (kk ls hJ.2.2.2.1))
  · trivial
def sg_istore (pc n i : Nat) : sg_F := fun L st M => match st with
  | .int x :: r => sg_go (pc + n) (sg_st1 L i (.int x)) r M
  | _ => none
def sg_lstore (pc n i : Nat) : sg_F := fun L st M => match st with
  | .long x :: r => sg_go (pc + n) (sg_st2 L i (.long x)) r M
  | _ => none
def sg_astore (pc n i : Nat) : sg_F := fun L st M => match st with
  | .ref x :: r => sg_go (pc + n) (sg_st1 L i (.ref x)) r M
  | .null :: r => sg_go (pc + n) (sg_st1 L i .null) r M
  | _ => none
theorem sg_ok_istore_n {i : Nat} {j : Fin 4} (hi : (j : Nat) = i) (hn : i < sg_N P k) (hd : decode (sg_C P k) pc = .ok (.istore_n j, 1)) : sg_Ok D cl tys B b Ls xs Sx Ax P Tw k pc (sg_istore pc 1 i) := by
  intro p l e R s m args below meth c hF hC L st M μ H locs cells slots ls hJ
  obtain ⟨hx, hb, hml, hown, hts, hret, hlk, hfr, hlo, hnm, htr, htb⟩ := hF
  unfold sg_istore
  split
  · rename_i x r
    exact sg_pure hJ (sg_st1_w hJ.2.1 (sg_c1 hJ.2.2.1).1) (sg_c1 hJ.2.2.1).2 (fun Q kk => lv_istore_n hx hb hd hi hJ.2.2.2.1 hn rfl (fun ls1 hl1 => kk ls1 (sg_sub hl1 (sg_st1_map (μ := μ) (v := .int x)))))
  · trivial
theorem sg_ok_istore {i : Nat} (hn : i < sg_N P k) (hd : decode (sg_C P k) pc = .ok (.istore i, 2)) : sg_Ok D cl tys B b Ls xs Sx Ax P Tw k pc (sg_istore pc 2 i) := by
  intro p l e R s m args below meth c hF hC L st M μ H locs cells slots ls hJ
  obtain ⟨hx, hb, hml, hown, hts, hret, hlk, hfr, hlo, hnm, htr, htb⟩ := hF
  unfold sg_istore
  split
  · rename_i x r
    exact sg_pure hJ (sg_st1_w hJ.2.1 (sg_c1 hJ.2.2.1).1) (sg_c1 hJ.2.2.1).2 (fun Q kk => lv_istore hx hb hd hJ.2.2.2.1 hn rfl (fun ls1 hl1 => kk ls1 (sg_sub hl1 (sg_st1_map (μ := μ) (v := .int x)))))
  · trivial
theorem sg_ok_lstore_n {i : Nat} {j : Fin 4} (hi : (j : Nat) = i) (hn : i + 1 < sg_N P k) (hd : decode (sg_C P k) pc = .ok (.lstore_n j, 1)) : sg_Ok D cl tys B b Ls xs Sx Ax P Tw k pc (sg_lstore pc 1 i) := by
  intro p l e R s m args below meth c hF hC L st M μ H locs cells slots ls hJ
  obtain ⟨hx, hb, hml, hown, hts, hret, hlk, hfr, hlo, hnm, htr, htb⟩ := hF
  unfold sg_lstore
  split
  · rename_i x r
    exact sg_pure hJ (sg_st2_w hJ.2.1 (sg_c1 hJ.2.2.1).1) (sg_c1 hJ.2.2.1).2 (fun Q kk => lv_lstore_n hx hb hd hi hJ.2.2.2.1 hn rfl (fun ls1 hl1 => kk ls1 (sg_sub hl1 (sg_st2_map (μ := μ) (v := .long x)))))
  · trivial
theorem sg_ok_lstore {i : Nat} (hn : i + 1 < sg_N P k) (hd : decode (sg_C P k) pc = .ok (.lstore i, 2)) : sg_Ok D cl tys B b Ls xs Sx Ax P Tw k pc (sg_lstore pc 2 i) := by
  intro p l e R s m args below meth c hF hC L st M μ H locs cells slots ls hJ
  obtain ⟨hx, hb, hml, hown, hts, hret, hlk, hfr, hlo, hnm, htr, htb⟩ := hF
  unfold sg_lstore
  split
  · rename_i x r
    exact sg_pure hJ (sg_st2_w hJ.2.1 (sg_c1 hJ.2.2.1).1) (sg_c1 hJ.2.2.1).2 (fun Q kk => lv_lstore hx hb hd hJ.2.2.2.1 hn rfl (fun ls1 hl1 => kk ls1 (sg_sub hl1 (sg_st2_map (μ := μ) (v := .long x)))))
  · trivial
theorem sg_ok_astore_n {i : Nat} {j : Fin 4} (hi : (j : Nat) = i) (hn : i < sg_N P k) (hd : decode (sg_C P k) pc = .ok (.astore_n j, 1)) : sg_Ok D cl tys B b Ls xs Sx Ax P Tw k pc (sg_astore pc 1 i) := by
  intro p l e R s m args below meth c hF hC L st M μ H locs cells slots ls hJ
  obtain ⟨hx, hb, hml, hown, hts, hret, hlk, hfr, hlo, hnm, htr, htb⟩ := hF
  unfold sg_astore
  split
  · rename_i x r
    exact sg_pure hJ (sg_st1_w hJ.2.1 (sg_c1 hJ.2.2.1).1) (sg_c1 hJ.2.2.1).2 (fun Q kk => lv_astore_n hx hb hd hi hJ.2.2.2.1 hn rfl (fun ls1 hl1 => kk ls1 (sg_sub hl1 (sg_st1_map (μ := μ) (v := .ref x)))))
  · exact sg_pure hJ (sg_st1_w hJ.2.1 (sg_c1 hJ.2.2.1).1) (sg_c1 hJ.2.2.1).2 (fun Q kk => lv_astore_nN hx hb hd hi hJ.2.2.2.1 hn rfl (fun ls1 hl1 => kk ls1 (sg_sub hl1 (sg_st1_map (μ := μ) (v := .null)))))
  · trivial
theorem sg_ok_astore {i : Nat} (hn : i < sg_N P k) (hd : decode (sg_C P k) pc = .ok (.astore i, 2)) : sg_Ok D cl tys B b Ls xs Sx Ax P Tw k pc (sg_astore pc 2 i) := by
  intro p l e R s m args below meth c hF hC L st M μ H locs cells slots ls hJ
  obtain ⟨hx, hb, hml, hown, hts, hret, hlk, hfr, hlo, hnm, htr, htb⟩ := hF
  unfold sg_astore
  split
  · rename_i x r
    exact sg_pure hJ (sg_st1_w hJ.2.1 (sg_c1 hJ.2.2.1).1) (sg_c1 hJ.2.2.1).2 (fun Q kk => lv_astore hx hb hd hJ.2.2.2.1 hn rfl (fun ls1 hl1 => kk ls1 (sg_sub hl1 (sg_st1_map (μ := μ) (v := .ref x)))))
  · exact sg_pure hJ (sg_st1_w hJ.2.1 (sg_c1 hJ.2.2.1).1) (sg_c1 hJ.2.2.1).2 (fun Q kk => lv_astoreN hx hb hd hJ.2.2.2.1 hn rfl (fun ls1 hl1 => kk ls1 (sg_sub hl1 (sg_st1_map (μ := μ) (v := .null)))))
  · trivial
def sg_iinc (pc i : Nat) (n : Int) : sg_F := fun L st M => match sg_at L i with
  | some (.int x) => sg_go (pc + 3) (sg_st1 L i (.int (x + Int32.ofInt n))) st M
  | _ => none
theorem sg_ok_iinc {i : Nat} {n : Int} (hn : i < sg_N P k) (hd : decode (sg_C P k) pc = .ok (.iinc i n, 3)) : sg_Ok D cl tys B b Ls xs Sx Ax P Tw k pc (sg_iinc pc i n) := by
  intro p l e R s m args below meth c hF hC L st M μ H locs cells slots ls hJ
  obtain ⟨hx, hb, hml, hown, hts, hret, hlk, hfr, hlo, hnm, htr, htb⟩ := hF
  unfold sg_iinc
  split
  · rename_i x hg
    obtain ⟨q, hq⟩ := List.getElem?_of_mem (List.mem_map.mpr ⟨(i, .int x), sg_at_mem hg, rfl⟩ : (i, Value.int x) ∈ L.map (fun q => (q.1, sg_v μ q.2)))
    exact sg_pure hJ (sg_st1_w hJ.2.1 sg_wi) hJ.2.2.1 (fun Q kk => lv_iinc hx hb hd hJ.2.2.2.1 hq rfl hn rfl (fun ls1 hl1 => kk ls1 (sg_sub hl1 (sg_st1_map (μ := μ) (v := .int (x + Int32.ofInt n))))))
  · trivial
def sg_iadd (pc : Nat) : sg_F := fun L st M => match st with
  | .int y :: .int x :: r => sg_go (pc + 1) L (.int (x + y) :: r) M
  | _ => none
theorem sg_ok_iadd (hd : decode (sg_C P k) pc = .ok (.iadd, 1)) : sg_Ok D cl tys B b Ls xs Sx Ax P Tw k pc (sg_iadd pc) := by
  intro p l e R s m args below meth c hF hC L st M μ H locs cells slots ls hJ
  obtain ⟨hx, hb, hml, hown, hts, hret, hlk, hfr, hlo, hnm, htr, htb⟩ := hF
  unfold sg_iadd
  split
  · exact sg_pure hJ hJ.2.1 (sg_cc sg_wi (sg_c1 (sg_c1 hJ.2.2.1).2).2) (fun Q kk => lv_iadd hx hb hd  (kk ls hJ.2.2.2.1))
  · trivial
def sg_isub (pc : Nat) : sg_F := fun L st M => match st with
  | .int y :: .int x :: r => sg_go (pc + 1) L (.int (x - y) :: r) M
  | _ => none
theorem sg_ok_isub (hd : decode (sg_C P k) pc = .ok (.isub, 1)) : sg_Ok D cl tys B b Ls xs Sx Ax P Tw k pc (sg_isub pc) := by
  intro p l e R s m args below meth c hF hC L st M μ H locs cells slots ls hJ
  obtain ⟨hx, hb, hml, hown, hts, hret, hlk, hfr, hlo, hnm, htr, htb⟩ := hF
  unfold sg_isub
  split
  · exact sg_pure hJ hJ.2.1 (sg_cc sg_wi (sg_c1 (sg_c1 hJ.2.2.1).2).2) (fun Q kk => lv_isub hx hb hd  (kk ls hJ.2.2.2.1))
  · trivial
def sg_imul (pc : Nat) : sg_F := fun L st M => match st with
  | .int y :: .int x :: r => sg_go (pc + 1) L (.int (x * y) :: r) M
  | _ => none
theorem sg_ok_imul (hd : decode (sg_C P k) pc = .ok (.imul, 1)) : sg_Ok D cl tys B b Ls xs Sx Ax P Tw k pc (sg_imul pc) := by
  intro p l e R s m args below meth c hF hC L st M μ H locs cells slots ls hJ
  obtain ⟨hx, hb, hml, hown, hts, hret, hlk, hfr, hlo, hnm, htr, htb⟩ := hF
  unfold sg_imul
  split
  · exact sg_pure hJ hJ.2.1 (sg_cc sg_wi (sg_c1 (sg_c1 hJ.2.2.1).2).2) (fun Q kk => lv_imul hx hb hd  (kk ls hJ.2.2.2.1))
  · trivial
def sg_iand (pc : Nat) : sg_F := fun L st M => match st with
  | .int y :: .int x :: r => sg_go (pc + 1) L (.int (x &&& y) :: r) M
  | _ => none
theorem sg_ok_iand (hd : decode (sg_C P k) pc = .ok (.iand, 1)) : sg_Ok D cl tys B b Ls xs Sx Ax P Tw k pc (sg_iand pc) := by
  intro p l e R s m args below meth c hF hC L st M μ H locs cells slots ls hJ
  obtain ⟨hx, hb, hml, hown, hts, hret, hlk, hfr, hlo, hnm, htr, htb⟩ := hF
  unfold sg_iand
  split
  · exact sg_pure hJ hJ.2.1 (sg_cc sg_wi (sg_c1 (sg_c1 hJ.2.2.1).2).2) (fun Q kk => lv_iand hx hb hd  (kk ls hJ.2.2.2.1))
  · trivial
def sg_ior (pc : Nat) : sg_F := fun L st M => match st with
  | .int y :: .int x :: r => sg_go (pc + 1) L (.int (x ||| y) :: r) M
  | _ => none
theorem sg_ok_ior (hd : decode (sg_C P k) pc = .ok (.ior, 1)) : sg_Ok D cl tys B b Ls xs Sx Ax P Tw k pc (sg_ior pc) := by
  intro p l e R s m args below meth c hF hC L st M μ H locs cells slots ls hJ
  obtain ⟨hx, hb, hml, hown, hts, hret, hlk, hfr, hlo, hnm, htr, htb⟩ := hF
  unfold sg_ior
  split
  · exact sg_pure hJ hJ.2.1 (sg_cc sg_wi (sg_c1 (sg_c1 hJ.2.2.1).2).2) (fun Q kk => lv_ior hx hb hd  (kk ls hJ.2.2.2.1))
  · trivial
def sg_ixor (pc : Nat) : sg_F := fun L st M => match st with
  | .int y :: .int x :: r => sg_go (pc + 1) L (.int (x ^^^ y) :: r) M
  | _ => none
theorem sg_ok_ixor (hd : decode (sg_C P k) pc = .ok (.ixor, 1)) : sg_Ok D cl tys B b Ls xs Sx Ax P Tw k pc (sg_ixor pc) := by
  intro p l e R s m args below meth c hF hC L st M μ H locs cells slots ls hJ
  obtain ⟨hx, hb, hml, hown, hts, hret, hlk, hfr, hlo, hnm, htr, htb⟩ := hF
  unfold sg_ixor
  split
  · exact sg_pure hJ hJ.2.1 (sg_cc sg_wi (sg_c1 (sg_c1 hJ.2.2.1).2).2) (fun Q kk => lv_ixor hx hb hd  (kk ls hJ.2.2.2.1))
  · trivial
def sg_ishl (pc : Nat) : sg_F := fun L st M => match st with
  | .int y :: .int x :: r => sg_go (pc + 1) L (.int (x <<< (y &&& 31)) :: r) M
  | _ => none
theorem sg_ok_ishl (hd : decode (sg_C P k) pc = .ok (.ishl, 1)) : sg_Ok D cl tys B b Ls xs Sx Ax P Tw k pc (sg_ishl pc) := by
  intro p l e R s m args below meth c hF hC L st M μ H locs cells slots ls hJ
  obtain ⟨hx, hb, hml, hown, hts, hret, hlk, hfr, hlo, hnm, htr, htb⟩ := hF
  unfold sg_ishl
  split
  · exact sg_pure hJ hJ.2.1 (sg_cc sg_wi (sg_c1 (sg_c1 hJ.2.2.1).2).2) (fun Q kk => lv_ishl hx hb hd  (kk ls hJ.2.2.2.1))
  · trivial
def sg_ishr (pc : Nat) : sg_F := fun L st M => match st with
  | .int y :: .int x :: r => sg_go (pc + 1) L (.int (x >>> (y &&& 31)) :: r) M
  | _ => none
theorem sg_ok_ishr (hd : decode (sg_C P k) pc = .ok (.ishr, 1)) : sg_Ok D cl tys B b Ls xs Sx Ax P Tw k pc (sg_ishr pc) := by
  intro p l e R s m args below meth c hF hC L st M μ H locs cells slots ls hJ
  obtain ⟨hx, hb, hml, hown, hts, hret, hlk, hfr, hlo, hnm, htr, htb⟩ := hF
  unfold sg_ishr
  split
  · exact sg_pure hJ hJ.2.1 (sg_cc sg_wi (sg_c1 (sg_c1 hJ.2.2.1).2).2) (fun Q kk => lv_ishr hx hb hd  (kk ls hJ.2.2.2.1))
  · trivial
def sg_iushr (pc : Nat) : sg_F := fun L st M => match st with
  | .int y :: .int x :: r => sg_go (pc + 1) L (.int (x.toUInt32 >>> (y.toUInt32 &&& Int32.toUInt32 31)).toInt32 :: r) M
  | _ => none
theorem sg_ok_iushr (hd : decode (sg_C P k) pc = .ok (.iushr, 1)) : sg_Ok D cl tys B b Ls xs Sx Ax P Tw k pc (sg_iushr pc) := by
  intro p l e R s m args below meth c hF hC L st M μ H locs cells slots ls hJ
  obtain ⟨hx, hb, hml, hown, hts, hret, hlk, hfr, hlo, hnm, htr, htb⟩ := hF
  unfold sg_iushr
  split
  · exact sg_pure hJ hJ.2.1 (sg_cc sg_wi (sg_c1 (sg_c1 hJ.2.2.1).2).2) (fun Q kk => lv_iushr hx hb hd rfl (kk ls hJ.2.2.2.1))
  · trivial
def sg_idiv (pc : Nat) : sg_F := fun L st M => match st with
  | .int y :: .int x :: r => if y = 0 then none else sg_go (pc + 1) L (.int (x / y) :: r) M
  | _ => none
theorem sg_ok_idiv (hd : decode (sg_C P k) pc = .ok (.idiv, 1)) : sg_Ok D cl tys B b Ls xs Sx Ax P Tw k pc (sg_idiv pc) := by
  intro p l e R s m args below meth c hF hC L st M μ H locs cells slots ls hJ
  obtain ⟨hx, hb, hml, hown, hts, hret, hlk, hfr, hlo, hnm, htr, htb⟩ := hF
  unfold sg_idiv
  split
  · split
    · trivial
    · rename_i hne
      exact sg_pure hJ hJ.2.1 (sg_cc sg_wi (sg_c1 (sg_c1 hJ.2.2.1).2).2) (fun Q kk => lv_idiv hx hb hd hne (kk ls hJ.2.2.2.1))
  · trivial
def sg_irem (pc : Nat) : sg_F := fun L st M => match st with
  | .int y :: .int x :: r => if y = 0 then none else sg_go (pc + 1) L (.int (x - x / y * y) :: r) M
  | _ => none
theorem sg_ok_irem (hd : decode (sg_C P k) pc = .ok (.irem, 1)) : sg_Ok D cl tys B b Ls xs Sx Ax P Tw k pc (sg_irem pc) := by
  intro p l e R s m args below meth c hF hC L st M μ H locs cells slots ls hJ
  obtain ⟨hx, hb, hml, hown, hts, hret, hlk, hfr, hlo, hnm, htr, htb⟩ := hF
  unfold sg_irem
  split
  · split
    · trivial
    · rename_i hne
      exact sg_pure hJ hJ.2.1 (sg_cc sg_wi (sg_c1 (sg_c1 hJ.2.2.1).2).2) (fun Q kk => lv_irem hx hb hd hne (kk ls hJ.2.2.2.1))
  · trivial
def sg_ladd (pc : Nat) : sg_F := fun L st M => match st with
  | .long y :: .long x :: r => sg_go (pc + 1) L (.long (x + y) :: r) M
  | _ => none
theorem sg_ok_ladd (hd : decode (sg_C P k) pc = .ok (.ladd, 1)) : sg_Ok D cl tys B b Ls xs Sx Ax P Tw k pc (sg_ladd pc) := by
  intro p l e R s m args below meth c hF hC L st M μ H locs cells slots ls hJ
  obtain ⟨hx, hb, hml, hown, hts, hret, hlk, hfr, hlo, hnm, htr, htb⟩ := hF
  unfold sg_ladd
  split
  · exact sg_pure hJ hJ.2.1 (sg_cc sg_wl (sg_c1 (sg_c1 hJ.2.2.1).2).2) (fun Q kk => lv_ladd hx hb hd  (kk ls hJ.2.2.2.1))
  · trivial
def sg_lsub (pc : Nat) : sg_F := fun L st M => match st with
  | .long y :: .long x :: r => sg_go (pc + 1) L (.long (x - y) :: r) M
  | _ => none
theorem sg_ok_lsub (hd : decode (sg_C P k) pc = .ok (.lsub, 1)) : sg_Ok D cl tys B b Ls xs Sx Ax P Tw k pc (sg_lsub pc) := by
  intro p l e R s m args below meth c hF hC L st M μ H locs cells slots ls hJ
  obtain ⟨hx, hb, hml, hown, hts, hret, hlk, hfr, hlo, hnm, htr, htb⟩ := hF
  unfold sg_lsub
  split
  · exact sg_pure hJ hJ.2.1 (sg_cc sg_wl (sg_c1 (sg_c1 hJ.2.2.1).2).2) (fun Q kk => lv_lsub hx hb hd  (kk ls hJ.2.2.2.1))
  · trivial
def sg_lmul (pc : Nat) : sg_F := fun L st M => match st with
  | .long y :: .long x :: r => sg_go (pc + 1) L (.long (x * y) :: r) M
  | _ => none
theorem sg_ok_lmul (hd : decode (sg_C P k) pc = .ok (.lmul, 1)) : sg_Ok D cl tys B b Ls xs Sx Ax P Tw k pc (sg_lmul pc) := by
  intro p l e R s m args below meth c hF hC L st M μ H locs cells slots ls hJ
  obtain ⟨hx, hb, hml, hown, hts, hret, hlk, hfr, hlo, hnm, htr, htb⟩ := hF
  unfold sg_lmul
  split
  · exact sg_pure hJ hJ.2.1 (sg_cc sg_wl (sg_c1 (sg_c1 hJ.2.2.1).2).2) (fun Q kk => lv_lmul hx hb hd  (kk ls hJ.2.2.2.1))
  · trivial
def sg_land (pc : Nat) : sg_F := fun L st M => match st with
  | .long y :: .long x :: r => sg_go (pc + 1) L (.long (x &&& y) :: r) M
  | _ => none
theorem sg_ok_land (hd : decode (sg_C P k) pc = .ok (.land, 1)) : sg_Ok D cl tys B b Ls xs Sx Ax P Tw k pc (sg_land pc) := by
  intro p l e R s m args below meth c hF hC L st M μ H locs cells slots ls hJ
  obtain ⟨hx, hb, hml, hown, hts, hret, hlk, hfr, hlo, hnm, htr, htb⟩ := hF
  unfold sg_land
  split
  · exact sg_pure hJ hJ.2.1 (sg_cc sg_wl (sg_c1 (sg_c1 hJ.2.2.1).2).2) (fun Q kk => lv_land hx hb hd  (kk ls hJ.2.2.2.1))
  · trivial
def sg_lor (pc : Nat) : sg_F := fun L st M => match st with
  | .long y :: .long x :: r => sg_go (pc + 1) L (.long (x ||| y) :: r) M
  | _ => none
theorem sg_ok_lor (hd : decode (sg_C P k) pc = .ok (.lor, 1)) : sg_Ok D cl tys B b Ls xs Sx Ax P Tw k pc (sg_lor pc) := by
  intro p l e R s m args below meth c hF hC L st M μ H locs cells slots ls hJ
  obtain ⟨hx, hb, hml, hown, hts, hret, hlk, hfr, hlo, hnm, htr, htb⟩ := hF
  unfold sg_lor
  split
  · exact sg_pure hJ hJ.2.1 (sg_cc sg_wl (sg_c1 (sg_c1 hJ.2.2.1).2).2) (fun Q kk => lv_lor hx hb hd  (kk ls hJ.2.2.2.1))
  · trivial
def sg_lxor (pc : Nat) : sg_F := fun L st M => match st with
  | .long y :: .long x :: r => sg_go (pc + 1) L (.long (x ^^^ y) :: r) M
  | _ => none
theorem sg_ok_lxor (hd : decode (sg_C P k) pc = .ok (.lxor, 1)) : sg_Ok D cl tys B b Ls xs Sx Ax P Tw k pc (sg_lxor pc) := by
  intro p l e R s m args below meth c hF hC L st M μ H locs cells slots ls hJ
  obtain ⟨hx, hb, hml, hown, hts, hret, hlk, hfr, hlo, hnm, htr, htb⟩ := hF
  unfold sg_lxor
  split
  · exact sg_pure hJ hJ.2.1 (sg_cc sg_wl (sg_c1 (sg_c1 hJ.2.2.1).2).2) (fun Q kk => lv_lxor hx hb hd  (kk ls hJ.2.2.2.1))
  · trivial
def sg_lcmp (pc : Nat) : sg_F := fun L st M => match st with
  | .long y :: .long x :: r => sg_go (pc + 1) L (.int (lg_cmp x y) :: r) M
  | _ => none
theorem sg_ok_lcmp (hd : decode (sg_C P k) pc = .ok (.lcmp, 1)) : sg_Ok D cl tys B b Ls xs Sx Ax P Tw k pc (sg_lcmp pc) := by
  intro p l e R s m args below meth c hF hC L st M μ H locs cells slots ls hJ
  obtain ⟨hx, hb, hml, hown, hts, hret, hlk, hfr, hlo, hnm, htr, htb⟩ := hF
  unfold sg_lcmp
  split
  · exact sg_pure hJ hJ.2.1 (sg_cc sg_wi (sg_c1 (sg_c1 hJ.2.2.1).2).2) (fun Q kk => W.lcmp hx hb hd  (kk ls hJ.2.2.2.1))
  · trivial
def sg_lshl (pc : Nat) : sg_F := fun L st M => match st with
  | .int y :: .long x :: r => sg_go (pc + 1) L (.long (x <<< (y.toInt64 &&& 63)) :: r) M
  | _ => none
theorem sg_ok_lshl (hd : decode (sg_C P k) pc = .ok (.lshl, 1)) : sg_Ok D cl tys B b Ls xs Sx Ax P Tw k pc (sg_lshl pc) := by
  intro p l e R s m args below meth c hF hC L st M μ H locs cells slots ls hJ
  obtain ⟨hx, hb, hml, hown, hts, hret, hlk, hfr, hlo, hnm, htr, htb⟩ := hF
  unfold sg_lshl
  split
  · exact sg_pure hJ hJ.2.1 (sg_cc sg_wl (sg_c1 (sg_c1 hJ.2.2.1).2).2) (fun Q kk => lv_lshl hx hb hd rfl (kk ls hJ.2.2.2.1))
  · trivial
def sg_lshr (pc : Nat) : sg_F := fun L st M => match st with
  | .int y :: .long x :: r => sg_go (pc + 1) L (.long (x >>> (y.toInt64 &&& 63)) :: r) M
  | _ => none
theorem sg_ok_lshr (hd : decode (sg_C P k) pc = .ok (.lshr, 1)) : sg_Ok D cl tys B b Ls xs Sx Ax P Tw k pc (sg_lshr pc) := by
  intro p l e R s m args below meth c hF hC L st M μ H locs cells slots ls hJ
  obtain ⟨hx, hb, hml, hown, hts, hret, hlk, hfr, hlo, hnm, htr, htb⟩ := hF
  unfold sg_lshr
  split
  · exact sg_pure hJ hJ.2.1 (sg_cc sg_wl (sg_c1 (sg_c1 hJ.2.2.1).2).2) (fun Q kk => lv_lshr hx hb hd rfl (kk ls hJ.2.2.2.1))
  · trivial
def sg_lushr (pc : Nat) : sg_F := fun L st M => match st with
  | .int y :: .long x :: r => sg_go (pc + 1) L (.long (x.toUInt64 >>> (y.toInt64.toUInt64 &&& Int64.toUInt64 63)).toInt64 :: r) M
  | _ => none
theorem sg_ok_lushr (hd : decode (sg_C P k) pc = .ok (.lushr, 1)) : sg_Ok D cl tys B b Ls xs Sx Ax P Tw k pc (sg_lushr pc) := by
  intro p l e R s m args below meth c hF hC L st M μ H locs cells slots ls hJ
  obtain ⟨hx, hb, hml, hown, hts, hret, hlk, hfr, hlo, hnm, htr, htb⟩ := hF
  unfold sg_lushr
  split
  · exact sg_pure hJ hJ.2.1 (sg_cc sg_wl (sg_c1 (sg_c1 hJ.2.2.1).2).2) (fun Q kk => lv_lushr hx hb hd rfl (kk ls hJ.2.2.2.1))
  · trivial
def sg_i2l (pc : Nat) : sg_F := fun L st M => match st with
  | .int x :: r => sg_go (pc + 1) L (.long x.toInt64 :: r) M
  | _ => none
theorem sg_ok_i2l (hd : decode (sg_C P k) pc = .ok (.i2l, 1)) : sg_Ok D cl tys B b Ls xs Sx Ax P Tw k pc (sg_i2l pc) := by
  intro p l e R s m args below meth c hF hC L st M μ H locs cells slots ls hJ
  obtain ⟨hx, hb, hml, hown, hts, hret, hlk, hfr, hlo, hnm, htr, htb⟩ := hF
  unfold sg_i2l
  split
  · exact sg_pure hJ hJ.2.1 (sg_cc sg_wl (sg_c1 hJ.2.2.1).2) (fun Q kk => lv_i2l hx hb hd rfl (kk ls hJ.2.2.2.1))
  · trivial
def sg_l2i (pc : Nat) : sg_F := fun L st M => match st with
  | .long x :: r => sg_go (pc + 1) L (.int x.toInt32 :: r) M
  | _ => none
theorem sg_ok_l2i (hd : decode (sg_C P k) pc = .ok (.l2i, 1)) : sg_Ok D cl tys B b Ls xs Sx Ax P Tw k pc (sg_l2i pc) := by
  intro p l e R s m args below meth c hF hC L st M μ H locs cells slots ls hJ
  obtain ⟨hx, hb, hml, hown, hts, hret, hlk, hfr, hlo, hnm, htr, htb⟩ := hF
  unfold sg_l2i
  split
  · exact sg_pure hJ hJ.2.1 (sg_cc sg_wi (sg_c1 hJ.2.2.1).2) (fun Q kk => lv_l2i hx hb hd rfl (kk ls hJ.2.2.2.1))
  · trivial
def sg_ineg (pc : Nat) : sg_F := fun L st M => match st with
  | .int x :: r => sg_go (pc + 1) L (.int (-x) :: r) M
  | _ => none
theorem sg_ok_ineg (hd : decode (sg_C P k) pc = .ok (.ineg, 1)) : sg_Ok D cl tys B b Ls xs Sx Ax P Tw k pc (sg_ineg pc) := by
  intro p l e R s m args below meth c hF hC L st M μ H locs cells slots ls hJ
  obtain ⟨hx, hb, hml, hown, hts, hret, hlk, hfr, hlo, hnm, htr, htb⟩ := hF
  unfold sg_ineg
  split
  · exact sg_pure hJ hJ.2.1 (sg_cc sg_wi (sg_c1 hJ.2.2.1).2) (fun Q kk => lv_ineg hx hb hd  (kk ls hJ.2.2.2.1))
  · trivial
def sg_dup (pc : Nat) : sg_F := fun L st M => match st with
  | v :: r => if v.category = 1 then sg_go (pc + 1) L (v :: v :: r) M else none
  | _ => none
theorem sg_ok_dup (hd : decode (sg_C P k) pc = .ok (.dup, 1)) : sg_Ok D cl tys B b Ls xs Sx Ax P Tw k pc (sg_dup pc) := by
  intro p l e R s m args below meth c hF hC L st M μ H locs cells slots ls hJ
  obtain ⟨hx, hb, hml, hown, hts, hret, hlk, hfr, hlo, hnm, htr, htb⟩ := hF
  unfold sg_dup
  split
  · split
    · rename_i hc
      exact sg_pure hJ hJ.2.1 (sg_cc (sg_c1 hJ.2.2.1).1 hJ.2.2.1) (fun Q kk => lv_dup hx hb hd (sg_cat.trans hc) (kk ls hJ.2.2.2.1))
    · trivial
  · trivial
def sg_pop (pc : Nat) : sg_F := fun L st M => match st with
  | v :: r => if v.category = 1 then sg_go (pc + 1) L r M else none
  | _ => none
theorem sg_ok_pop (hd : decode (sg_C P k) pc = .ok (.pop, 1)) : sg_Ok D cl tys B b Ls xs Sx Ax P Tw k pc (sg_pop pc) := by
  intro p l e R s m args below meth c hF hC L st M μ H locs cells slots ls hJ
  obtain ⟨hx, hb, hml, hown, hts, hret, hlk, hfr, hlo, hnm, htr, htb⟩ := hF
  unfold sg_pop
  split
  · split
    · rename_i hc
      exact sg_pure hJ hJ.2.1 (sg_c1 hJ.2.2.1).2 (fun Q kk => lv_pop hx hb hd (sg_cat.trans hc) (kk ls hJ.2.2.2.1))
    · trivial
  · trivial
def sg_if_eq (pc tgt : Nat) : sg_F := fun L st M => match st with
  | .int x :: r => if x = 0 then sg_go tgt L r M else sg_go (pc + 3) L r M
  | _ => none
theorem sg_ok_if_eq {off : Int} {tgt : Nat} (hd : decode (sg_C P k) pc = .ok (.ifCond .eq off, 3)) (ht : (pc : Int) + off = (tgt : Int)) : sg_Ok D cl tys B b Ls xs Sx Ax P Tw k pc (sg_if_eq pc tgt) := by
  intro p l e R s m args below meth c hF hC L st M μ H locs cells slots ls hJ
  obtain ⟨hx, hb, hml, hown, hts, hret, hlk, hfr, hlo, hnm, htr, htb⟩ := hF
  unfold sg_if_eq
  split
  · split
    · rename_i hc
      exact sg_pure hJ hJ.2.1 (sg_c1 hJ.2.2.1).2 (fun Q kk => lv_if_eq hx hb hd ht (fun _ => kk ls hJ.2.2.2.1) (fun h => absurd hc h))
    · rename_i hc
      exact sg_pure hJ hJ.2.1 (sg_c1 hJ.2.2.1).2 (fun Q kk => lv_if_eq hx hb hd ht (fun h => absurd h hc) (fun _ => kk ls hJ.2.2.2.1))
  · trivial
def sg_if_ne (pc tgt : Nat) : sg_F := fun L st M => match st with
  | .int x :: r => if ¬ x = 0 then sg_go tgt L r M else sg_go (pc + 3) L r M
  | _ => none
theorem sg_ok_if_ne {off : Int} {tgt : Nat} (hd : decode (sg_C P k) pc = .ok (.ifCond .ne off, 3)) (ht : (pc : Int) + off = (tgt : Int)) : sg_Ok D cl tys B b Ls xs Sx Ax P Tw k pc (sg_if_ne pc tgt) := by
  intro p l e R s m args below meth c hF hC L st M μ H locs cells slots ls hJ
  obtain ⟨hx, hb, hml, hown, hts, hret, hlk, hfr, hlo, hnm, htr, htb⟩ := hF
  unfold sg_if_ne
  split
  · split
    · rename_i hc
      exact sg_pure hJ hJ.2.1 (sg_c1 hJ.2.2.1).2 (fun Q kk => lv_if_ne hx hb hd ht (fun _ => kk ls hJ.2.2.2.1) (fun h => absurd h hc))
    · rename_i hc
      exact sg_pure hJ hJ.2.1 (sg_c1 hJ.2.2.1).2 (fun Q kk => lv_if_ne hx hb hd ht (fun h => absurd h hc) (fun _ => kk ls hJ.2.2.2.1))
  · trivial
def sg_if_lt (pc tgt : Nat) : sg_F := fun L st M => match st with
  | .int x :: r => if x < 0 then sg_go tgt L r M else sg_go (pc + 3) L r M
  | _ => none
theorem sg_ok_if_lt {off : Int} {tgt : Nat} (hd : decode (sg_C P k) pc = .ok (.ifCond .lt off, 3)) (ht : (pc : Int) + off = (tgt : Int)) : sg_Ok D cl tys B b Ls xs Sx Ax P Tw k pc (sg_if_lt pc tgt) := by
  intro p l e R s m args below meth c hF hC L st M μ H locs cells slots ls hJ
  obtain ⟨hx, hb, hml, hown, hts, hret, hlk, hfr, hlo, hnm, htr, htb⟩ := hF
  unfold sg_if_lt
  split
  · split
    · rename_i hc
      exact sg_pure hJ hJ.2.1 (sg_c1 hJ.2.2.1).2 (fun Q kk => lv_if_lt hx hb hd ht (fun _ => kk ls hJ.2.2.2.1) (fun h => absurd hc h))
    · rename_i hc
      exact sg_pure hJ hJ.2.1 (sg_c1 hJ.2.2.1).2 (fun Q kk => lv_if_lt hx hb hd ht (fun h => absurd h hc) (fun _ => kk ls hJ.2.2.2.1))
  · trivial
def sg_if_ge (pc tgt : Nat) : sg_F := fun L st M => match st with
  | .int x :: r => if 0 ≤ x then sg_go tgt L r M else sg_go (pc + 3) L r M
  | _ => none
theorem sg_ok_if_ge {off : Int} {tgt : Nat} (hd : decode (sg_C P k) pc = .ok (.ifCond .ge off, 3)) (ht : (pc : Int) + off = (tgt : Int)) : sg_Ok D cl tys B b Ls xs Sx Ax P Tw k pc (sg_if_ge pc tgt) := by
  intro p l e R s m args below meth c hF hC L st M μ H locs cells slots ls hJ
  obtain ⟨hx, hb, hml, hown, hts, hret, hlk, hfr, hlo, hnm, htr, htb⟩ := hF
  unfold sg_if_ge
  split
  · split
    · rename_i hc
      exact sg_pure hJ hJ.2.1 (sg_c1 hJ.2.2.1).2 (fun Q kk => lv_if_ge hx hb hd ht (fun _ => kk ls hJ.2.2.2.1) (fun h => absurd hc h))
    · rename_i hc
      exact sg_pure hJ hJ.2.1 (sg_c1 hJ.2.2.1).2 (fun Q kk => lv_if_ge hx hb hd ht (fun h => absurd h hc) (fun _ => kk ls hJ.2.2.2.1))
  · trivial
def sg_if_gt (pc tgt : Nat) : sg_F := fun L st M => match st with
  | .int x :: r => if 0 < x then sg_go tgt L r M else sg_go (pc + 3) L r M
  | _ => none
theorem sg_ok_if_gt {off : Int} {tgt : Nat} (hd : decode (sg_C P k) pc = .ok (.ifCond .gt off, 3)) (ht : (pc : Int) + off = (tgt : Int)) : sg_Ok D cl tys B b Ls xs Sx Ax P Tw k pc (sg_if_gt pc tgt) := by
  intro p l e R s m args below meth c hF hC L st M μ H locs cells slots ls hJ
  obtain ⟨hx, hb, hml, hown, hts, hret, hlk, hfr, hlo, hnm, htr, htb⟩ := hF
  unfold sg_if_gt
  split
  · split
    · rename_i hc
      exact sg_pure hJ hJ.2.1 (sg_c1 hJ.2.2.1).2 (fun Q kk => lv_if_gt hx hb hd ht (fun _ => kk ls hJ.2.2.2.1) (fun h => absurd hc h))
    · rename_i hc
      exact sg_pure hJ hJ.2.1 (sg_c1 hJ.2.2.1).2 (fun Q kk => lv_if_gt hx hb hd ht (fun h => absurd h hc) (fun _ => kk ls hJ.2.2.2.1))
  · trivial
def sg_if_le (pc tgt : Nat) : sg_F := fun L st M => match st with
  | .int x :: r => if x ≤ 0 then sg_go tgt L r M else sg_go (pc + 3) L r M
  | _ => none
theorem sg_ok_if_le {off : Int} {tgt : Nat} (hd : decode (sg_C P k) pc = .ok (.ifCond .le off, 3)) (ht : (pc : Int) + off = (tgt : Int)) : sg_Ok D cl tys B b Ls xs Sx Ax P Tw k pc (sg_if_le pc tgt) := by
  intro p l e R s m args below meth c hF hC L st M μ H locs cells slots ls hJ
  obtain ⟨hx, hb, hml, hown, hts, hret, hlk, hfr, hlo, hnm, htr, htb⟩ := hF
  unfold sg_if_le
  split
  · split
    · rename_i hc
      exact sg_pure hJ hJ.2.1 (sg_c1 hJ.2.2.1).2 (fun Q kk => lv_if_le hx hb hd ht (fun _ => kk ls hJ.2.2.2.1) (fun h => absurd hc h))
    · rename_i hc
      exact sg_pure hJ hJ.2.1 (sg_c1 hJ.2.2.1).2 (fun Q kk => lv_if_le hx hb hd ht (fun h => absurd h hc) (fun _ => kk ls hJ.2.2.2.1))
  · trivial
def sg_icmp_eq (pc tgt : Nat) : sg_F := fun L st M => match st with
  | .int y :: .int x :: r => if x = y then sg_go tgt L r M else sg_go (pc + 3) L r M
  | _ => none
theorem sg_ok_icmp_eq {off : Int} {tgt : Nat} (hd : decode (sg_C P k) pc = .ok (.if_icmp .eq off, 3)) (ht : (pc : Int) + off = (tgt : Int)) : sg_Ok D cl tys B b Ls xs Sx Ax P Tw k pc (sg_icmp_eq pc tgt) := by
  intro p l e R s m args below meth c hF hC L st M μ H locs cells slots ls hJ
  obtain ⟨hx, hb, hml, hown, hts, hret, hlk, hfr, hlo, hnm, htr, htb⟩ := hF
  unfold sg_icmp_eq
  split
  · split
    · rename_i hc
      exact sg_pure hJ hJ.2.1 (sg_c1 (sg_c1 hJ.2.2.1).2).2 (fun Q kk => lv_icmp_eq hx hb hd ht (fun _ => kk ls hJ.2.2.2.1) (fun h => absurd hc h))
    · rename_i hc
      exact sg_pure hJ hJ.2.1 (sg_c1 (sg_c1 hJ.2.2.1).2).2 (fun Q kk => lv_icmp_eq hx hb hd ht (fun h => absurd h hc) (fun _ => kk ls hJ.2.2.2.1))
  · trivial
def sg_icmp_ne (pc tgt : Nat) : sg_F := fun L st M => match st with
  | .int y :: .int x :: r => if ¬ x = y then sg_go tgt L r M else sg_go (pc + 3) L r M
  | _ => none
theorem sg_ok_icmp_ne {off : Int} {tgt : Nat} (hd : decode (sg_C P k) pc = .ok (.if_icmp .ne off, 3)) (ht : (pc : Int) + off = (tgt : Int)) : sg_Ok D cl tys B b Ls xs Sx Ax P Tw k pc (sg_icmp_ne pc tgt) := by
  intro p l e R s m args below meth c hF hC L st M μ H locs cells slots ls hJ
  obtain ⟨hx, hb, hml, hown, hts, hret, hlk, hfr, hlo, hnm, htr, htb⟩ := hF
  unfold sg_icmp_ne
  split
  · split
    · rename_i hc
      exact sg_pure hJ hJ.2.1 (sg_c1 (sg_c1 hJ.2.2.1).2).2 (fun Q kk => lv_icmp_ne hx hb hd ht (fun _ => kk ls hJ.2.2.2.1) (fun h => absurd h hc))
    · rename_i hc
      exact sg_pure hJ hJ.2.1 (sg_c1 (sg_c1 hJ.2.2.1).2).2 (fun Q kk => lv_icmp_ne hx hb hd ht (fun h => absurd h hc) (fun _ => kk ls hJ.2.2.2.1))
  · trivial
def sg_icmp_lt (pc tgt : Nat) : sg_F := fun L st M => match st with
  | .int y :: .int x :: r => if x < y then sg_go tgt L r M else sg_go (pc + 3) L r M
  | _ => none
theorem sg_ok_icmp_lt {off : Int} {tgt : Nat} (hd : decode (sg_C P k) pc = .ok (.if_icmp .lt off, 3)) (ht : (pc : Int) + off = (tgt : Int)) : sg_Ok D cl tys B b Ls xs Sx Ax P Tw k pc (sg_icmp_lt pc tgt) := by
  intro p l e R s m args below meth c hF hC L st M μ H locs cells slots ls hJ
  obtain ⟨hx, hb, hml, hown, hts, hret, hlk, hfr, hlo, hnm, htr, htb⟩ := hF
  unfold sg_icmp_lt
  split
  · split
    · rename_i hc
      exact sg_pure hJ hJ.2.1 (sg_c1 (sg_c1 hJ.2.2.1).2).2 (fun Q kk => lv_icmp_lt hx hb hd ht (fun _ => kk ls hJ.2.2.2.1) (fun h => absurd hc h))
    · rename_i hc
      exact sg_pure hJ hJ.2.1 (sg_c1 (sg_c1 hJ.2.2.1).2).2 (fun Q kk => lv_icmp_lt hx hb hd ht (fun h => absurd h hc) (fun _ => kk ls hJ.2.2.2.1))
  · trivial
def sg_icmp_ge (pc tgt : Nat) : sg_F := fun L st M => match st with
  | .int y :: .int x :: r => if y ≤ x then sg_go tgt L r M else sg_go (pc + 3) L r M
  | _ => none
theorem sg_ok_icmp_ge {off : Int} {tgt : Nat} (hd : decode (sg_C P k) pc = .ok (.if_icmp .ge off, 3)) (ht : (pc : Int) + off = (tgt : Int)) : sg_Ok D cl tys B b Ls xs Sx Ax P Tw k pc (sg_icmp_ge pc tgt) := by
  intro p l e R s m args below meth c hF hC L st M μ H locs cells slots ls hJ
  obtain ⟨hx, hb, hml, hown, hts, hret, hlk, hfr, hlo, hnm, htr, htb⟩ := hF
  unfold sg_icmp_ge
  split
  · split
    · rename_i hc
      exact sg_pure hJ hJ.2.1 (sg_c1 (sg_c1 hJ.2.2.1).2).2 (fun Q kk => lv_icmp_ge hx hb hd ht (fun _ => kk ls hJ.2.2.2.1) (fun h => absurd hc h))
    · rename_i hc
      exact sg_pure hJ hJ.2.1 (sg_c1 (sg_c1 hJ.2.2.1).2).2 (fun Q kk => lv_icmp_ge hx hb hd ht (fun h => absurd h hc) (fun _ => kk ls hJ.2.2.2.1))
  · trivial
def sg_icmp_gt (pc tgt : Nat) : sg_F := fun L st M => match st with
  | .int y :: .int x :: r => if y < x then sg_go tgt L r M else sg_go (pc + 3) L r M
  | _ => none
theorem sg_ok_icmp_gt {off : Int} {tgt : Nat} (hd : decode (sg_C P k) pc = .ok (.if_icmp .gt off, 3)) (ht : (pc : Int) + off = (tgt : Int)) : sg_Ok D cl tys B b Ls xs Sx Ax P Tw k pc (sg_icmp_gt pc tgt) := by
  intro p l e R s m args below meth c hF hC L st M μ H locs cells slots ls hJ
  obtain ⟨hx, hb, hml, hown, hts, hret, hlk, hfr, hlo, hnm, htr, htb⟩ := hF
  unfold sg_icmp_gt
  split
  · split
    · rename_i hc
      exact sg_pure hJ hJ.2.1 (sg_c1 (sg_c1 hJ.2.2.1).2).2 (fun Q kk => lv_icmp_gt hx hb hd ht (fun _ => kk ls hJ.2.2.2.1) (fun h => absurd hc h))
    · rename_i hc
      exact sg_pure hJ hJ.2.1 (sg_c1 (sg_c1 hJ.2.2.1).2).2 (fun Q kk => lv_icmp_gt hx hb hd ht (fun h => absurd h hc) (fun _ => kk ls hJ.2.2.2.1))
  · trivial
def sg_icmp_le (pc tgt : Nat) : sg_F := fun L st M => match st with
  | .int y :: .int x :: r => if x ≤ y then sg_go tgt L r M else sg_go (pc + 3) L r M
  | _ => none
theorem sg_ok_icmp_le {off : Int} {tgt : Nat} (hd : decode (sg_C P k) pc = .ok (.if_icmp .le off, 3)) (ht : (pc : Int) + off = (tgt : Int)) : sg_Ok D cl tys B b Ls xs Sx Ax P Tw k pc (sg_icmp_le pc tgt) := by
  intro p l e R s m args below meth c hF hC L st M μ H locs cells slots ls hJ
  obtain ⟨hx, hb, hml, hown, hts, hret, hlk, hfr, hlo, hnm, htr, htb⟩ := hF
  unfold sg_icmp_le
  split
  · split
    · rename_i hc
      exact sg_pure hJ hJ.2.1 (sg_c1 (sg_c1 hJ.2.2.1).2).2 (fun Q kk => lv_icmp_le hx hb hd ht (fun _ => kk ls hJ.2.2.2.1) (fun h => absurd hc h))
    · rename_i hc
      exact sg_pure hJ hJ.2.1 (sg_c1 (sg_c1 hJ.2.2.1).2).2 (fun Q kk => lv_icmp_le hx hb hd ht (fun h => absurd h hc) (fun _ => kk ls hJ.2.2.2.1))
  · trivial
def sg_goto (tgt : Nat) : sg_F := fun L st M => sg_go tgt L st M
theorem sg_ok_goto {off : Int} {tgt : Nat} (hd : decode (sg_C P k) pc = .ok (.goto off, 3)) (ht : (pc : Int) + off = (tgt : Int)) : sg_Ok D cl tys B b Ls xs Sx Ax P Tw k pc (sg_goto tgt) := by
  intro p l e R s m args below meth c hF hC L st M μ H locs cells slots ls hJ
  obtain ⟨hx, hb, hml, hown, hts, hret, hlk, hfr, hlo, hnm, htr, htb⟩ := hF
  exact sg_pure hJ hJ.2.1 hJ.2.2.1 (fun Q kk => lv_goto hx hb hd ht (kk ls hJ.2.2.2.1))
def sg_ifnull (pc tgt : Nat) : sg_F := fun L st M => match st with
  | .null :: r => sg_go tgt L r M
  | .ref _ :: r => sg_go (pc + 3) L r M
  | _ => none
theorem sg_ok_ifnull {off : Int} {tgt : Nat} (hd : decode (sg_C P k) pc = .ok (.ifnull off, 3)) (ht : (pc : Int) + off = (tgt : Int)) : sg_Ok D cl tys B b Ls xs Sx Ax P Tw k pc (sg_ifnull pc tgt) := by
  intro p l e R s m args below meth c hF hC L st M μ H locs cells slots ls hJ
  obtain ⟨hx, hb, hml, hown, hts, hret, hlk, hfr, hlo, hnm, htr, htb⟩ := hF
  unfold sg_ifnull
  split
  · exact sg_pure hJ hJ.2.1 (sg_c1 hJ.2.2.1).2 (fun Q kk => lv_ifnullN hx hb hd ht (kk ls hJ.2.2.2.1))
  · exact sg_pure hJ hJ.2.1 (sg_c1 hJ.2.2.1).2 (fun Q kk => lv_ifnull hx hb hd (kk ls hJ.2.2.2.1))
  · trivial
def sg_ifnonnull (pc tgt : Nat) : sg_F := fun L st M => match st with
  | .null :: r => sg_go (pc + 3) L r M
  | .ref _ :: r => sg_go tgt L r M
  | _ => none
theorem sg_ok_ifnonnull {off : Int} {tgt : Nat} (hd : decode (sg_C P k) pc = .ok (.ifnonnull off, 3)) (ht : (pc : Int) + off = (tgt : Int)) : sg_Ok D cl tys B b Ls xs Sx Ax P Tw k pc (sg_ifnonnull pc tgt) := by
  intro p l e R s m args below meth c hF hC L st M μ H locs cells slots ls hJ
  obtain ⟨hx, hb, hml, hown, hts, hret, hlk, hfr, hlo, hnm, htr, htb⟩ := hF
  unfold sg_ifnonnull
  split
  · exact sg_pure hJ hJ.2.1 (sg_c1 hJ.2.2.1).2 (fun Q kk => lv_ifnonnullN hx hb hd (kk ls hJ.2.2.2.1))
  · exact sg_pure hJ hJ.2.1 (sg_c1 hJ.2.2.1).2 (fun Q kk => lv_ifnonnull hx hb hd ht (kk ls hJ.2.2.2.1))
  · trivial
def sg_tsw (pc : Nat) (dflt lo hi : Int) (offs : Array Int) : sg_F := fun L st M => match st with
  | .int x :: r => if x.toInt < lo ∨ hi < x.toInt then sg_go ((pc : Int) + dflt).toNat L r M else match offs[(x.toInt - lo).toNat]? with
    | some off => if 0 ≤ (pc : Int) + off then sg_go ((pc : Int) + off).toNat L r M else none
    | none => none
  | _ => none
theorem sg_ok_tsw {dflt lo hi : Int} {offs : Array Int} {n : Nat} (hd : decode (sg_C P k) pc = .ok (.tableswitch dflt lo hi offs, n)) (h0 : 0 ≤ (pc : Int) + dflt) : sg_Ok D cl tys B b Ls xs Sx Ax P Tw k pc (sg_tsw pc dflt lo hi offs) := by
  intro p l e R s m args below meth c hF hC L st M μ H locs cells slots ls hJ
  obtain ⟨hx, hb, hml, hown, hts, hret, hlk, hfr, hlo, hnm, htr, htb⟩ := hF
  unfold sg_tsw
  split
  · split
    · rename_i hc
      exact sg_pure hJ hJ.2.1 (sg_c1 hJ.2.2.1).2 (fun Q kk => lv_tableOut hx hb hd hc (Int.toNat_of_nonneg h0).symm (kk ls hJ.2.2.2.1))
    · rename_i hc
      split
      · rename_i off ho
        split
        · rename_i h9
          exact sg_pure hJ hJ.2.1 (sg_c1 hJ.2.2.1).2 (fun Q kk => lv_tableIn hx hb hd (fun z => hc (Or.inl z)) (fun z => hc (Or.inr z)) ho (Int.toNat_of_nonneg h9).symm (kk ls hJ.2.2.2.1))
        · trivial
      · trivial
  · trivial
end
end SGB
