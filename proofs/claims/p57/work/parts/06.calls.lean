section SGD
def sg_cs (st : List Value) : Nat := (st.map fun v => v.category).sum
theorem sg_lg (vs : List Value) : (lg_sl vs).length = sg_cs vs := by
  induction vs with
  | nil => rfl
  | cons v vs ih =>
    have e : lg_sl (v :: vs) = (if v.category = 2 then [.val v, .second] else [.val v]) ++ lg_sl vs := rfl
    rw [e, List.length_append, ih]
    show _ = v.category + sg_cs vs
    rcases lv_cat v with h | h
    · rw [if_neg (by omega), h]; rfl
    · rw [if_pos h, h]; rfl
theorem sg_cs_map {μ : Nat → Nat} {st : List Value} : ((st.map (sg_v μ)).map fun v => v.category).sum = sg_cs st := by rw [sg_cats]; rfl
theorem sg_split {n : Nat} {st av : List Value} (h : (st.take n).reverse = av) : st = av.reverse ++ st.drop n := by
  rw [← h, List.reverse_reverse, List.take_append_drop]
theorem sg_mem_tk {n k : Nat} {st av : List Value} (h : (st.take n).reverse = av) (hw : ∀ v ∈ st, sg_wV k v) : (∀ v ∈ av, sg_wV k v) ∧ ∀ v ∈ st.drop n, sg_wV k v :=
  ⟨fun v hv => hw v (List.mem_of_mem_take (List.mem_reverse.mp (by rw [h]; exact hv))), fun v hv => hw v (List.mem_of_mem_drop hv)⟩
theorem sg_hw0 {P : sg_P} {j : Nat} (h : sg_hh P j = []) : sg_hw P j = .code (sg_Y P j) (sg_C P j) (sg_N P j) (sg_T P j) := by
  unfold sg_hw
  rw [h]
theorem sg_words {P : sg_P} {Tw : List Cond} {j : Nat} {s : State} {args : Array Value} (hts : ∀ w ∈ Tw, w.before args s = true) (hok : ∀ w ∈ Tw, sg_okw w = true) (hj : sg_hw P j ∈ Tw) : ∀ w ∈ sg_hw P j :: Tw, ∀ (a' : Array Value) (U : State), s.WarmedH U.vm → w.before a' U = true := by
  intro w hw a' U hW
  have hm : w ∈ Tw := by
    rcases List.mem_cons.mp hw with z | z
    · rw [z]; exact hj
    · exact z
  exact sg_okw_at (hok w hm) hW (hts w hm)
def sg_callV (j n ci nL : Nat) : sg_F := fun L st M => match (st.take n).reverse with
  | .ref a :: As => match M.1 a with
    | some (.inr (cj, _)) => if cj = ci ∧ As.length + 1 = n ∧ sg_cs (st.drop n) ≤ 8 ∧ sg_cs (.ref a :: As) ≤ nL then some (.inr (.inl (j, .ref a :: As, st.drop n))) else none
    | _ => none
  | _ => none
def sg_callS (j n nL : Nat) : sg_F := fun L st M => if (st.take n).reverse.length = n ∧ sg_cs (st.drop n) ≤ 8 ∧ sg_cs (st.take n).reverse ≤ nL then some (.inr (.inl (j, (st.take n).reverse, st.drop n))) else none
def sg_callI (j n nL : Nat) : sg_F := fun L st M => match (st.take n).reverse with
  | .ref a :: As => if As.length + 1 = n ∧ sg_cs (st.drop n) ≤ 8 ∧ sg_cs (.ref a :: As) ≤ nL then some (.inr (.inl (j, .ref a :: As, st.drop n))) else none
  | _ => none
section
variable {D : va_G} {cl : List vw_C} {tys : List (ClassId × FieldType)} {B b Ls : Nat} {xs : Nat → Int32} {Sx : List (String × Nat × String)} {Ax : List String} {P : sg_P} {Tw : List Cond} {k pc : Nat}

theorem sg_ok_callV {j np ci nL index : Nat} {q : vw_C} (hc : cl[ci]? = some q) (hq : q.1 = (sg_Y P j).cls) (h1 : Cond.methodLink (sg_Y P k).cls index (sg_Y P j) ∈ Tw) (h2 : Cond.instanceMethod (sg_Y P j) ∈ Tw) (h4 : Cond.selects (sg_Y P j).cls (sg_Y P j) (sg_Y P j) ∈ Tw) (hh0 : sg_hh P j = []) (hok : ∀ w ∈ Tw, sg_okw w = true) (hj : sg_hw P j ∈ Tw) (h3 : Cond.initialized (sg_Y P j).cls ∈ Tw) (hcl : (sg_Y P j).cls ≠ "java/lang/invoke/MethodHandle" ∧ (sg_Y P j).cls ≠ "java/lang/invoke/VarHandle") (hpm : (parseMethodDescriptor (sg_Y P j).desc).map (fun d => d.parameters.length) = some np) (hR : sg_fr P j + 1 ≤ sg_fr P k ∧ 8 + (sg_N P j + 11) + sg_lo P j ≤ sg_lo P k) (hN : sg_N P j = nL) (hd : decode (sg_C P k) pc = .ok (.invokevirtual index, 3)) : sg_Ok D cl tys B b Ls xs Sx Ax P Tw k pc (sg_callV j (np + 1) ci nL) := by
  intro p l e R s m args below meth c hF hC L st M μ H locs cells slots ls hJ
  obtain ⟨hx, hb, hml, hown, hts, hret, hlk, hfr, hlo, hnm, htr, htb⟩ := hF
  unfold sg_callV
  split
  · rename_i a As hav
    split
    · rename_i cj fs he
      split
      · rename_i hcj
        obtain ⟨hcj, hlen, hr8, hn⟩ := hcj
        subst hcj
        obtain ⟨w1, w2⟩ := sg_mem_tk hav hJ.2.2.1
        refine ⟨w1, w2, by rw [sg_lg, hN]; exact hn, fun Pc Qc XC mc ms hM hbl hp e1 e2 => ?_⟩
        have hrecv : ∃ cell : Cell, H[μ a]? = some cell ∧ cell.vm.isStatics = false ∧ s.vm.findClass (sg_Y P j).cls = some cell.cls := by
          rw [← hq]
          exact va_recv hC.1 (hJ.1.one he).1 hc (q0 := 0) rfl
        have hst : st.map (sg_v μ) = (As.map (sg_v μ)).reverse ++ .ref (μ a) :: (st.drop (np + 1)).map (sg_v μ) := by
          conv => lhs; rw [sg_split hav]
          simp [sg_v]
        exact vx_runV (b := μ a) (As := As.map (sg_v μ)) (n := np) ⟨hx, hb, hml, hown, hts⟩ hM ⟨⟨rfl, rfl, by rw [hfr]; exact hR.1, by rw [hlo]; exact hR.2, sg_words hts hok hj, by rw [sg_hw0 hh0]; exact List.mem_cons_self, hts _ (by rw [← sg_hw0 hh0]; exact hj), hts _ h3, hcl, fun sig h => by rw [h] at hpm; exact (Option.some.inj hpm).symm, hts _ h1⟩, hts _ h2, hts _ h4⟩ ⟨hbl, hrecv, hp⟩ rfl (by rw [List.length_map]; omega) hJ.2.2.2.1.1 hst (lv_room (by rw [sg_cs_map]; exact hr8)) hd ⟨e1, e2⟩
      · trivial
    · trivial
  · trivial
theorem sg_ok_callS {j np nL index : Nat} (h1 : Cond.methodLink (sg_Y P k).cls index (sg_Y P j) ∈ Tw) (h2 : Cond.static (sg_Y P j) ∈ Tw) (hh0 : sg_hh P j = []) (hok : ∀ w ∈ Tw, sg_okw w = true) (hj : sg_hw P j ∈ Tw) (h3 : Cond.initialized (sg_Y P j).cls ∈ Tw) (hcl : (sg_Y P j).cls ≠ "java/lang/invoke/MethodHandle" ∧ (sg_Y P j).cls ≠ "java/lang/invoke/VarHandle") (hpm : (parseMethodDescriptor (sg_Y P j).desc).map (fun d => d.parameters.length) = some np) (hR : sg_fr P j + 1 ≤ sg_fr P k ∧ 8 + (sg_N P j + 11) + sg_lo P j ≤ sg_lo P k) (hN : sg_N P j = nL) (hd : decode (sg_C P k) pc = .ok (.invokestatic index, 3)) : sg_Ok D cl tys B b Ls xs Sx Ax P Tw k pc (sg_callS j np nL) := by
  intro p l e R s m args below meth c hF hC L st M μ H locs cells slots ls hJ
  obtain ⟨hx, hb, hml, hown, hts, hret, hlk, hfr, hlo, hnm, htr, htb⟩ := hF
  unfold sg_callS
  split
  · rename_i hcj
    obtain ⟨hlen, hr8, hn⟩ := hcj
    obtain ⟨w1, w2⟩ := sg_mem_tk rfl hJ.2.2.1
    refine ⟨w1, w2, by rw [sg_lg, hN]; exact hn, fun Pc Qc XC mc ms hM hbl hp e1 e2 => ?_⟩
    have hst : st.map (sg_v μ) = ((st.take np).reverse.map (sg_v μ)).reverse ++ (st.drop np).map (sg_v μ) := by
      rw [← List.map_reverse, List.reverse_reverse, ← List.map_append, List.take_append_drop]
    exact vx_runS (As := (st.take np).reverse.map (sg_v μ)) (n := np) ⟨hx, hb, hml, hown, hts⟩ hM ⟨⟨rfl, rfl, by rw [hfr]; exact hR.1, by rw [hlo]; exact hR.2, sg_words hts hok hj, by rw [sg_hw0 hh0]; exact List.mem_cons_self, hts _ (by rw [← sg_hw0 hh0]; exact hj), hts _ h3, hcl, fun sig h => by rw [h] at hpm; exact (Option.some.inj hpm).symm, hts _ h1⟩, hts _ h2⟩ ⟨hbl, hp⟩ rfl (by rw [List.length_map]; exact hlen) hJ.2.2.2.1.1 hst (lv_room (by rw [sg_cs_map]; exact hr8)) hd ⟨e1, e2⟩
  · trivial
theorem sg_ok_callSN {host : String} {j np nL index : Nat} (h1 : Cond.methodLinkNest (sg_Y P k).cls index (sg_Y P j) host ∈ Tw) (h2 : Cond.static (sg_Y P j) ∈ Tw) (hh0 : sg_hh P j = []) (hok : ∀ w ∈ Tw, sg_okw w = true) (hj : sg_hw P j ∈ Tw) (h3 : Cond.initialized (sg_Y P j).cls ∈ Tw) (hcl : (sg_Y P j).cls ≠ "java/lang/invoke/MethodHandle" ∧ (sg_Y P j).cls ≠ "java/lang/invoke/VarHandle") (hpm : (parseMethodDescriptor (sg_Y P j).desc).map (fun d => d.parameters.length) = some np) (hR : sg_fr P j + 1 ≤ sg_fr P k ∧ 8 + (sg_N P j + 11) + sg_lo P j ≤ sg_lo P k) (hN : sg_N P j = nL) (hd : decode (sg_C P k) pc = .ok (.invokestatic index, 3)) : sg_Ok D cl tys B b Ls xs Sx Ax P Tw k pc (sg_callS j np nL) := by
  intro p l e R s m args below meth c hF hC L st M μ H locs cells slots ls hJ
  obtain ⟨hx, hb, hml, hown, hts, hret, hlk, hfr, hlo, hnm, htr, htb⟩ := hF
  unfold sg_callS
  split
  · rename_i hcj
    obtain ⟨hlen, hr8, hn⟩ := hcj
    obtain ⟨w1, w2⟩ := sg_mem_tk rfl hJ.2.2.1
    refine ⟨w1, w2, by rw [sg_lg, hN]; exact hn, fun Pc Qc XC mc ms hM hbl hp e1 e2 => ?_⟩
    have hst : st.map (sg_v μ) = ((st.take np).reverse.map (sg_v μ)).reverse ++ (st.drop np).map (sg_v μ) := by
      rw [← List.map_reverse, List.reverse_reverse, ← List.map_append, List.take_append_drop]
    exact vx_runSN (As := (st.take np).reverse.map (sg_v μ)) (n := np) ⟨hx, hb, hml, hown, hts⟩ hM ⟨⟨⟨rfl, rfl, by rw [hfr]; exact hR.1, by rw [hlo]; exact hR.2, sg_words hts hok hj, by rw [sg_hw0 hh0]; exact List.mem_cons_self⟩, hts _ (by rw [← sg_hw0 hh0]; exact hj), hts _ h3, hcl, fun sig h => by rw [h] at hpm; exact (Option.some.inj hpm).symm, hts _ h1⟩, hts _ h2, trivial⟩ ⟨hbl, hp⟩ rfl (by rw [List.length_map]; exact hlen) hJ.2.2.2.1.1 hst (lv_room (by rw [sg_cs_map]; exact hr8)) hd ⟨e1, e2⟩
  · trivial
theorem sg_ok_callI {j np nL index : Nat} (h1 : Cond.methodLink (sg_Y P k).cls index (sg_Y P j) ∈ Tw) (h2 : Cond.instanceMethod (sg_Y P j) ∈ Tw) (hy1 : (sg_Y P j).name = "<init>") (hT : sg_T P j = none) (hh0 : sg_hh P j = []) (hok : ∀ w ∈ Tw, sg_okw w = true) (hj : sg_hw P j ∈ Tw) (h3 : Cond.initialized (sg_Y P j).cls ∈ Tw) (hcl : (sg_Y P j).cls ≠ "java/lang/invoke/MethodHandle" ∧ (sg_Y P j).cls ≠ "java/lang/invoke/VarHandle") (hpm : (parseMethodDescriptor (sg_Y P j).desc).map (fun d => d.parameters.length) = some np) (hR : sg_fr P j + 1 ≤ sg_fr P k ∧ 8 + (sg_N P j + 11) + sg_lo P j ≤ sg_lo P k) (hN : sg_N P j = nL) (hd : decode (sg_C P k) pc = .ok (.invokespecial index, 3)) : sg_Ok D cl tys B b Ls xs Sx Ax P Tw k pc (sg_callI j (np + 1) nL) := by
  intro p l e R s m args below meth c hF hC L st M μ H locs cells slots ls hJ
  obtain ⟨hx, hb, hml, hown, hts, hret, hlk, hfr, hlo, hnm, htr, htb⟩ := hF
  unfold sg_callI
  have hw0 := sg_hw0 hh0
  rw [hT] at hw0
  split
  · rename_i a As hav
    split
    · rename_i hcj
      obtain ⟨hlen, hr8, hn⟩ := hcj
      obtain ⟨w1, w2⟩ := sg_mem_tk hav hJ.2.2.1
      refine ⟨w1, w2, by rw [sg_lg, hN]; exact hn, fun Pc Qc XC mc ms hM hbl hp e1 e2 => ?_⟩
      have hst : st.map (sg_v μ) = (As.map (sg_v μ)).reverse ++ .ref (μ a) :: (st.drop (np + 1)).map (sg_v μ) := by
        conv => lhs; rw [sg_split hav]
        simp [sg_v]
      exact vx_runI (b := μ a) (As := As.map (sg_v μ)) (n := np) (maxL := sg_N P j) (bytes := sg_C P j) ⟨hx, hb, hml, hown, hts⟩ hM ⟨⟨rfl, rfl, by rw [hfr]; exact hR.1, by rw [hlo]; exact hR.2, sg_words hts hok hj, by rw [hw0]; exact List.mem_cons_self, hts _ (by rw [← hw0]; exact hj), hts _ h3, hcl, fun sig h => by rw [h] at hpm; exact (Option.some.inj hpm).symm, hts _ h1⟩, hy1, hts _ h2⟩ ⟨hbl, hp⟩ rfl (by rw [List.length_map]; omega) hJ.2.2.2.1.1 hst (lv_room (by rw [sg_cs_map]; exact hr8)) hd ⟨e1, e2⟩
    · trivial
  · trivial
theorem sg_ok_callIN {host : String} {j np nL index : Nat} (h1 : Cond.methodLinkNest (sg_Y P k).cls index (sg_Y P j) host ∈ Tw) (h2 : Cond.instanceMethod (sg_Y P j) ∈ Tw) (hy1 : (sg_Y P j).name = "<init>") (hT : sg_T P j = none) (hh0 : sg_hh P j = []) (hok : ∀ w ∈ Tw, sg_okw w = true) (hj : sg_hw P j ∈ Tw) (h3 : Cond.initialized (sg_Y P j).cls ∈ Tw) (hcl : (sg_Y P j).cls ≠ "java/lang/invoke/MethodHandle" ∧ (sg_Y P j).cls ≠ "java/lang/invoke/VarHandle") (hpm : (parseMethodDescriptor (sg_Y P j).desc).map (fun d => d.parameters.length) = some np) (hR : sg_fr P j + 1 ≤ sg_fr P k ∧ 8 + (sg_N P j + 11) + sg_lo P j ≤ sg_lo P k) (hN : sg_N P j = nL) (hd : decode (sg_C P k) pc = .ok (.invokespecial index, 3)) : sg_Ok D cl tys B b Ls xs Sx Ax P Tw k pc (sg_callI j (np + 1) nL) := by
  intro p l e R s m args below meth c hF hC L st M μ H locs cells slots ls hJ
  obtain ⟨hx, hb, hml, hown, hts, hret, hlk, hfr, hlo, hnm, htr, htb⟩ := hF
  unfold sg_callI
  have hw0 := sg_hw0 hh0
  rw [hT] at hw0
  split
  · rename_i a As hav
    split
    · rename_i hcj
      obtain ⟨hlen, hr8, hn⟩ := hcj
      obtain ⟨w1, w2⟩ := sg_mem_tk hav hJ.2.2.1
      refine ⟨w1, w2, by rw [sg_lg, hN]; exact hn, fun Pc Qc XC mc ms hM hbl hp e1 e2 => ?_⟩
      have hst : st.map (sg_v μ) = (As.map (sg_v μ)).reverse ++ .ref (μ a) :: (st.drop (np + 1)).map (sg_v μ) := by
        conv => lhs; rw [sg_split hav]
        simp [sg_v]
      exact vx_runIN (b := μ a) (As := As.map (sg_v μ)) (n := np) (maxL := sg_N P j) (bytes := sg_C P j) ⟨hx, hb, hml, hown, hts⟩ hM ⟨⟨⟨rfl, rfl, by rw [hfr]; exact hR.1, by rw [hlo]; exact hR.2, sg_words hts hok hj, by rw [hw0]; exact List.mem_cons_self⟩, hts _ (by rw [← hw0]; exact hj), hts _ h3, hcl, fun sig h => by rw [h] at hpm; exact (Option.some.inj hpm).symm, hts _ h1⟩, hy1, hts _ h2⟩ ⟨hbl, hp⟩ rfl (by rw [List.length_map]; omega) hJ.2.2.2.1.1 hst (lv_room (by rw [sg_cs_map]; exact hr8)) hd ⟨e1, e2⟩
    · trivial
  · trivial
theorem sg_ok_callSX {j np nL index : Nat} {h0 : Nat × Nat × Nat × Nat} {hs : List (Nat × Nat × Nat × Nat)} (h1 : Cond.methodLink (sg_Y P k).cls index (sg_Y P j) ∈ Tw) (h2 : Cond.static (sg_Y P j) ∈ Tw) (hh0 : sg_hh P j = h0 :: hs) (hok : ∀ w ∈ Tw, sg_okw w = true) (hj : sg_hw P j ∈ Tw) (h3 : Cond.initialized (sg_Y P j).cls ∈ Tw) (hcl : (sg_Y P j).cls ≠ "java/lang/invoke/MethodHandle" ∧ (sg_Y P j).cls ≠ "java/lang/invoke/VarHandle") (hpm : (parseMethodDescriptor (sg_Y P j).desc).map (fun d => d.parameters.length) = some np) (hR : sg_fr P j + 1 ≤ sg_fr P k ∧ 8 + (sg_N P j + 11) + sg_lo P j ≤ sg_lo P k) (hN : sg_N P j = nL) (hd : decode (sg_C P k) pc = .ok (.invokestatic index, 3)) : sg_Ok D cl tys B b Ls xs Sx Ax P Tw k pc (sg_callS j np nL) := by
  intro p l e R s m args below meth c hF hC L st M μ H locs cells slots ls hJ
  obtain ⟨hx, hb, hml, hown, hts, hret, hlk, hfr, hlo, hnm, htr, htb⟩ := hF
  unfold sg_callS
  have hw0 : sg_hw P j = .codeWith (sg_Y P j) (sg_C P j) (sg_N P j) (sg_T P j) (h0 :: hs) := by
    unfold sg_hw
    rw [hh0]
  split
  · rename_i hcj
    obtain ⟨hlen, hr8, hn⟩ := hcj
    obtain ⟨w1, w2⟩ := sg_mem_tk rfl hJ.2.2.1
    refine ⟨w1, w2, by rw [sg_lg, hN]; exact hn, fun Pc Qc XC mc ms hM hbl hp e1 e2 => ?_⟩
    have hst : st.map (sg_v μ) = ((st.take np).reverse.map (sg_v μ)).reverse ++ (st.drop np).map (sg_v μ) := by
      rw [← List.map_reverse, List.reverse_reverse, ← List.map_append, List.take_append_drop]
    exact vx_runSX (As := (st.take np).reverse.map (sg_v μ)) (n := np) (hh := h0 :: hs) (maxL := sg_N P j) (bytes := sg_C P j) (ret := sg_T P j) ⟨hx, hb, hml, hown, hts⟩ hM ⟨⟨rfl, rfl, by rw [hfr]; exact hR.1, by rw [hlo]; exact hR.2, sg_words hts hok hj, by rw [hw0]; exact List.mem_cons_self⟩, hts _ (by rw [← hw0]; exact hj), hts _ h3, hcl, fun sig h => by rw [h] at hpm; exact (Option.some.inj hpm).symm, hts _ h1, hts _ h2⟩ ⟨hbl, hp⟩ rfl (by rw [List.length_map]; exact hlen) hJ.2.2.2.1.1 hst (lv_room (by rw [sg_cs_map]; exact hr8)) hd ⟨e1, e2⟩
  · trivial
def sg_thr (P : sg_P) (k E : Nat) : sg_F := fun L st M => if sg_cs st + 82 ≤ sg_lo P k then some (.inr (.inr (.inr E))) else none
theorem sg_ok_thr {E ik is ic : Nat} {text : String} {names : List String} (hh0 : sg_hh P k = []) (hfit : Bundle.fit (sg_nm E) = true) (hnames : ∀ n ∈ names, Bundle.fit n = true) (hn2 : names.length = 2) (h1 : Cond.classLink (sg_Y P k).cls ik (sg_nm E) ∈ Tw) (h2 : Cond.initialized (sg_nm E) ∈ Tw) (hz : ((sg_Y P k).cls, is, text) ∈ Sx) (hat : ∀ w ∈ vx_atS (sg_Y P k).cls ic (sg_nm E) names, w ∈ Tw) (hgood : ∀ w ∈ Cond.classLink (sg_Y P k).cls ik (sg_nm E) :: Cond.initialized (sg_nm E) :: vx_atS (sg_Y P k).cls ic (sg_nm E) names, vx_ot w = true) (hR : 5 < sg_fr P k) (d0 : decode (sg_C P k) pc = .ok (.new ik, 3)) (d3 : decode (sg_C P k) (pc + 3) = .ok (.dup, 1)) (d4 : decode (sg_C P k) (pc + 4) = .ok (.ldc is, 2)) (d7 : decode (sg_C P k) (pc + 6) = .ok (.invokespecial ic, 3)) (d10 : decode (sg_C P k) (pc + 9) = .ok (.athrow, 1)) : sg_Ok D cl tys B b Ls xs Sx Ax P Tw k pc (sg_thr P k E) := by
  intro p l e R s m args below meth c hF hC L st M μ H locs cells slots ls hJ
  obtain ⟨hx, hb, hml, hown, hts, hret, hlk, hfr, hlo, hnm, htr, htb⟩ := hF
  unfold sg_thr
  split
  · rename_i hcs
    intro Qc XC free mc ms hX hf e1 e2 e3 e4
    obtain ⟨sa, hsa⟩ := hC.2.2.2.2.2.2.1 _ hz
    exact vx_throwS (names := names) hx hb htr hown hfit hnames (hts _ h1) (hts _ h2) hsa (fun w hw => hts w (hat w hw)) hgood hC.2.2.2.2.1 hC.2.2.2.2.2.1 hJ.2.2.2.2 (hJ.2.2.2.1.1.trans hml.symm) d0 d3 d4 d7 d10 (fun x hx9 => by rw [htb, hh0] at hx9; cases hx9) (by rw [hfr, hn2]; exact hR) (by rw [hlo, sg_cs_map, hn2]; exact hcs) e3 e4 hlk hX hf e1 e2
  · trivial
theorem sg_ok_thrW {E ik is ic : Nat} {text : String} {names : List String} (hh0 : sg_hh P k = []) (hfit : Bundle.fit (sg_nm E) = true) (hnames : ∀ n ∈ names, Bundle.fit n = true) (hn2 : names.length = 2) (h1 : Cond.classLink (sg_Y P k).cls ik (sg_nm E) ∈ Tw) (h2 : Cond.initialized (sg_nm E) ∈ Tw) (hz : ((sg_Y P k).cls, is, text) ∈ Sx) (hat : ∀ w ∈ vx_atS (sg_Y P k).cls ic (sg_nm E) names, w ∈ Tw) (hgood : ∀ w ∈ Cond.classLink (sg_Y P k).cls ik (sg_nm E) :: Cond.initialized (sg_nm E) :: vx_atS (sg_Y P k).cls ic (sg_nm E) names, vx_ot w = true) (hR : 5 < sg_fr P k) (d0 : decode (sg_C P k) pc = .ok (.new ik, 3)) (d3 : decode (sg_C P k) (pc + 3) = .ok (.dup, 1)) (d4 : decode (sg_C P k) (pc + 4) = .ok (.ldc_w is, 3)) (d7 : decode (sg_C P k) (pc + 7) = .ok (.invokespecial ic, 3)) (d10 : decode (sg_C P k) (pc + 10) = .ok (.athrow, 1)) : sg_Ok D cl tys B b Ls xs Sx Ax P Tw k pc (sg_thr P k E) := by
  intro p l e R s m args below meth c hF hC L st M μ H locs cells slots ls hJ
  obtain ⟨hx, hb, hml, hown, hts, hret, hlk, hfr, hlo, hnm, htr, htb⟩ := hF
  unfold sg_thr
  split
  · rename_i hcs
    intro Qc XC free mc ms hX hf e1 e2 e3 e4
    obtain ⟨sa, hsa⟩ := hC.2.2.2.2.2.2.1 _ hz
    exact vx_throwSW (names := names) hx hb htr hown hfit hnames (hts _ h1) (hts _ h2) hsa (fun w hw => hts w (hat w hw)) hgood hC.2.2.2.2.1 hC.2.2.2.2.2.1 hJ.2.2.2.2 (hJ.2.2.2.1.1.trans hml.symm) d0 d3 d4 d7 d10 (fun x hx9 => by rw [htb, hh0] at hx9; cases hx9) (by rw [hfr, hn2]; exact hR) (by rw [hlo, sg_cs_map, hn2]; exact hcs) e3 e4 hlk hX hf e1 e2
  · trivial
end
end SGD
