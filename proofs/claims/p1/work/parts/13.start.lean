/-! THE CLAIM OUT OF ONE WALK OF THE LAW'S BODY. Your part is whole_start (and what it stands on); all else here is the same for every law, but numbers. -/
def R_law : String := "StrataRepoLaw"
def lw_P (b : Addr) (xs : List Int32) (args : Array Value) (s : State) : Prop := args = #[.ref b] ∧ s.IntsAt b xs ∧ xs.length ≤ 5 ∧ (Jvm.Cond.and given_1 narrow_1).before args s = true
/-- what a walk over the start with the record d0 says of its end, said of the start itself -/
theorem lw_closed {s t : State} {o : Outcome} {d0 : Drawn} {L : List Loc} {k n : Nat} (hd0 : s.drawn.sameBut d0 lw_cs) (hv : ∃ v, o = .returned v) (hW : (s.setDrawn d0).WarmedH t.vm) (hs : (s.setDrawn d0).sameButNew ({ t with vm := s.vm } : State) L k n) : State.butDraws s t lw_cs (fun t1 => Framed s o t1 L k n) := by
  have h2 : t.drawn = d0 := congrArg State.drawn hs.1
  refine ⟨⟨hv, hW, State.sameButNew.setDrawn hs s.drawn⟩, ?_, by decide⟩
  rw [h2]
  exact hd0
def lw_Q (_ : Array Value) (s : State) (o : Outcome) (t : State) : Prop := o = .returned (some (.int 1)) ∧ State.butDraws s t lw_cs (fun t1 => Framed s o t1 [] 600002 7302232)
def lw_Z (below : List Frame) (a : Array Value) (s : State) : State → Prop := fun t => ∃ o, t.status = .running ∧ Ended t below o ∧ lw_Q a s o t
/-- the law's own end, with 1 on the stack, nothing written that was there before, its room as the claim has it; d0: the record of draws at this point (at the entry s.drawn: begin with 'refine W.base ?_' and 'have hd0 := Drawn.sameBut.refl s.drawn lw_cs') -/
theorem lw_ret {p : Program} {l : Launch} {e : Env} {s : State} {m : MethodId} {below : List Frame} {meth : Method} {c : Code} {b : Nat} {d0 : Drawn} (hd0 : s.drawn.sameBut d0 lw_cs) (hx : p.tables.exec = Jvm.exec) (hb : c.code = code) (hr : meth.sig.returnType = ret) (hlocks : meth.locks = false) {pc : Nat} {H : Heap} {ls : Array Slot} (hdg : decode code pc = .ok (.ireturn, 1)) : W p l e room_1 (s.setDrawn d0) m #[Value.ref b] below meth c H [] 600002 7302232 (lw_Z below #[Value.ref b] s) (F0 m pc ls [.int 1]) := by
  intro T hT X
  obtain ⟨fs, hret, hrun, hended, hW, hframe⟩ := X.leave (v := some (.int 1)) (hlocks := hlocks) (fun h => by rw [hr] at h; cases h)
  have hmeth' : T.vm.method? m = some meth := X.method'
  refine ⟨T.setFrames fs, ?_, .returned (some (.int 1)), hrun, hended, rfl, lw_closed hd0 ⟨_, rfl⟩ hW hframe⟩
  jvm_step X.here [X.here.top, hx, hb, hdg, hmeth', hr, ret, narrow_b1]
  (try refine ⟨rfl, ?_⟩); (try refine ⟨rfl, ?_⟩)
  first | (intro acts; rw [hret _ acts rfl rfl rfl]) | rw [hret _ _ rfl rfl rfl]
  exact Steps.refl _
/-- what holds at the law's entry: the machine, the code, the tables' words (any of lw_tbl by 'hts w (by decide +kernel)'), the script of L ints xs at the cell b, what the Statement gives of the start (any of its parts by flat_of_before) -/
def lw_At (p : Program) (s : State) (m : MethodId) (meth : Method) (c : Code) (b L : Nat) (xs : Nat → Int32) : Prop :=
  p.tables.exec = Jvm.exec ∧ c.code = code ∧ meth.sig.returnType = ret ∧ c.maxLocals = 9 ∧ s.vm.findClass R_law = some m.cls ∧ (∀ w ∈ lw_tbl, w.before #[Value.ref b] s = true) ∧ va_X b L xs s s.heap ∧ b < s.heap.size ∧ meth.locks = false ∧ (Jvm.Cond.and given_1 narrow_1).before #[Value.ref b] s = true ∧ meth.name = "law" ∧ c.exceptionTable.toList = []
-- ===== YOUR PART BEGINS =====
theorem sg_cases5 {k : Nat} (hk : k < 64) : sg_chk k = true := by
  have hg : ∀ {a n : Nat}, ((List.range n).all fun i => sg_chk (a + i)) = true → a ≤ k → k < a + n → sg_chk k = true := fun {a n} h h1 h2 => by
    have := List.all_eq_true.mp h (k - a) (List.mem_range.mpr (by omega))
    rw [show a + (k - a) = k by omega] at this
    exact this
  by_cases h0 : k < 2
  · exact hg sg_g0 (by omega) (by omega)
  by_cases h1 : k < 3
  · exact hg sg_g1 (by omega) (by omega)
  by_cases h2 : k < 4
  · exact hg sg_g2 (by omega) (by omega)
  by_cases h3 : k < 5
  · exact hg sg_g3 (by omega) (by omega)
  by_cases h4 : k < 10
  · exact hg sg_g4 (by omega) (by omega)
  by_cases h5 : k < 20
  · exact hg sg_g5 (by omega) (by omega)
  by_cases h6 : k < 30
  · exact hg sg_g6 (by omega) (by omega)
  by_cases h7 : k < 40
  · exact hg sg_g7 (by omega) (by omega)
  by_cases h8 : k < 50
  · exact hg sg_g8 (by omega) (by omega)
  by_cases h9 : k < 53
  · exact hg sg_g9 (by omega) (by omega)
  by_cases h10 : k < 54
  · exact hg sg_g10 (by omega) (by omega)
  exact hg sg_g11 (by omega) (by omega)
theorem sg_rn_ev {L : Nat} {ps : List Nat} {kx : Int32} (h : sg_rn sg_S0 L ps kx = true) : ∃ (n : Nat) (Mf : sg_M) (c s : Nat), sg_ev (sg_tab L (sg_vs ps) kx) sg_hd n sg_KL 0 [(0, .ref 0)] [] sg_M0 = some (.inl (some (.int 1)), Mf, c, s) ∧ c ≤ 600002 ∧ s ≤ 7302232 := by
  unfold sg_rn at h
  split at h
  · cases h
  · rename_i L1 st1 M1 c s hS
    split at h
    · rename_i x Mf c1 s1 hev
      simp only [Bool.and_eq_true, Nat.ble_eq, beq_iff_eq] at h
      obtain ⟨⟨h1, h2⟩, h3⟩ := h
      subst h1
      exact ⟨2000 + 2000, Mf, c + c1, s + s1, sg_pre_ev (t1 := sg_tab L (sg_vs ps) kx) sg_sub0 _ _ _ _ _ _ _ _ _ _ _ _ _ _ _ hS hev, h2, h3⟩
    · cases h
theorem sg_and63 (x : Int32) : ∃ k : Nat, k < 64 ∧ x &&& 63 = Int32.ofNat k := by
  refine ⟨(x &&& 63).toUInt32.toNat, ?_, ?_⟩
  · have e : (x &&& 63).toUInt32.toNat = x.toUInt32.toNat &&& 63 := by
      show (x.toUInt32 &&& 63).toNat = _
      rw [UInt32.toNat_and]
      rfl
    rw [e]
    exact Nat.lt_of_le_of_lt Nat.and_le_right (by decide)
  · generalize x &&& 63 = y
    show y = (UInt32.ofNat y.toUInt32.toNat).toInt32
    rw [UInt32.ofNat_toNat]
    rfl
/-- each script has its run -/
theorem sg_all {L : Nat} (hL : L ≤ 5) (xs : Nat → Int32) : ∃ (ps : List Nat) (kx : Int32), (∀ j, j < L → sg_mt (ps.getD j 0) (xs j)) ∧ xs 0 &&& 63 = kx ∧ sg_rn sg_S0 L ps kx = true := by
  obtain ⟨k, hk, hkx⟩ := sg_and63 (xs 0)
  have h0 : ∀ x : Int32, sg_mt 0 x := fun x => by
    have hlo := Int32.le_toInt x
    have hhi := Int32.toInt_lt x
    show -2147483648 ≤ x.toInt ∧ x.toInt ≤ 2147483647
    omega
  by_cases h5 : L = 5
  · subst h5
    obtain ⟨p1, m1, q1⟩ := sg_part_ok ((sg_ops k).getD 0 0) (xs 1)
    obtain ⟨p2, m2, q2⟩ := sg_part_ok ((sg_ops k).getD 1 0) (xs 2)
    obtain ⟨p3, m3, q3⟩ := sg_part_ok ((sg_ops k).getD 2 0) (xs 3)
    obtain ⟨p4, m4, q4⟩ := sg_part_ok ((sg_ops k).getD 3 0) (xs 4)
    refine ⟨[0, p1, p2, p3, p4], Int32.ofNat k, fun j hj => ?_, hkx, ?_⟩
    · match j, hj with
      | 0, _ => exact h0 _
      | 1, _ => exact q1
      | 2, _ => exact q2
      | 3, _ => exact q3
      | 4, _ => exact q4
      | j + 5, hz => exact absurd hz (by omega)
    · have h := sg_cases5 hk
      unfold sg_chk at h
      exact List.all_eq_true.mp (List.all_eq_true.mp (List.all_eq_true.mp (List.all_eq_true.mp h p1 m1) p2 m2) p3 m3) p4 m4
  · refine ⟨[], Int32.ofNat k, fun j _ => by rw [List.getD_nil]; exact h0 _, hkx, ?_⟩
    have h := List.all_eq_true.mp sg_gs k (List.mem_range.mpr hk)
    unfold sg_chs at h
    exact List.all_eq_true.mp h L (List.mem_range.mpr (by omega))
theorem sg_arrT {s : State} {cA comp : ClassId} {k : Class} {ty : FieldType} (h1 : s.vm.classes[cA]? = some k) (h2 : k.kind = .array comp ty) : ArrOfT s cA ty := fun N z => ⟨(fun q h => by cases h), k, h1, comp, h2⟩
set_option maxHeartbeats 2000000 in
/-- what holds of the world at the start -/
theorem sg_ctx {s : State} {b0 L : Nat} {xs : Nat → Int32} (hts : ∀ w ∈ lw_tbl, w.before #[Value.ref b0] s = true) (hX : va_X b0 L xs s s.heap) (hbl : b0 < s.heap.size) (hgv : (Jvm.Cond.and given_1 narrow_1).before #[Value.ref b0] s = true) :
    ∃ (D : va_G) (tys : List (ClassId × FieldType)) (e0 : Nat), sg_HT tys ∧ sg_Cx D sg_cl tys s.heap.size (sg_b b0 e0 xs) L xs sg_Sx sg_Ax s s.heap ∧ ∀ z ∈ sg_Nx, va_Nc z.1 z.2 s := by
  have hs := flat_of_before _ hgv
  have hTw : ∀ w ∈ sg_Tw, w.before #[Value.ref b0] s = true := fun w hw => hts w (List.mem_filter.mp hw).1
  have hA : ∀ a : Nat, a < s.heap.size → ¬ sg_A s.heap.size a := fun a h => Nat.not_le.mpr h
  obtain ⟨c0, i0, kn0⟩ := u_known (C := RX0) (T := TX0) (N := 6) (n := 6) hTw sg_in0 (hts (.instantiable RX0 6) (by decide +kernel))
  obtain ⟨c1, i1, kn1⟩ := u_known (C := RX1) (T := TX1) (N := 4) (n := 4) hTw sg_in1 (hts (.instantiable RX1 4) (by decide +kernel))
  obtain ⟨c2, i2, kn2⟩ := u_known (C := RX2) (T := TX2) (N := 4) (n := 4) hTw sg_in2 (hts (.instantiable RX2 4) (by decide +kernel))
  obtain ⟨c3, i3, kn3⟩ := u_known (C := RX3) (T := TX3) (N := 14) (n := 14) hTw sg_in3 (hts (.instantiable RX3 14) (by decide +kernel))
  obtain ⟨c4, i4, kn4⟩ := u_known (C := RX4) (T := TX4) (N := 2) (n := 2) hTw sg_in4 (hts (.instantiable RX4 2) (by decide +kernel))
  obtain ⟨c5, i5, kn5⟩ := u_known (C := RX5) (T := TX5) (N := 12) (n := 12) hTw sg_in5 (hts (.instantiable RX5 12) (by decide +kernel))
  obtain ⟨c6, i6, kn6⟩ := u_known (C := RX6) (T := TX6) (N := 30) (n := 30) hTw sg_in6 (hts (.instantiable RX6 30) (by decide +kernel))
  obtain ⟨dC, dI, hKc⟩ : ∃ (dC : Nat → ClassId) (dI : Nat → Nat → Nat), ∀ (k : Nat) (q : vw_C), sg_cl[k]? = some q → u_Kn s q.1 q.2.1 q.2.2 (dC k) (dI k) := by
    refine ⟨fun k => if k = 0 then c0 else if k = 1 then c1 else if k = 2 then c2 else if k = 3 then c3 else if k = 4 then c4 else if k = 5 then c5 else c6, fun k => if k = 0 then i0 else if k = 1 then i1 else if k = 2 then i2 else if k = 3 then i3 else if k = 4 then i4 else if k = 5 then i5 else i6, ?_⟩
    intro k q hq
    match k, hq with
    | 0, hq => cases hq; exact kn0
    | 1, hq => cases hq; exact kn1
    | 2, hq => cases hq; exact kn2
    | 3, hq => cases hq; exact kn3
    | 4, hq => cases hq; exact kn4
    | 5, hq => cases hq; exact kn5
    | 6, hq => cases hq; exact kn6
    | k + 7, hq => simp [sg_cl] at hq
  have w1 : ∀ w ∈ lw_tbl, w.before #[Value.ref b0] s = true := hts
  obtain ⟨cI, kI, oI, fI, gI, kdI⟩ := Cond.arrayClass_spec (hts (.arrayClass .int) (by decide +kernel))
  obtain ⟨cZ, kZ, oZ, fZ, gZ, kdZ⟩ := Cond.arrayClass_spec (hts (.arrayClass .boolean) (by decide +kernel))
  obtain ⟨cJ, kJ, oJ, fJ, gJ, kdJ⟩ := Cond.arrayClass_spec (hts (.arrayClass .long) (by decide +kernel))
  have hAC := hts (.arrayOver (.object "StrataRepo$Commit")) (by decide +kernel)
  have hAI := hts (.arrayOver (.array .int)) (by decide +kernel)
  have hAII := hts (.arrayOver (.array (.array .int))) (by decide +kernel)
  obtain ⟨oC, cC, kC, fC, iC, gC, kdC, nC⟩ := Cond.arrayOver_spec hAC
  obtain ⟨oA, cA, kA, fA, iA, gA, kdA, nA⟩ := arrayOverA_spec hAI
  obtain ⟨oB, cB, kB, fB, iB, gB, kdB, nB⟩ := arrayOverA_spec hAII
  obtain ⟨e0, cE, cellE, kE, evE, fE, hE, gE, vE, ccE, -⟩ := Cond.exactly_spec (hs (.exactly (.static "StrataRepoModel" "EMPTY" "[I") "[I") (by decide +kernel))
  refine ⟨(dC, dI), [(cI, .int), (cC, .object "StrataRepo$Commit"), (cZ, .boolean), (cJ, .long), (cA, .array .int), (cB, .array (.array .int))], e0, ⟨rfl, rfl, rfl, rfl, rfl, rfl⟩, ⟨⟨hKc, fun k q hq => ?_⟩, hX, hbl, Nat.le_refl _, vx_Zqof (hts _ (by decide +kernel)) (hts _ (by decide +kernel)) (hs _ (by decide +kernel)) hA, vx_Zqof (hts _ (by decide +kernel)) (hts _ (by decide +kernel)) (hs _ (by decide +kernel)) hA, ?_, ?_, ⟨va_Zof (hts _ (by decide +kernel)) (hts _ (by decide +kernel)) evE hA, (Array.getElem?_eq_some_iff.mp hE).1, cellE, hE, vE, by rw [ccE]; exact fE⟩, hAI, hAII⟩, ?_⟩
  · match k, hq with
    | 0, hq => cases hq; exact ⟨sg_arrT gI kdI, fI⟩
    | 1, hq => cases hq; exact ⟨sg_arrT gC kdC, kC, oC, gC, kdC, fC, nC⟩
    | 2, hq => cases hq; exact ⟨sg_arrT gZ kdZ, fZ⟩
    | 3, hq => cases hq; exact ⟨sg_arrT gJ kdJ, fJ⟩
    | 4, hq => cases hq; exact ⟨sg_arrT gA kdA, nA⟩
    | 5, hq => cases hq; exact ⟨sg_arrT gB kdB, nB⟩
    | k + 6, hq => simp at hq
  · refine List.forall_mem_cons.mpr ⟨?_, List.forall_mem_cons.mpr ⟨?_, List.forall_mem_cons.mpr ⟨?_, List.forall_mem_cons.mpr ⟨?_, List.forall_mem_cons.mpr ⟨?_, List.forall_mem_cons.mpr ⟨?_, List.forall_mem_cons.mpr ⟨?_, List.forall_mem_cons.mpr ⟨?_, List.forall_mem_cons.mpr ⟨?_, List.forall_mem_cons.mpr ⟨?_, List.forall_mem_cons.mpr ⟨?_, List.forall_mem_cons.mpr ⟨?_, List.forall_mem_cons.mpr ⟨?_, List.forall_mem_cons.mpr ⟨?_, List.forall_mem_cons.mpr ⟨?_, List.forall_mem_cons.mpr ⟨?_, fun _ h => nomatch h⟩⟩⟩⟩⟩⟩⟩⟩⟩⟩⟩⟩⟩⟩⟩⟩
    · obtain ⟨a, -, -, -, ev, -⟩ := Cond.exactly_spec (hs (.exactly (.string "StrataRepo" 100) "java/lang/String") (by decide +kernel))
      exact ⟨a, vk_R.of (hts (.stringRef "StrataRepo" 100 "the file is not there") (by decide +kernel)) ev⟩
    · obtain ⟨a, -, -, -, ev, -⟩ := Cond.exactly_spec (hs (.exactly (.string "StrataRepo" 108) "java/lang/String") (by decide +kernel))
      exact ⟨a, vk_R.of (hts (.stringRef "StrataRepo" 108 "the line cannot be put there") (by decide +kernel)) ev⟩
    · obtain ⟨a, -, -, -, ev, -⟩ := Cond.exactly_spec (hs (.exactly (.string "StrataRepo" 150) "java/lang/String") (by decide +kernel))
      exact ⟨a, vk_R.of (hts (.stringRef "StrataRepo" 150 "the desk is clean") (by decide +kernel)) ev⟩
    · obtain ⟨a, -, -, -, ev, -⟩ := Cond.exactly_spec (hs (.exactly (.string "StrataRepo" 161) "java/lang/String") (by decide +kernel))
      exact ⟨a, vk_R.of (hts (.stringRef "StrataRepo" 161 "a branch is 0 to 7") (by decide +kernel)) ev⟩
    · obtain ⟨a, -, -, -, ev, -⟩ := Cond.exactly_spec (hs (.exactly (.string "StrataRepo" 167) "java/lang/String") (by decide +kernel))
      exact ⟨a, vk_R.of (hts (.stringRef "StrataRepo" 167 "the branch cannot be made") (by decide +kernel)) ev⟩
    · obtain ⟨a, -, -, -, ev, -⟩ := Cond.exactly_spec (hs (.exactly (.string "StrataRepo" 177) "java/lang/String") (by decide +kernel))
      exact ⟨a, vk_R.of (hts (.stringRef "StrataRepo" 177 "the branch is the head") (by decide +kernel)) ev⟩
    · obtain ⟨a, -, -, -, ev, -⟩ := Cond.exactly_spec (hs (.exactly (.string "StrataRepo" 340) "java/lang/String") (by decide +kernel))
      exact ⟨a, vk_R.of (hts (.stringRef "StrataRepo" 340 "there is nothing to be tried") (by decide +kernel)) ev⟩
    · obtain ⟨a, -, -, -, ev, -⟩ := Cond.exactly_spec (hs (.exactly (.string "StrataRepo" 407) "java/lang/String") (by decide +kernel))
      exact ⟨a, vk_R.of (hts (.stringRef "StrataRepo" 407 "a file is 0 to 7") (by decide +kernel)) ev⟩
    · obtain ⟨a, -, -, -, ev, -⟩ := Cond.exactly_spec (hs (.exactly (.string "StrataRepo" 410) "java/lang/String") (by decide +kernel))
      exact ⟨a, vk_R.of (hts (.stringRef "StrataRepo" 410 "a line or a word is 0 to 999") (by decide +kernel)) ev⟩
    · obtain ⟨a, -, -, -, ev, -⟩ := Cond.exactly_spec (hs (.exactly (.string "StrataRepo" 412) "java/lang/String") (by decide +kernel))
      exact ⟨a, vk_R.of (hts (.stringRef "StrataRepo" 412 "there is no such place") (by decide +kernel)) ev⟩
    · obtain ⟨a, -, -, -, ev, -⟩ := Cond.exactly_spec (hs (.exactly (.string "StrataRepo" 416) "java/lang/String") (by decide +kernel))
      exact ⟨a, vk_R.of (hts (.stringRef "StrataRepo" 416 "the desk has no such place") (by decide +kernel)) ev⟩
    · obtain ⟨a, -, -, -, ev, -⟩ := Cond.exactly_spec (hs (.exactly (.string "StrataRepo" 418) "java/lang/String") (by decide +kernel))
      exact ⟨a, vk_R.of (hts (.stringRef "StrataRepo" 418 "there is no such commit") (by decide +kernel)) ev⟩
    · obtain ⟨a, -, -, -, ev, -⟩ := Cond.exactly_spec (hs (.exactly (.string "StrataRepo" 420) "java/lang/String") (by decide +kernel))
      exact ⟨a, vk_R.of (hts (.stringRef "StrataRepo" 420 "there is no such branch") (by decide +kernel)) ev⟩
    · obtain ⟨a, -, -, -, ev, -⟩ := Cond.exactly_spec (hs (.exactly (.string "StrataRepo" 422) "java/lang/String") (by decide +kernel))
      exact ⟨a, vk_R.of (hts (.stringRef "StrataRepo" 422 "there is no such conflict") (by decide +kernel)) ev⟩
    · obtain ⟨a, -, -, -, ev, -⟩ := Cond.exactly_spec (hs (.exactly (.string "StrataRepo" 426) "java/lang/String") (by decide +kernel))
      exact ⟨a, vk_R.of (hts (.stringRef "StrataRepo" 426 "no work is pending") (by decide +kernel)) ev⟩
    · obtain ⟨a, -, -, -, ev, -⟩ := Cond.exactly_spec (hs (.exactly (.string "StrataRepo" 430) "java/lang/String") (by decide +kernel))
      exact ⟨a, vk_R.of (hts (.stringRef "StrataRepo" 430 "the head is at no commit, or the desk is not clean") (by decide +kernel)) ev⟩
  · exact List.forall_mem_cons.mpr ⟨va_AO.of hAC, fun _ h => nomatch h⟩
  · refine List.forall_mem_cons.mpr ⟨va_Nc.of (hs (.not (.castable "java/lang/IllegalStateException" "java/lang/IndexOutOfBoundsException")) (by decide +kernel)), List.forall_mem_cons.mpr ⟨va_Nc.of (hs (.not (.castable "java/lang/IllegalArgumentException" "java/lang/IndexOutOfBoundsException")) (by decide +kernel)), List.forall_mem_cons.mpr ⟨va_Nc.of (hs (.not (.castable "java/lang/IllegalStateException" "java/lang/IllegalArgumentException")) (by decide +kernel)), List.forall_mem_cons.mpr ⟨va_Nc.of (hs (.not (.castable "java/lang/IndexOutOfBoundsException" "java/lang/IllegalStateException")) (by decide +kernel)), List.forall_mem_cons.mpr ⟨va_Nc.of (hs (.not (.castable "java/lang/IllegalArgumentException" "java/lang/IllegalStateException")) (by decide +kernel)), fun _ h => nomatch h⟩⟩⟩⟩⟩
/-- from the entry, for every script of at most 5 ints, the law comes to its end with true -/
theorem whole_start {p : Program} {e : Env} {s : State} {m : MethodId} {below : List Frame} {meth : Method} {c : Code} (l : Launch) (hflags : l.flags = flags0) {b L : Nat} {xs : Nat → Int32} (hL : L ≤ 5) (C0 : lw_At p s m meth c b L xs) : W p l e room_1 s m #[Value.ref b] below meth c s.heap [] 0 0 (lw_Z below #[Value.ref b] s) (entryFrame m ([Value.ref b] : List Value).toArray 9) := by
  obtain ⟨hx, hb, hr, hml, hown, hts, hX, hbl, hlocks, hgv, hnm, htb⟩ := C0
  obtain ⟨D, tys, e0, hT, hC, hNx⟩ := sg_ctx hts hX hbl hgv
  obtain ⟨ps, kx, hmt, hkx, hrn⟩ := sg_all hL xs
  obtain ⟨n, Mf, c1, s1, hev, hc1, hs1⟩ := sg_rn_ev hrn
  have hst : l.stackTraces = false := by
    unfold Launch.stackTraces
    rw [hflags]
    decide
  have hF : sg_Fr sg_Pg sg_Tw sg_KL p l room_1 s m #[Value.ref b] meth c := ⟨hx, hb, hml, hown, fun w hw => hts w (List.mem_filter.mp hw).1, hr, hlocks, rfl, rfl, hnm, hst, htb⟩
  have hvs : ∀ j, j < L → sg_v (sg_b b e0 xs) (sg_vs ps j) = .int (xs j) ∧ sg_wV sg_pn (sg_vs ps j) := fun j hj => sg_pv_ok (by omega) (hmt j hj)
  have hk16 : sg_iv (sg_b b e0 xs 16) &&& 63 = kx := by
    have e : sg_iv (sg_b b e0 xs 16) = xs 0 := by
      rw [sg_b_big (by decide)]
      have hlo := Int32.le_toInt (xs 0)
      have hhi := Int32.toInt_lt (xs 0)
      exact if_pos (by show -2147483648 ≤ (xs 0).toInt ∧ (xs 0).toInt ≤ 2147483647; omega)
    rw [e]
    exact hkx
  have hok := fun k pc => sg_hok (D := D) (tys := tys) (B := s.heap.size) hT sg_b_sy hvs hk16 k pc
  have hcon := sg_sound (l := l) hok sg_hhd (fun k pc f _ => sg_pln k) hst
  have hl := lv_entry ([.ref b]) (n := 9) (Nat.le_of_ble_eq_true rfl)
  rw [lg_entry_eq]
  generalize (lg_sl ([.ref b]) ++ List.replicate (9 - (lg_sl ([.ref b])).length) Slot.unset).toArray = ls at hl ⊢
  have hl : lv_has ls 9 ([(0, Value.ref 0)].map (fun q => (q.1, sg_v (sg_b b e0 xs) q.2))) := hl
  have hI : sg_I D sg_cl tys s.heap.size (sg_b b e0 xs) (sg_b b e0 xs) sg_M0 s.heap := ⟨fun a e h => (by cases h), fun a a' e e' h => (by cases h), fun _ _ => rfl, Nat.le_refl _, fun _ _ => rfl⟩
  refine sg_run (Q := lw_Z below #[Value.ref b] s) (R := room_1) (mc := 600002) (ms := 7302232) (r := .inl (some (.int 1))) (Mf := Mf) (μ0 := sg_b b e0 xs) (n0 := 128) hok sg_hhd n (fun i _ => hcon i) hF hC hNx (Nat.le_refl _) (Nat.le_refl _) ⟨fun pc f L1 st μ H locs ls1 cells slots v hf hfe hrv hJ hX1 hn0 h1 h2 => ?_, fun pc f L1 st μ H locs ls1 cells slots E hf hfe hrv => (by cases hrv), fun pc rest μ H locs ls1 cells slots E ce q hhn hrv => (by cases hrv)⟩ n (Nat.le_refl _) 0 [(0, .ref 0)] [] sg_M0 c1 s1 hev (sg_b b e0 xs) s.heap [] 0 0 ls ⟨hI, ?_, fun _ h => (nomatch h), hl, va_S.rf⟩ sg_X.rf (Nat.le_refl _) (by omega) (by omega)
  · cases hrv
    refine va_forget (fun q hq => hJ.2.2.2.2.2.2 q hq) (W.widen h1 h2 ?_)
    have hr9 := hok sg_KL pc f hf p l e room_1 s m #[Value.ref b] below meth c hF hC L1 st Mf μ H [] 600002 7302232 ls1 ⟨hJ.1, hJ.2.1, hJ.2.2.1, hJ.2.2.2.1, hJ.2.2.2.2.1, hJ.2.2.2.2.2.1, fun _ h => (nomatch h)⟩
    rw [hfe] at hr9
    have hw := hr9.2 (fun _ _ o _ => o = .returned (some (.int 1))) (fun _ _ _ => False) (fun _ => False) (fun t ht hW => rfl) (fun q h => nomatch h)
    intro T hT9 X
    obtain ⟨t, a1, o, d1, d2, d3⟩ := hw T hT9 X
    refine ⟨t, a1, o, d1, d2, ?_⟩
    rcases d3 with ⟨d4, L9, d5, d6⟩ | ⟨q, d4, d5⟩
    · have hL9 : L9 = [] := by
        cases L9 with
        | nil => rfl
        | cons z zs => exact (d6 z List.mem_cons_self).elim
      subst hL9
      exact ⟨d4, lw_closed (d0 := s.drawn) (Drawn.sameBut.refl s.drawn lw_cs) d5.1 d5.2.1 d5.2.2⟩
    · obtain ⟨E, ce, L9, z1, -⟩ := d5
      exact z1.elim
  · exact List.forall_mem_cons.mpr ⟨fun a e => by rcases e with e | e <;> cases e; decide, fun _ h => nomatch h⟩
-- ===== YOUR PART ENDS =====
set_option maxHeartbeats 4000000 in
theorem lw_walk (l : Launch) (hflags : l.flags = flags0) (b : Addr) (xs : List Int32) : MetFree l x (headSpec (Jvm.Cond.code x code maxLocals ret :: tables_1) room_1) (lw_P b xs) (fun _ _ _ _ _ => True) lw_Q := by
  refine MetFree.of_bodyS (code := code) (maxLocals := maxLocals) (ret := ret) (by decide) ?_ ?_
  · intro args s m h hn
    obtain ⟨meth, c, h1, h2, h3, h4, h5, h6, -, -⟩ := Cond.code_spec hn (atoms_spec (ws := Jvm.Cond.code x code maxLocals ret :: tables_1) h _ List.mem_cons_self)
    exact ⟨meth, c, h1, h2, h3, h4, h5, h6⟩
  · intro p e s m args below meth c s₁ B hml0 hP _
    obtain ⟨rfl, hx, hbd, hgv⟩ := hP
    obtain ⟨scr, harrAt, hlist, hof, hsmall⟩ := hx
    obtain ⟨hcb, hkn, -, -⟩ := State.arrayAt?_spec harrAt
    have hown : s.vm.findClass R_law = some m.cls := findClass_of_methodNamed B.named
    have hts0 : ∀ c ∈ (Jvm.Cond.code x code maxLocals ret :: tables_1), c.before #[Value.ref b] s = true := atoms_spec (ws := Jvm.Cond.code x code maxLocals ret :: tables_1) B.pre
    have hts : ∀ w ∈ lw_tbl, w.before #[Value.ref b] s = true := k2_hts_sels lw_privs (fun w hw => hts0 w (List.mem_cons_of_mem _ hw)) lw_privs_ok
    have hml : c.maxLocals = 9 := B.maxLocals_eq (hts0 _ List.mem_cons_self)
    have X₀ : Stand p l e room_1 s m #[Value.ref b] below meth c s₁ [] 0 0 := Stand.of_body B
    have hh0 : s₁.heap = s.heap := by rw [B.state]; rfl
    have htb : c.exceptionTable.toList = [] := by
      obtain ⟨meth9, c9, h1, h2, -, -, -, -, h6, -⟩ := Cond.code_spec B.named (hts0 _ List.mem_cons_self)
      cases Option.some.inj (h1.symm.trans B.method)
      cases Option.some.inj (h2.symm.trans (Stand.of_body B).code)
      simpa using h6
    have hsz : scr.slots.size = xs.length := by rw [← Array.length_toList, hlist, List.length_map]
    have hval : ∀ j : Nat, j < xs.length → scr.slots[j]? = some (.int (xs.getD j 0)) := fun j hj => by
      rw [← Array.getElem?_toList, hlist]
      simp [hj]
    have hbl : b < s.heap.size := (Array.getElem?_eq_some_iff.mp hcb).1
    have hX : va_X b xs.length (fun j => xs.getD j 0) s s.heap := ⟨scr, hcb, hof, hkn, hsz, hval⟩
    have K : W p l e room_1 s m #[Value.ref b] below meth c s₁.heap [] 0 0 (lw_Z below #[Value.ref b] s) (entryFrame m ([Value.ref b] : List Value).toArray 9) := by
      rw [hh0]
      exact whole_start l hflags hbd ⟨B.exec, B.bytes, B.returns, hml, hown, hts, hX, hbl, B.notSynchronized, hgv, (name_of_methodNamed B.named B.method).1, htb⟩
    obtain ⟨t, a1, o, b1, b2, b3⟩ := K s₁ rfl X₀
    exact ⟨t, o, a1, b1, b2, b3⟩
theorem lw_pre_spec {args : Array Value} {s : State} (h : (Jvm.Cond.and given_1 narrow_1).before args s = true) (hr : rest_1_c.before args s = true) : ∃ (b : Addr) (xs : List Int32), lw_P b xs args s := by
  have hs := flat_of_before _ h
  have hq := flat_of_before _ hr
  have hc : (Cond.count 1).before args s = true := hs _ (by decide +kernel)
  have harr : (Cond.arrayOf (.arg 0) .int).before args s = true := hs _ (by decide +kernel)
  have hle : (Cond.le (.length (.arg 0)) (.int 5)).before args s = true := hs _ (by decide +kernel)
  have hlen : (Cond.isInt (.length (.arg 0))).before args s = true := hq _ (by decide +kernel)
  have hall : (Cond.all (.arg 0) (.isInt (.elem (.arg 0) (.index 0)))).before args s = true := hq _ (by decide +kernel)
  obtain ⟨b, xs, hb, hx⟩ := State.ints_of_pre rfl harr hlen hall
  have hsm : xs.length < 2 ^ 31 := hx.choose_spec.2.2.2
  have hev : (Term.length (.arg 0)).eval args s none [] s = some (.int xs.length.toInt32) := hx.length_eval hb
  have hv := Cond.le_ints hev (show (Term.int 5).eval args s none [] s = some (.int 5) from rfl)
  have hd : xs.length.toInt32 ≤ 5 := by
    simpa [Cond.before, Cond.holds, hv] using hle
  have hN : xs.length ≤ 5 := (Int32.ofNat_le_ofNat hsm (by decide)).mp (show Int32.ofNat xs.length ≤ Int32.ofNat 5 from hd)
  exact ⟨b, xs, Cond.one_arg hc (show args[0]? = some (.ref b) from hb), hx, hN, h⟩
theorem lw_comes (l : Launch) (hflags : l.flags = flags0) : Comes l x (Jvm.Cond.code x code maxLocals ret :: tables_1) room_1 (fun tb e args s => Calls_1 tb e args s ∧ rest_1 tb e args s ∧ Pre_1 tb e args s)
    (fun _ _ args s o t => lw_Q args s o t) := by
  intro p e ha hc hk s m args below hf hfit hheap happ hpre
  obtain ⟨b, xs, hP⟩ := lw_pre_spec hpre.2.2 hpre.2.1
  obtain ⟨k, o, h1, h2, h3, hQ⟩ := lw_walk l hflags b xs p e ha hc hk s m args below hf ((Spec.applies_iff_loose hf).mp happ).1 hP trivial
  exact ⟨k, o, h1, h2, h3, hQ⟩
theorem lw_frame {s t : State} {o : Outcome} {args : Array Value} (h : State.butDraws s t lw_cs (fun t1 => Framed s o t1 [] 600002 7302232)) :
    State.butDraws s t [Jvm.Choice.named "NaN.bits"] (fun t1 => Framed s o t1 (fieldLocs frame_1_writes args s ++ arrayLocs frame_1_arrays args s ++ staticLocs frame_1_statics s) 600002 7302232) := h
theorem lw_limb (L : Cond) (hL : ∀ (args : Array Value) (s t : State), L.after args s (.returned (some (.int 1))) t = true) :
    ArmFor flags0 classFile x code maxLocals ret World_1 tables_1 room_1 Calls_1 rest_1 Pre_1
      (fun tb e a s o t => postC L tb e a s o t ∧ State.butDraws s t [Jvm.Choice.named "NaN.bits"] (fun t1 => Framed s o t1 (fieldLocs frame_1_writes a s ++ arrayLocs frame_1_arrays a s ++ staticLocs frame_1_statics s) 600002 7302232)) := by
  intro l hflags _ _ p e ha hc hk s m args below hf hfit hheap happ hpre
  obtain ⟨k, o, h1, h2, h3, rfl, hF⟩ := lw_comes l hflags p e ha hc hk s m args below hf hfit hheap happ hpre
  exact ⟨k, _, h1, h2, h3, hL args s _, lw_frame hF⟩
theorem i_vc : Claimed_1_1 ∧ Claimed_1_2 := ⟨lw_limb limb_1_1 (fun args s t => by simp [limb_1_1, Cond.after, Cond.holds, Cond.value]), lw_limb limb_1_2 (fun args s t => Cond.after_iff.mpr (by
  first | (rw [show limb_1_2 = Cond.eq .result (.int 1) from rfl, Cond.eq_ints (x := 1) (y := 1) rfl rfl]; simp; done) | (simp [limb_1_2, Cond.value, Term.eval]; done)))⟩
