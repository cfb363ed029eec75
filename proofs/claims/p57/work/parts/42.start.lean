/-! THE CLAIM OUT OF ONE WALK OF THE LAW'S BODY. Your part is whole_start (and what it stands on); all else here is the same for every law, but numbers. -/
def R_law : String := "StrataRepoLaw"
def lw_P (b : Addr) (xs : List Int32) (args : Array Value) (s : State) : Prop := args = #[.ref b] ∧ s.IntsAt b xs ∧ xs.length ≤ 260 ∧ (Jvm.Cond.and given_1 narrow_1).before args s = true
def lw_Q (_ : Array Value) (s : State) (o : Outcome) (t : State) : Prop := o = .returned (some (.int 1)) ∧ Framed s o t [] 600104 7301314
def lw_Z (below : List Frame) (a : Array Value) (s : State) : State → Prop := fun t => ∃ o, t.status = .running ∧ Ended t below o ∧ lw_Q a s o t
/-- the law's own end, with 1 on the stack, nothing written that was there before, its room as the claim has it -/
theorem lw_ret {p : Program} {l : Launch} {e : Env} {s : State} {m : MethodId} {below : List Frame} {meth : Method} {c : Code} {b : Nat} (hx : p.tables.exec = Jvm.exec) (hb : c.code = code) (hr : meth.sig.returnType = ret) (hlocks : meth.locks = false) {pc : Nat} {H : Heap} {ls : Array Slot} (hdg : decode code pc = .ok (.ireturn, 1)) : W p l e room_1 s m #[Value.ref b] below meth c H [] 600104 7301314 (lw_Z below #[Value.ref b] s) (F0 m pc ls [.int 1]) := by
  intro T hT X
  obtain ⟨fs, hret, hrun, hended, hW, hframe⟩ := X.leave (v := some (.int 1)) (hlocks := hlocks) (fun h => by rw [hr] at h; cases h)
  have hmeth' : T.vm.method? m = some meth := X.method'
  refine ⟨T.setFrames fs, ?_, .returned (some (.int 1)), hrun, hended, rfl, ⟨_, rfl⟩, hW, hframe⟩
  jvm_step X.here [X.here.top, hx, hb, hdg, hmeth', hr, ret, narrow_b1]
  (try refine ⟨rfl, ?_⟩); (try refine ⟨rfl, ?_⟩)
  first | (intro acts; rw [hret _ acts rfl rfl rfl]) | rw [hret _ _ rfl rfl rfl]
  exact Steps.refl _
/-- what holds at the law's entry: the machine, the code, the tables' words (any of lw_tbl by 'hts w (by decide +kernel)'), the script of L ints xs at the cell b, what the Statement gives of the start (any of its parts by flat_of_before) -/
def lw_At (p : Program) (s : State) (m : MethodId) (meth : Method) (c : Code) (b L : Nat) (xs : Nat → Int32) : Prop :=
  p.tables.exec = Jvm.exec ∧ c.code = code ∧ meth.sig.returnType = ret ∧ c.maxLocals = 5 ∧ s.vm.findClass R_law = some m.cls ∧ (∀ w ∈ lw_tbl, w.before #[Value.ref b] s = true) ∧ va_X b L xs s s.heap ∧ b < s.heap.size ∧ meth.locks = false ∧ (Jvm.Cond.and given_1 narrow_1).before #[Value.ref b] s = true ∧ meth.name = "law" ∧ c.exceptionTable.toList = []
-- ===== YOUR PART BEGINS =====
def sg_M0 : sg_M := (fun _ => none, 128)
theorem iv_0 {M : sg_M} (h : rt_is M rt_R0 0 0 (fun _ => hs_N) rt_T0 (tr_cl (fun _ => 0)) (fun _ => 0) mg_G0) : iv M 0 := by
  refine ⟨rt_R0, 0, fun _ => hs_N, rt_T0, tr_cl (fun _ => 0), fun _ => 0, mg_G0, h, fun b hb => ?_, ⟨fun j _ hj => bt_0 hj, ⟨fun _ => 0, fun i hi => absurd hi (Nat.not_lt_zero i)⟩, fun i hi => absurd hi (Nat.not_lt_zero i)⟩, ⟨by decide, by decide⟩, tr_cl_ti, ⟨Nat.zero_le _, Nat.zero_le _, tr_cl_ti⟩, Nat.zero_le _, Or.inl rfl, fun z => absurd rfl z⟩
  show (if b = 0 then (-1 : Int32) else if b < 8 then -2 else 0) = -2 ∨ kt_is 0 0 (if b = 0 then (-1 : Int32) else if b < 8 then -2 else 0)
  by_cases z : b = 0
  · rw [if_pos z]
    exact Or.inr (Or.inl rfl)
  · rw [if_neg z, if_pos hb]
    exact Or.inl rfl
/-- the law comes to its end with 1, on every script -/
theorem lw_all {Ls : Nat} {xs : Nat → Int32} (hL : Ls < 2 ^ 31) : wpm Ls xs 144 [.ref 0] sg_M0 (fun r M c s => r = .inl (some (.int 1)) ∧ c ≤ 600104 ∧ s ≤ 7301314) := by
  refine iw_new (N := 128) rfl rfl (fun M1 a1 z1 g1 => ?_)
  refine sg_wr 1 rfl ?_
  refine sg_r_callI rfl rfl rfl rfl (Nat.le_of_ble_eq_true rfl) (Nat.le_of_ble_eq_true rfl) (rt_it0 a1 z1) ?_
  rintro _ M2 _ _ ⟨rfl, h2, rfl, rfl⟩
  refine sg_aft_c ?_
  refine sg_wr 3 rfl ?_
  refine (lw_loop hL 100 0 M2 0 [] rfl (by decide) (iv_0 h2) (Or.inl rfl)).mono ?_
  rintro r M c s ⟨rfl, e1, e2⟩
  exact ⟨rfl, by omega, by omega⟩
theorem sg_arrT {s : State} {cA comp : ClassId} {k : Class} {ty : FieldType} (h1 : s.vm.classes[cA]? = some k) (h2 : k.kind = .array comp ty) : ArrOfT s cA ty := fun N z => ⟨(fun q h => by cases h), k, h1, comp, h2⟩
set_option maxHeartbeats 2000000 in
/-- what holds of the world at the start -/
theorem sg_ctx {s : State} {b0 L : Nat} {xs : Nat → Int32} (hts : ∀ w ∈ lw_tbl, w.before #[Value.ref b0] s = true) (hX : va_X b0 L xs s s.heap) (hbl : b0 < s.heap.size) (hgv : (Jvm.Cond.and given_1 narrow_1).before #[Value.ref b0] s = true) :
    ∃ (D : va_G) (tys : List (ClassId × FieldType)), sg_ty0 tys ∧ sg_ty1 tys ∧ sg_Cx D sg_cl tys s.heap.size b0 L xs sg_Sx sg_Ax s s.heap ∧ ∀ z ∈ sg_Nx, va_Nc z.1 z.2 s := by
  have hs := flat_of_before _ hgv
  have hTw : ∀ w ∈ sg_Tw, w.before #[Value.ref b0] s = true := fun w hw => hts w (List.mem_filter.mp hw).1
  have hA : ∀ a : Nat, a < s.heap.size → ¬ sg_A s.heap.size a := fun a h => Nat.not_le.mpr h
  obtain ⟨c0, i0, kn0⟩ := u_known (C := RX0) (T := TX0) (N := 6) (n := 6) hTw sg_in0 (hts (.instantiable RX0 6) (by decide +kernel))
  obtain ⟨c1, i1, kn1⟩ := u_known (C := RX1) (T := TX1) (N := 4) (n := 4) hTw sg_in1 (hts (.instantiable RX1 4) (by decide +kernel))
  obtain ⟨c2, i2, kn2⟩ := u_known (C := RX2) (T := TX2) (N := 4) (n := 4) hTw sg_in2 (hts (.instantiable RX2 4) (by decide +kernel))
  obtain ⟨c3, i3, kn3⟩ := u_known (C := RX3) (T := TX3) (N := 14) (n := 14) hTw sg_in3 (hts (.instantiable RX3 14) (by decide +kernel))
  obtain ⟨c4, i4, kn4⟩ := u_known (C := RX4) (T := TX4) (N := 2) (n := 2) hTw sg_in4 (hts (.instantiable RX4 2) (by decide +kernel))
  obtain ⟨c5, i5, kn5⟩ := u_known (C := RX5) (T := TX5) (N := 12) (n := 12) hTw sg_in5 (hts (.instantiable RX5 12) (by decide +kernel))
  obtain ⟨dC, dI, hKc⟩ : ∃ (dC : Nat → ClassId) (dI : Nat → Nat → Nat), ∀ (k : Nat) (q : vw_C), sg_cl[k]? = some q → u_Kn s q.1 q.2.1 q.2.2 (dC k) (dI k) := by
    refine ⟨fun k => if k = 0 then c0 else if k = 1 then c1 else if k = 2 then c2 else if k = 3 then c3 else if k = 4 then c4 else c5, fun k => if k = 0 then i0 else if k = 1 then i1 else if k = 2 then i2 else if k = 3 then i3 else if k = 4 then i4 else i5, ?_⟩
    intro k q hq
    match k, hq with
    | 0, hq => cases hq; exact kn0
    | 1, hq => cases hq; exact kn1
    | 2, hq => cases hq; exact kn2
    | 3, hq => cases hq; exact kn3
    | 4, hq => cases hq; exact kn4
    | 5, hq => cases hq; exact kn5
    | k + 6, hq => simp [sg_cl] at hq
  obtain ⟨cI, kI, oI, fI, gI, kdI⟩ := Cond.arrayClass_spec (hts (.arrayClass .int) (by decide +kernel))
  have hAC := hts (.arrayOver (.object "StrataRepo$Commit")) (by decide +kernel)
  obtain ⟨oC, cC, kC, fC, iC, gC, kdC, nC⟩ := Cond.arrayOver_spec hAC
  refine ⟨(dC, dI), [(cI, .int), (cC, .object "StrataRepo$Commit")], rfl, rfl, ⟨⟨hKc, fun k q hq => ?_⟩, hX, hbl, Nat.le_refl _, vx_Zqof (hts _ (by decide +kernel)) (hts _ (by decide +kernel)) (hs _ (by decide +kernel)) hA, vx_Zqof (hts _ (by decide +kernel)) (hts _ (by decide +kernel)) (hs _ (by decide +kernel)) hA, ?_, ?_⟩, ?_⟩
  · match k, hq with
    | 0, hq => cases hq; exact ⟨sg_arrT gI kdI, fI⟩
    | 1, hq => cases hq; exact ⟨sg_arrT gC kdC, kC, oC, gC, kdC, fC, nC⟩
    | k + 2, hq => simp at hq
  · refine List.forall_mem_cons.mpr ⟨?_, List.forall_mem_cons.mpr ⟨?_, List.forall_mem_cons.mpr ⟨?_, List.forall_mem_cons.mpr ⟨?_, List.forall_mem_cons.mpr ⟨?_, List.forall_mem_cons.mpr ⟨?_, List.forall_mem_cons.mpr ⟨?_, List.forall_mem_cons.mpr ⟨?_, List.forall_mem_cons.mpr ⟨?_, List.forall_mem_cons.mpr ⟨?_, List.forall_mem_cons.mpr ⟨?_, List.forall_mem_cons.mpr ⟨?_, List.forall_mem_cons.mpr ⟨?_, List.forall_mem_cons.mpr ⟨?_, List.forall_mem_cons.mpr ⟨?_, List.forall_mem_cons.mpr ⟨?_, List.forall_mem_cons.mpr ⟨?_, List.forall_mem_cons.mpr ⟨?_, List.forall_mem_cons.mpr ⟨?_, List.forall_mem_cons.mpr ⟨?_, List.forall_mem_cons.mpr ⟨?_, List.forall_mem_cons.mpr ⟨?_, List.forall_mem_cons.mpr ⟨?_, List.forall_mem_cons.mpr ⟨?_, List.forall_mem_cons.mpr ⟨?_, fun _ h => nomatch h⟩⟩⟩⟩⟩⟩⟩⟩⟩⟩⟩⟩⟩⟩⟩⟩⟩⟩⟩⟩⟩⟩⟩⟩⟩
    · obtain ⟨a, -, -, -, ev, -⟩ := Cond.exactly_spec (hs (.exactly (.string "StrataRepo" 84) "java/lang/String") (by decide +kernel))
      exact ⟨a, vk_R.of (hts (.stringRef "StrataRepo" 84 "the file is there") (by decide +kernel)) ev⟩
    · obtain ⟨a, -, -, -, ev, -⟩ := Cond.exactly_spec (hs (.exactly (.string "StrataRepo" 100) "java/lang/String") (by decide +kernel))
      exact ⟨a, vk_R.of (hts (.stringRef "StrataRepo" 100 "the file is not there") (by decide +kernel)) ev⟩
    · obtain ⟨a, -, -, -, ev, -⟩ := Cond.exactly_spec (hs (.exactly (.string "StrataRepo" 108) "java/lang/String") (by decide +kernel))
      exact ⟨a, vk_R.of (hts (.stringRef "StrataRepo" 108 "the line cannot be put there") (by decide +kernel)) ev⟩
    · obtain ⟨a, -, -, -, ev, -⟩ := Cond.exactly_spec (hs (.exactly (.string "StrataRepo" 150) "java/lang/String") (by decide +kernel))
      exact ⟨a, vk_R.of (hts (.stringRef "StrataRepo" 150 "the desk is clean") (by decide +kernel)) ev⟩
    · obtain ⟨a, -, -, -, ev, -⟩ := Cond.exactly_spec (hs (.exactly (.string "StrataRepo" 161) "java/lang/String") (by decide +kernel))
      exact ⟨a, vk_R.of (hts (.stringRef "StrataRepo" 161 "a branch is 0 to 7") (by decide +kernel)) ev⟩
    · obtain ⟨a, -, -, -, ev, -⟩ := Cond.exactly_spec (hs (.exactly (.string "StrataRepo" 167) "java/lang/String") (by decide +kernel))
      exact ⟨a, vk_R.of (hts (.stringRef "StrataRepo" 167 "the branch cannot be made") (by decide +kernel)) ev⟩
    · obtain ⟨a, -, -, -, ev, -⟩ := Cond.exactly_spec (hs (.exactly (.string "StrataRepo" 175) "java/lang/String") (by decide +kernel))
      exact ⟨a, vk_R.of (hts (.stringRef "StrataRepo" 175 "the desk is not clean") (by decide +kernel)) ev⟩
    · obtain ⟨a, -, -, -, ev, -⟩ := Cond.exactly_spec (hs (.exactly (.string "StrataRepo" 177) "java/lang/String") (by decide +kernel))
      exact ⟨a, vk_R.of (hts (.stringRef "StrataRepo" 177 "the branch is the head") (by decide +kernel)) ev⟩
    · obtain ⟨a, -, -, -, ev, -⟩ := Cond.exactly_spec (hs (.exactly (.string "StrataRepo" 250) "java/lang/String") (by decide +kernel))
      exact ⟨a, vk_R.of (hts (.stringRef "StrataRepo" 250 "a way is 0 to 3") (by decide +kernel)) ev⟩
    · obtain ⟨a, -, -, -, ev, -⟩ := Cond.exactly_spec (hs (.exactly (.string "StrataRepo" 258) "java/lang/String") (by decide +kernel))
      exact ⟨a, vk_R.of (hts (.stringRef "StrataRepo" 258 "a conflict is not settled") (by decide +kernel)) ev⟩
    · obtain ⟨a, -, -, -, ev, -⟩ := Cond.exactly_spec (hs (.exactly (.string "StrataRepo" 330) "java/lang/String") (by decide +kernel))
      exact ⟨a, vk_R.of (hts (.stringRef "StrataRepo" 330 "the bad commit is an ancestor of the good one") (by decide +kernel)) ev⟩
    · obtain ⟨a, -, -, -, ev, -⟩ := Cond.exactly_spec (hs (.exactly (.string "StrataRepo" 340) "java/lang/String") (by decide +kernel))
      exact ⟨a, vk_R.of (hts (.stringRef "StrataRepo" 340 "there is nothing to be tried") (by decide +kernel)) ev⟩
    · obtain ⟨a, -, -, -, ev, -⟩ := Cond.exactly_spec (hs (.exactly (.string "StrataRepo" 407) "java/lang/String") (by decide +kernel))
      exact ⟨a, vk_R.of (hts (.stringRef "StrataRepo" 407 "a file is 0 to 7") (by decide +kernel)) ev⟩
    · obtain ⟨a, -, -, -, ev, -⟩ := Cond.exactly_spec (hs (.exactly (.string "StrataRepo" 410) "java/lang/String") (by decide +kernel))
      exact ⟨a, vk_R.of (hts (.stringRef "StrataRepo" 410 "a line or a word is 0 to 999") (by decide +kernel)) ev⟩
    · obtain ⟨a, -, -, -, ev, -⟩ := Cond.exactly_spec (hs (.exactly (.string "StrataRepo" 412) "java/lang/String") (by decide +kernel))
      exact ⟨a, vk_R.of (hts (.stringRef "StrataRepo" 412 "there is no such place") (by decide +kernel)) ev⟩
    · obtain ⟨a, -, -, -, ev, -⟩ := Cond.exactly_spec (hs (.exactly (.string "StrataRepo" 414) "java/lang/String") (by decide +kernel))
      exact ⟨a, vk_R.of (hts (.stringRef "StrataRepo" 414 "a side is 0 to 2") (by decide +kernel)) ev⟩
    · obtain ⟨a, -, -, -, ev, -⟩ := Cond.exactly_spec (hs (.exactly (.string "StrataRepo" 416) "java/lang/String") (by decide +kernel))
      exact ⟨a, vk_R.of (hts (.stringRef "StrataRepo" 416 "the desk has no such place") (by decide +kernel)) ev⟩
    · obtain ⟨a, -, -, -, ev, -⟩ := Cond.exactly_spec (hs (.exactly (.string "StrataRepo" 418) "java/lang/String") (by decide +kernel))
      exact ⟨a, vk_R.of (hts (.stringRef "StrataRepo" 418 "there is no such commit") (by decide +kernel)) ev⟩
    · obtain ⟨a, -, -, -, ev, -⟩ := Cond.exactly_spec (hs (.exactly (.string "StrataRepo" 420) "java/lang/String") (by decide +kernel))
      exact ⟨a, vk_R.of (hts (.stringRef "StrataRepo" 420 "there is no such branch") (by decide +kernel)) ev⟩
    · obtain ⟨a, -, -, -, ev, -⟩ := Cond.exactly_spec (hs (.exactly (.string "StrataRepo" 422) "java/lang/String") (by decide +kernel))
      exact ⟨a, vk_R.of (hts (.stringRef "StrataRepo" 422 "there is no such conflict") (by decide +kernel)) ev⟩
    · obtain ⟨a, -, -, -, ev, -⟩ := Cond.exactly_spec (hs (.exactly (.string "StrataRepo" 424) "java/lang/String") (by decide +kernel))
      exact ⟨a, vk_R.of (hts (.stringRef "StrataRepo" 424 "work is pending") (by decide +kernel)) ev⟩
    · obtain ⟨a, -, -, -, ev, -⟩ := Cond.exactly_spec (hs (.exactly (.string "StrataRepo" 426) "java/lang/String") (by decide +kernel))
      exact ⟨a, vk_R.of (hts (.stringRef "StrataRepo" 426 "no work is pending") (by decide +kernel)) ev⟩
    · obtain ⟨a, -, -, -, ev, -⟩ := Cond.exactly_spec (hs (.exactly (.string "StrataRepo" 428) "java/lang/String") (by decide +kernel))
      exact ⟨a, vk_R.of (hts (.stringRef "StrataRepo" 428 "there is no room for the commits") (by decide +kernel)) ev⟩
    · obtain ⟨a, -, -, -, ev, -⟩ := Cond.exactly_spec (hs (.exactly (.string "StrataRepo" 430) "java/lang/String") (by decide +kernel))
      exact ⟨a, vk_R.of (hts (.stringRef "StrataRepo" 430 "the head is at no commit, or the desk is not clean") (by decide +kernel)) ev⟩
    · obtain ⟨a, -, -, -, ev, -⟩ := Cond.exactly_spec (hs (.exactly (.string "StrataRepo" 432) "java/lang/String") (by decide +kernel))
      exact ⟨a, vk_R.of (hts (.stringRef "StrataRepo" 432 "the branch is at no commit") (by decide +kernel)) ev⟩
  · exact List.forall_mem_cons.mpr ⟨va_AO.of hAC, fun _ h => nomatch h⟩
  · refine List.forall_mem_cons.mpr ⟨va_Nc.of (hs (.not (.castable "java/lang/IllegalArgumentException" "java/lang/IndexOutOfBoundsException")) (by decide +kernel)), List.forall_mem_cons.mpr ⟨va_Nc.of (hs (.not (.castable "java/lang/IllegalStateException" "java/lang/IndexOutOfBoundsException")) (by decide +kernel)), List.forall_mem_cons.mpr ⟨va_Nc.of (hs (.not (.castable "java/lang/IllegalStateException" "java/lang/IllegalArgumentException")) (by decide +kernel)), fun _ h => nomatch h⟩⟩⟩
/-- from the entry, for every script of at most 260 ints, the law comes to its end with true -/
theorem whole_start {p : Program} {e : Env} {s : State} {m : MethodId} {below : List Frame} {meth : Method} {c : Code} (l : Launch) (hflags : l.flags = flags0) {b L : Nat} {xs : Nat → Int32} (hL : L ≤ 260) (C0 : lw_At p s m meth c b L xs) : W p l e room_1 s m #[Value.ref b] below meth c s.heap [] 0 0 (lw_Z below #[Value.ref b] s) (entryFrame m ([Value.ref b] : List Value).toArray 5) := by
  obtain ⟨hx, hb, hr, hml, hown, hts, hX, hbl, hlocks, hgv, hnm, htb⟩ := C0
  obtain ⟨D, tys, ht0, ht1, hC, hNx⟩ := sg_ctx hts hX hbl hgv
  obtain ⟨n, r9, Mf, c1, s1, hev, hr1, hc1, hs1⟩ := lw_all (Ls := L) (xs := xs) (by omega)
  subst hr1
  have hst : l.stackTraces = false := by
    unfold Launch.stackTraces
    rw [hflags]
    decide
  have hF : sg_Fr sg_Pg sg_Tw 144 p l room_1 s m #[Value.ref b] meth c := ⟨hx, hb, hml, hown, fun w hw => hts w (List.mem_filter.mp hw).1, hr, hlocks, rfl, rfl, hnm, hst, htb⟩
  have hok := fun k pc => sg_hok (D := D) (tys := tys) (B := s.heap.size) (b := b) (Ls := L) (xs := xs) ht0 ht1 k pc
  have hcon := sg_sound (l := l) hok sg_hhd (fun k pc f _ => sg_pln k) hst
  have hl := lv_entry ([.ref b]) (n := 5) (Nat.le_of_ble_eq_true rfl)
  rw [lg_entry_eq]
  generalize (lg_sl ([.ref b]) ++ List.replicate (5 - (lg_sl ([.ref b])).length) Slot.unset).toArray = ls at hl ⊢
  have hl : lv_has ls 5 ([(0, Value.ref 0)].map (fun q => (q.1, sg_v (fun _ => b) q.2))) := hl
  have hI : sg_I D sg_cl tys s.heap.size b (fun _ => b) sg_M0 s.heap := ⟨fun a e h => (by cases h), fun a a' e e' h => (by cases h), rfl, by decide, rfl⟩
  refine sg_run (Q := lw_Z below #[Value.ref b] s) (R := room_1) (mc := 600104) (ms := 7301314) (r := .inl (some (.int 1))) (Mf := Mf) (μ0 := fun _ => b) (n0 := 128) hok sg_hhd n (fun i _ => hcon i) hF hC hNx (Nat.le_refl _) (Nat.le_refl _) ⟨fun pc f L1 st μ H locs ls1 cells slots v hf hfe hrv hJ hX1 hn0 h1 h2 => ?_, fun pc f L1 st μ H locs ls1 cells slots E hf hfe hrv => (by cases hrv), fun pc rest μ H locs ls1 cells slots E ce q hhn hrv => (by cases hrv)⟩ n (Nat.le_refl _) 0 [(0, .ref 0)] [] sg_M0 c1 s1 hev (fun _ => b) s.heap [] 0 0 ls ⟨hI, ?_, fun _ h => (nomatch h), hl, va_S.rf⟩ sg_X.rf (Nat.le_refl _) (by omega) (by omega)
  · cases hrv
    refine va_forget (fun q hq => hJ.2.2.2.2.2.2 q hq) (W.widen h1 h2 ?_)
    have hr9 := hok 144 pc f hf p l e room_1 s m #[Value.ref b] below meth c hF hC L1 st Mf μ H [] 600104 7301314 ls1 ⟨hJ.1, hJ.2.1, hJ.2.2.1, hJ.2.2.2.1, hJ.2.2.2.2.1, hJ.2.2.2.2.2.1, fun _ h => (nomatch h)⟩
    rw [hfe] at hr9
    have hw := hr9.2 (fun _ _ o _ => o = .returned (some (.int 1))) (fun _ _ _ => False) (fun _ => False) (fun t ht hW => rfl) (fun q h => nomatch h)
    intro T hT9 X
    obtain ⟨t, a1, o, d1, d2, d3⟩ := hw T hT9 X
    refine ⟨t, a1, o, d1, d2, ?_⟩
    rcases d3 with ⟨d4, L9, d5, d6⟩ | ⟨q, d4, d5⟩
    · have hL9 : L9 = [] := by
        cases L9 with
        | nil => rfl
        | cons z zs => exact (d6 z List.mem_cons_self).elim
      subst hL9
      exact ⟨d4, d5⟩
    · obtain ⟨E, ce, L9, z1, -⟩ := d5
      exact z1.elim
  · exact List.forall_mem_cons.mpr ⟨fun a e => by cases e; decide, fun _ h => nomatch h⟩
-- ===== YOUR PART ENDS =====
set_option maxHeartbeats 4000000 in
theorem lw_walk (l : Launch) (hflags : l.flags = flags0) (b : Addr) (xs : List Int32) : MetFree l x (headSpec (Jvm.Cond.code x code maxLocals ret :: tables_1) room_1) (lw_P b xs) (fun _ _ _ _ _ => True) lw_Q := by
  refine MetFree.of_bodyS (code := code) (maxLocals := maxLocals) (ret := ret) (by decide) ?_ ?_
  · intro args s m h hn
    obtain ⟨meth, c, h1, h2, h3, h4, h5, h6, -, -⟩ := Cond.code_spec hn (atoms_spec (ws := Jvm.Cond.code x code maxLocals ret :: tables_1) h _ List.mem_cons_self)
    exact ⟨meth, c, h1, h2, h3, h4, h5, h6⟩
  · intro p e s m args below meth c s₁ B hml0 hP _
    obtain ⟨rfl, hx, hbd, hgv⟩ := hP
    obtain ⟨scr, harrAt, hlist, hof, hsmall⟩ := hx
    obtain ⟨hcb, hkn, -, -⟩ := State.arrayAt?_spec harrAt
    have hown : s.vm.findClass R_law = some m.cls := findClass_of_methodNamed B.named
    have hts0 : ∀ c ∈ (Jvm.Cond.code x code maxLocals ret :: tables_1), c.before #[Value.ref b] s = true := atoms_spec (ws := Jvm.Cond.code x code maxLocals ret :: tables_1) B.pre
    have hts : ∀ w ∈ lw_tbl, w.before #[Value.ref b] s = true := k2_hts_sels lw_privs (fun w hw => hts0 w (List.mem_cons_of_mem _ hw)) lw_privs_ok
    have hml : c.maxLocals = 5 := B.maxLocals_eq (hts0 _ List.mem_cons_self)
    have X₀ : Stand p l e room_1 s m #[Value.ref b] below meth c s₁ [] 0 0 := Stand.of_body B
    have hh0 : s₁.heap = s.heap := by rw [B.state]; rfl
    have htb : c.exceptionTable.toList = [] := by
      obtain ⟨meth9, c9, h1, h2, -, -, -, -, h6, -⟩ := Cond.code_spec B.named (hts0 _ List.mem_cons_self)
      cases Option.some.inj (h1.symm.trans B.method)
      cases Option.some.inj (h2.symm.trans (Stand.of_body B).code)
      simpa using h6
    have hsz : scr.slots.size = xs.length := by rw [← Array.length_toList, hlist, List.length_map]
    have hval : ∀ j : Nat, j < xs.length → scr.slots[j]? = some (.int (xs.getD j 0)) := fun j hj => by
      rw [← Array.getElem?_toList, hlist]
      simp [hj]
    have hbl : b < s.heap.size := (Array.getElem?_eq_some_iff.mp hcb).1
    have hX : va_X b xs.length (fun j => xs.getD j 0) s s.heap := ⟨scr, hcb, hof, hkn, hsz, hval⟩
    have K : W p l e room_1 s m #[Value.ref b] below meth c s₁.heap [] 0 0 (lw_Z below #[Value.ref b] s) (entryFrame m ([Value.ref b] : List Value).toArray 5) := by
      rw [hh0]
      exact whole_start l hflags hbd ⟨B.exec, B.bytes, B.returns, hml, hown, hts, hX, hbl, B.notSynchronized, hgv, (name_of_methodNamed B.named B.method).1, htb⟩
    obtain ⟨t, a1, o, b1, b2, b3⟩ := K s₁ rfl X₀
    exact ⟨t, o, a1, b1, b2, b3⟩
theorem lw_pre_spec {args : Array Value} {s : State} (h : (Jvm.Cond.and given_1 narrow_1).before args s = true) (hr : rest_1_c.before args s = true) : ∃ (b : Addr) (xs : List Int32), lw_P b xs args s := by
  have hs := flat_of_before _ h
  have hq := flat_of_before _ hr
  have hc : (Cond.count 1).before args s = true := hs _ (by decide +kernel)
  have harr : (Cond.arrayOf (.arg 0) .int).before args s = true := hs _ (by decide +kernel)
  have hle : (Cond.le (.length (.arg 0)) (.int 260)).before args s = true := hs _ (by decide +kernel)
  have hlen : (Cond.isInt (.length (.arg 0))).before args s = true := hq _ (by decide +kernel)
  have hall : (Cond.all (.arg 0) (.isInt (.elem (.arg 0) (.index 0)))).before args s = true := hq _ (by decide +kernel)
  obtain ⟨b, xs, hb, hx⟩ := State.ints_of_pre rfl harr hlen hall
  have hsm : xs.length < 2 ^ 31 := hx.choose_spec.2.2.2
  have hev : (Term.length (.arg 0)).eval args s none [] s = some (.int xs.length.toInt32) := hx.length_eval hb
  have hv := Cond.le_ints hev (show (Term.int 260).eval args s none [] s = some (.int 260) from rfl)
  have hd : xs.length.toInt32 ≤ 260 := by
    simpa [Cond.before, Cond.holds, hv] using hle
  have hN : xs.length ≤ 260 := (Int32.ofNat_le_ofNat hsm (by decide)).mp (show Int32.ofNat xs.length ≤ Int32.ofNat 260 from hd)
  exact ⟨b, xs, Cond.one_arg hc (show args[0]? = some (.ref b) from hb), hx, hN, h⟩
theorem lw_comes (l : Launch) (hflags : l.flags = flags0) : Comes l x (Jvm.Cond.code x code maxLocals ret :: tables_1) room_1 (fun tb e args s => Calls_1 tb e args s ∧ rest_1 tb e args s ∧ Pre_1 tb e args s)
    (fun _ _ args s o t => lw_Q args s o t) := by
  intro p e ha hc hk s m args below hf hfit hheap happ hpre
  obtain ⟨b, xs, hP⟩ := lw_pre_spec hpre.2.2 hpre.2.1
  obtain ⟨k, o, h1, h2, h3, hQ⟩ := lw_walk l hflags b xs p e ha hc hk s m args below hf ((Spec.applies_iff_loose hf).mp happ).1 hP trivial
  exact ⟨k, o, h1, h2, h3, hQ⟩
theorem lw_frame {s t : State} {o : Outcome} {args : Array Value} (h : Framed s o t [] 600104 7301314) :
    Framed s o t (fieldLocs frame_1_writes args s ++ arrayLocs frame_1_arrays args s ++ staticLocs frame_1_statics s) 600104 7301314 := h
theorem lw_limb (L : Cond) (hL : ∀ (args : Array Value) (s t : State), L.after args s (.returned (some (.int 1))) t = true) :
    ArmFor flags0 classFile x code maxLocals ret World_1 tables_1 room_1 Calls_1 rest_1 Pre_1
      (fun tb e a s o t => postC L tb e a s o t ∧ Framed s o t (fieldLocs frame_1_writes a s ++ arrayLocs frame_1_arrays a s ++ staticLocs frame_1_statics s) 600104 7301314) := by
  intro l hflags _ _ p e ha hc hk s m args below hf hfit hheap happ hpre
  obtain ⟨k, o, h1, h2, h3, rfl, hF⟩ := lw_comes l hflags p e ha hc hk s m args below hf hfit hheap happ hpre
  exact ⟨k, _, h1, h2, h3, hL args s _, lw_frame hF⟩
theorem i_vc : Claimed_1_1 ∧ Claimed_1_2 := ⟨lw_limb limb_1_1 (fun args s t => by simp [limb_1_1, Cond.after, Cond.holds, Cond.value]), lw_limb limb_1_2 (fun args s t => Cond.after_iff.mpr (by
  first | (rw [show limb_1_2 = Cond.eq .result (.int 1) from rfl, Cond.eq_ints (x := 1) (y := 1) rfl rfl]; simp; done) | (simp [limb_1_2, Cond.value, Term.eval]; done)))⟩
