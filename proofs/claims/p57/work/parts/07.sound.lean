section SGE
theorem sg_args_map {μ : Nat → Nat} : ∀ (vs : List Value) (i : Nat), (lv_args i vs).map (fun q => (q.1, sg_v μ q.2)) = lv_args i (vs.map (sg_v μ))
  | [], i => rfl
  | v :: vs, i => by
    show (i, sg_v μ v) :: (lv_args (if v.category = 2 then i + 2 else i + 1) vs).map _ = (i, sg_v μ v) :: lv_args (if (sg_v μ v).category = 2 then i + 2 else i + 1) (vs.map (sg_v μ))
    rw [sg_args_map vs, sg_cat]
theorem sg_args_w {n : Nat} : ∀ (vs : List Value) (i : Nat), (∀ v ∈ vs, sg_wV n v) → ∀ q ∈ lv_args i vs, sg_wV n q.2
  | [], i, _, q, hq => by cases hq
  | v :: vs, i, h, q, hq => by
    rcases List.mem_cons.mp hq with rfl | hq
    · exact (sg_c1 h).1
    · exact sg_args_w vs _ (sg_c1 h).2 q hq
def sg_Pc (D : va_G) (cl : List vw_C) (tys : List (ClassId × FieldType)) (B b Ls : Nat) (xs : Nat → Int32) (Sx : List (String × Nat × String)) (Ax : List String) (Nx : List (String × String)) (av : List Value) (μ : Nat → Nat) (M : sg_M) : Array Value → State → Prop := fun a U =>
  a = (av.map (sg_v μ)).toArray ∧ sg_I D cl tys B b μ M U.heap ∧ sg_Cx D cl tys B b Ls xs Sx Ax U U.heap ∧ (∀ z ∈ Nx, va_Nc z.1 z.2 U) ∧ ∀ v ∈ av, sg_wV M.2 v
def sg_Qc (D : va_G) (cl : List vw_C) (tys : List (ClassId × FieldType)) (B b : Nat) (r : Option Value ⊕ Nat) (μ : Nat → Nat) (M M1 : sg_M) : Array Value → State → Outcome → State → Prop := fun _ st o t =>
  ∃ (v : Option Value) (μ1 : Nat → Nat), r = .inl v ∧ o = .returned (v.map (sg_v μ1)) ∧ sg_X μ μ1 M.2 ∧ M.2 ≤ M1.2 ∧ sg_I D cl tys B b μ1 M1 t.heap ∧ (∀ x, v = some x → sg_wV M1.2 x) ∧ va_F (sg_A B) st t
def sg_XC (D : va_G) (cl : List vw_C) (tys : List (ClassId × FieldType)) (B b : Nat) (r : Option Value ⊕ Nat) (μ : Nat → Nat) (M M1 : sg_M) : String → State → State → Prop := fun E st t =>
  ∃ (En : Nat) (μ1 : Nat → Nat), r = .inr En ∧ E = sg_nm En ∧ sg_X μ μ1 M.2 ∧ M.2 ≤ M1.2 ∧ sg_I D cl tys B b μ1 M1 t.heap ∧ va_F (sg_A B) st t
/-- each method at most n steps deep keeps its word -/
def sg_Con (tab : Nat → Nat → Option sg_F) (hd : Nat → Nat → Nat → Option (Option Nat)) (D : va_G) (cl : List vw_C) (tys : List (ClassId × FieldType)) (B b Ls : Nat) (xs : Nat → Int32) (Sx : List (String × Nat × String)) (Ax : List String) (Nx : List (String × String)) (P : sg_P) (Tw : List Cond) (l : Launch) (n : Nat) : Prop :=
  ∀ (j : Nat) (av : List Value) (M : sg_M) (r : Option Value ⊕ Nat) (M1 : sg_M) (mc ms : Nat), sg_ev tab hd n j 0 (lv_args 0 av) [] M = some (r, M1, mc, ms) → (lg_sl av).length ≤ sg_N P j → ∀ μ : Nat → Nat,
    vx_Met l (sg_Y P j) (sg_hw P j :: Tw) ⟨sg_fr P j, mc, ms, sg_lo P j⟩ (sg_Pc D cl tys B b Ls xs Sx Ax Nx av μ M) (sg_Qc D cl tys B b r μ M M1) (sg_XC D cl tys B b r μ M M1) mc ms (sg_A B)
/-- what the handlers' table says is so -/
def sg_Hd (hd : Nat → Nat → Nat → Option (Option Nat)) (Nx : List (String × String)) (P : sg_P) (Tw : List Cond) : Prop := ∀ k pc E : Nat,
  (hd k pc E = some none → ∀ z ∈ tableOf (sg_hh P k), covers z pc = false) ∧
  ∀ h : Nat, hd k pc E = some (some h) → ∃ (pre : List ExceptionTableEntry) (x : ExceptionTableEntry) (suf : List ExceptionTableEntry) (nm : String), tableOf (sg_hh P k) = pre ++ x :: suf ∧ x.handlerPc = h ∧ covers x pc = true ∧ x.catchType ≠ 0 ∧ Cond.classLink (sg_Y P k).cls x.catchType nm ∈ Tw ∧ Cond.castable (sg_nm E) nm ∈ Tw ∧
    ∀ z ∈ pre, covers z pc = false ∨ (z.catchType ≠ 0 ∧ ∃ n1 : String, Cond.classLink (sg_Y P k).cls z.catchType n1 ∈ Tw ∧ (sg_nm E, n1) ∈ Nx)
/-- the ends of a walk -/
def sg_End (tab : Nat → Nat → Option sg_F) (hd : Nat → Nat → Nat → Option (Option Nat)) (D : va_G) (cl : List vw_C) (tys : List (ClassId × FieldType)) (B b : Nat) (P : sg_P) (k : Nat) (p : Program) (l : Launch) (e : Env) (R : Room) (s : State) (m : MethodId) (args : Array Value) (below : List Frame) (meth : Method) (c : Code) (Q : State → Prop) (r : Option Value ⊕ Nat) (Mf : sg_M) (mc ms : Nat) (μ0 : Nat → Nat) (n0 : Nat) : Prop :=
  (∀ (pc : Nat) (f : sg_F) (L : sg_L) (st : List Value) (μ : Nat → Nat) (H : Heap) (locs : List Loc) (ls : Array Slot) (cells slots : Nat) (v : Option Value), tab k pc = some f → f L st Mf = some (.inr (.inr (.inl v))) → r = .inl v → sg_J D cl tys B b (sg_N P k) s μ Mf H ls L st locs → sg_X μ0 μ n0 → n0 ≤ Mf.2 → cells ≤ mc → slots ≤ ms → W p l e R s m args below meth c H locs cells slots Q (F0 m pc ls (st.map (sg_v μ)))) ∧
  (∀ (pc : Nat) (f : sg_F) (L : sg_L) (st : List Value) (μ : Nat → Nat) (H : Heap) (locs : List Loc) (ls : Array Slot) (cells slots : Nat) (E : Nat), tab k pc = some f → f L st Mf = some (.inr (.inr (.inr E))) → r = .inr E → sg_J D cl tys B b (sg_N P k) s μ Mf H ls L st locs → sg_X μ0 μ n0 → n0 ≤ Mf.2 → cells + 1 ≤ mc → slots + 6 ≤ ms → W p l e R s m args below meth c H locs cells slots Q (F0 m pc ls (st.map (sg_v μ)))) ∧
  (∀ (pc : Nat) (rest : List Value) (μ : Nat → Nat) (H : Heap) (locs : List Loc) (ls : Array Slot) (cells slots : Nat) (E : Nat) (ce : Cell) (q : Addr), hd k pc E = some none → r = .inr E → sg_I D cl tys B b μ Mf H → va_S (sg_A B) s.heap H locs → sg_X μ0 μ n0 → n0 ≤ Mf.2 → H[q]? = some ce → ce.vm = .none → s.vm.findClass (sg_nm E) = some ce.cls → cells ≤ mc → slots ≤ ms → vx_W p l e R s m args below meth c H locs cells slots Q (F0 m pc ls rest) q)
section
variable {tab : Nat → Nat → Option sg_F} {hd : Nat → Nat → Nat → Option (Option Nat)} {D : va_G} {cl : List vw_C} {tys : List (ClassId × FieldType)} {B b Ls : Nat} {xs : Nat → Int32} {Sx : List (String × Nat × String)} {Ax : List String} {Nx : List (String × String)} {P : sg_P} {Tw : List Cond} {l : Launch}
theorem sg_blind {av : List Value} {μ : Nat → Nat} {M : sg_M} : FrameBlind (sg_Pc D cl tys B b Ls xs Sx Ax Nx av μ M) := fun a U g mk h => ⟨h.1, h.2.1, h.2.2.1.same rfl, h.2.2.2.1, h.2.2.2.2⟩
set_option maxHeartbeats 4000000 in
theorem sg_run (hok : ∀ k pc f, tab k pc = some f → sg_Ok D cl tys B b Ls xs Sx Ax P Tw k pc f) (hhd : sg_Hd hd Nx P Tw) (N : Nat) (hcon : ∀ i, i < N → sg_Con tab hd D cl tys B b Ls xs Sx Ax Nx P Tw l i)
    {k : Nat} {p : Program} {e : Env} {R : Room} {s : State} {m : MethodId} {args : Array Value} {below : List Frame} {meth : Method} {c : Code} {Q : State → Prop} {r : Option Value ⊕ Nat} {Mf : sg_M} {mc ms : Nat} {μ0 : Nat → Nat} {n0 : Nat} (hF : sg_Fr P Tw k p l R s m args meth c) (hC : sg_Cx D cl tys B b Ls xs Sx Ax s s.heap) (hNx : ∀ z ∈ Nx, va_Nc z.1 z.2 s) (hmc : mc ≤ R.cells) (hms : ms ≤ R.slots)
    (hE : sg_End tab hd D cl tys B b P k p l e R s m args below meth c Q r Mf mc ms μ0 n0) :
    ∀ (n : Nat), n ≤ N → ∀ (pc : Nat) (L : sg_L) (st : List Value) (M : sg_M) (c0 s0 : Nat), sg_ev tab hd n k pc L st M = some (r, Mf, c0, s0) → ∀ (μ : Nat → Nat) (H : Heap) (locs : List Loc) (cells slots : Nat) (ls : Array Slot), sg_J D cl tys B b (sg_N P k) s μ M H ls L st locs → sg_X μ0 μ n0 → n0 ≤ M.2 → cells + c0 ≤ mc → slots + s0 ≤ ms → W p l e R s m args below meth c H locs cells slots Q (F0 m pc ls (st.map (sg_v μ))) := by
  intro n
  induction n with
  | zero => intro _ pc L st M c0 s0 hev; cases hev
  | succ n ih =>
    intro hnN pc L st M c0 s0 hev μ H locs cells slots ls hJ hX hn0 hc0 hs0
    have ih := ih (by omega)
    unfold sg_ev at hev
    split at hev
    · cases hev
    · rename_i f hf
      have hr := hok k pc f hf p l e R s m args below meth c hF hC L st M μ H locs cells slots ls hJ
      split at hev
      · cases hev
      · rename_i pc1 L1 st1 M1 dc ds hfe
        rw [hfe] at hr
        obtain ⟨hle, hr⟩ := hr
        split at hev
        · cases hev
        · rename_i r2 M2 c2 s2 hev2
          cases hev
          exact hr Q (by omega) (by omega) fun μ1 H1 locs1 ls1 hX1 hJ1 => ih pc1 L1 st1 M1 c2 s2 hev2 μ1 H1 locs1 _ _ ls1 hJ1 (hX.tr hX1 hn0) (Nat.le_trans hn0 hle) (by omega) (by omega)
      · rename_i j av rest hfe
        rw [hfe] at hr
        obtain ⟨w1, w2, hlen, hr⟩ := hr
        split at hev
        · cases hev
        · rename_i v M1 c1 s1 hcall
          split at hev
          · cases hev
          · rename_i r2 M2 c2 s2 hev2
            cases hev
            have hM := hcon n (by omega) j av M _ M1 c1 s1 hcall hlen μ
            have hrun := hr _ _ _ c1 s1 hM sg_blind (fun U hU hW => ⟨rfl, by rw [hU]; exact hJ.1, by rw [hU]; exact hC.moved hW hJ.2.2.2.2.1 hJ.2.2.2.2.2.1, fun z hz => (hNx z hz).moved hW.alike, w1⟩) (by omega) (by omega)
            intro T hT X
            rcases hrun T hT X with ⟨vo, st₀, t, T1, L9, h0, X1, hL9, e1, e2, ⟨v9, μ1, hr9, ho, hX1, hle, hI1, hwv, hFr⟩, goes⟩ | ⟨q, st₀, t, T1, L9, E, ce, h0, X1, hL9, e1, e2, ⟨En, μ1, hr9, -⟩, -⟩
            · cases hr9
              cases ho
              obtain ⟨k1, k2, k3⟩ := vx_keep h0 e1 hJ.2.2.2.2 (fun q _ h => h) (fun q h => h) hL9 hFr
              have hst : (v.map (sg_v μ1)).toList ++ rest.map (sg_v μ) = (v.toList ++ rest).map (sg_v μ1) := by
                rw [List.map_append, sg_vs_x w2 hX1]
                cases v <;> rfl
              have hwst : ∀ x ∈ v.toList ++ rest, sg_wV M1.2 x := fun x hx => by
                rcases List.mem_append.mp hx with z | z
                · cases v with
                  | none => cases z
                  | some y => rcases List.mem_singleton.mp z with rfl; exact hwv _ rfl
                · exact (w2 x z).mono hle
              have hk := ih (pc + 3) L (v.toList ++ rest) M1 c2 s2 hev2 μ1 T1.heap (locs ++ L9) (cells + c1) (slots + s1) ls ⟨by rw [e1]; exact hI1, fun z hz => (hJ.2.1 z hz).mono hle, hwst, by rw [sg_ls_x hJ.2.1 hX1]; exact hJ.2.2.2.1, k3⟩ (hX.tr hX1 hn0) (Nat.le_trans hn0 hle) (by omega) (by omega)
              obtain ⟨t2, a1, b1⟩ := hk T1 rfl X1
              exact ⟨t2, goes t2 (by rw [hst]; exact a1), b1⟩
            · cases hr9
        · rename_i En M1 c1 s1 hcall
          have hM := hcon n (by omega) j av M _ M1 c1 s1 hcall hlen μ
          have hexc : ∀ (_ : c1 ≤ c0) (_ : s1 ≤ s0), (∀ (μ1 : Nat → Nat) (H1 : Heap) (locs1 : List Loc) (ce : Cell) (q : Addr), sg_I D cl tys B b μ1 M1 H1 → va_S (sg_A B) s.heap H1 locs1 → sg_X μ μ1 M.2 → M.2 ≤ M1.2 → H1[q]? = some ce → ce.vm = .none → s.vm.findClass (sg_nm En) = some ce.cls → vx_W p l e R s m args below meth c H1 locs1 (cells + c1) (slots + s1) Q (F0 m pc ls (rest.map (sg_v μ))) q) → W p l e R s m args below meth c H locs cells slots Q (F0 m pc ls (st.map (sg_v μ))) := by
            intro hl1 hl2 kx
            have hrun := hr _ _ _ c1 s1 hM sg_blind (fun U hU hW => ⟨rfl, by rw [hU]; exact hJ.1, by rw [hU]; exact hC.moved hW hJ.2.2.2.2.1 hJ.2.2.2.2.2.1, fun z hz => (hNx z hz).moved hW.alike, w1⟩) (by omega) (by omega)
            intro T hT X
            rcases hrun T hT X with ⟨vo, st₀, t, T1, L9, h0, X1, hL9, e1, e2, ⟨v9, μ1, hr9, -⟩, goes⟩ | ⟨q, st₀, t, T1, L9, E, ce, h0, X1, hL9, e1, e2, ⟨E9, μ1, hr9, hE9, hX1, hle, hI1, hFr⟩, hce, hcv, hcl, goes⟩
            · cases hr9
            · cases hr9
              subst hE9
              obtain ⟨k1, k2, k3⟩ := vx_keep h0 e1 hJ.2.2.2.2 (fun q _ h => h) (fun q h => h) hL9 hFr
              obtain ⟨t2, a1, b1⟩ := kx μ1 T1.heap (locs ++ L9) ce q (by rw [e1]; exact hI1) k3 hX1 hle (by rw [e1]; exact hce) hcv hcl T1 rfl X1
              exact ⟨t2, goes.trans a1, b1⟩
          split at hev
          · cases hev
          · rename_i hhn
            cases hev
            exact hexc (Nat.le_refl _) (Nat.le_refl _) fun μ1 H1 locs1 ce q hI1 hS1 hX1 hle hce hcv hcl => hE.2.2 pc _ μ1 H1 locs1 ls _ _ En ce q hhn rfl hI1 hS1 (hX.tr hX1 hn0) (Nat.le_trans hn0 hle) hce hcv hcl hc0 hs0
          · rename_i h hhs
            split at hev
            · cases hev
            · rename_i r2 M2 c2 s2 hev2
              cases hev
              obtain ⟨hx, hb, hml, hown, hts, hret, hlk, hfr, hlo, hnm, htr, htb⟩ := id hF
              obtain ⟨pre, x, suf, nm, t1, t2, t3, t4, t5, t6, t7⟩ := (hhd k pc En).2 h hhs
              refine hexc (by omega) (by omega) fun μ1 H1 locs1 ce q hI1 hS1 hX1 hle hce hcv hcl => ?_
              obtain ⟨i1, i2⟩ := hI1.skip q
              have hX2 : sg_X μ _ M.2 := hX1.tr i2 hle
              have hk := ih h L [.ref M1.2] (M1.1, M1.2 + 1) c2 s2 hev2 _ H1 locs1 (cells + c1) (slots + s1) ls ⟨i1, fun z hz => (hJ.2.1 z hz).mono (Nat.le_succ_of_le hle), sg_cc (fun a e => by cases e; exact Nat.lt_succ_self _) (fun _ h9 => nomatch h9), by rw [sg_ls_x hJ.2.1 hX2]; exact hJ.2.2.2.1, hS1⟩ (hX.tr hX2 hn0) (Nat.le_trans hn0 (Nat.le_succ_of_le hle)) (by omega) (by omega)
              have e8 : ([.ref M1.2] : List Value).map (sg_v (fun x => if x = M1.2 then q else μ1 x)) = [.ref q] := by
                show [Value.ref (if M1.2 = M1.2 then q else μ1 M1.2)] = _
                rw [if_pos rfl]
              rw [e8, ← t2] at hk
              exact vx_catch hown pre x suf (htb.trans t1) (fun z hz => by
                rcases t7 z hz with z1 | ⟨z1, n1, z2, z3⟩
                · exact Or.inl z1
                · exact Or.inr ⟨z1, n1, hts _ z2, hNx _ z3⟩) t3 t4 (hts _ t5) (hts _ t6) hce hcv hcl hk
      · rename_i v hfe
        cases hev
        exact hE.1 pc f L st μ H locs ls cells slots v hf hfe rfl hJ hX hn0 (by omega) (by omega)
      · rename_i E hfe
        cases hev
        exact hE.2.1 pc f L st μ H locs ls cells slots E hf hfe rfl hJ hX hn0 hc0 hs0
/-- the ends of a method's own walk -/
theorem sg_ends (hok : ∀ k pc f, tab k pc = some f → sg_Ok D cl tys B b Ls xs Sx Ax P Tw k pc f) (hhd : sg_Hd hd Nx P Tw) {k : Nat} {p : Program} {e : Env} {R : Room} {s : State} {m : MethodId} {args : Array Value} {below : List Frame} {meth : Method} {c : Code} {r : Option Value ⊕ Nat} {Mf M : sg_M} {mc ms : Nat} {μ : Nat → Nat} (hF : sg_Fr P Tw k p l R s m args meth c) (hC : sg_Cx D cl tys B b Ls xs Sx Ax s s.heap) (hmc : mc ≤ R.cells) (hms : ms ≤ R.slots) :
    sg_End tab hd D cl tys B b P k p l e R s m args below meth c (vx_MQ below (sg_Qc D cl tys B b r μ M Mf) (sg_XC D cl tys B b r μ M Mf) args s mc ms (sg_A B)) r Mf mc ms μ M.2 := by
  refine ⟨fun pc f L st μ1 H locs ls cells slots v hf hfe hrv hJ hX hn0 h1 h2 => ?_, fun pc f L st μ1 H locs ls cells slots E hf hfe hrv hJ hX hn0 h1 h2 => ?_, fun pc rest μ1 H locs ls cells slots E ce q hhn hrv hI hS hX hn0 hce hcv hcl h1 h2 => ?_⟩
  · refine W.widen h1 h2 ?_
    have hr := hok k pc f hf p l e R s m args below meth c hF hC L st Mf μ1 H locs mc ms ls hJ
    rw [hfe] at hr
    exact hr.2 _ _ _ (fun t ht hW => ⟨v, μ1, hrv, rfl, hX, hn0, by rw [ht]; exact hJ.1, hr.1, hJ.2.2.2.2.F ht⟩) hJ.2.2.2.2.2.2
  · have hr := hok k pc f hf p l e R s m args below meth c hF hC L st Mf μ1 H locs cells slots ls hJ
    rw [hfe] at hr
    refine hr _ _ _ mc ms (fun t hA hz hq => ⟨E, μ1, hrv, rfl, hX, hn0, ?_, ?_⟩) hJ.2.2.2.2.2.2 h1 h2 (by omega) (by omega)
    · exact ⟨fun a e9 he => by
        obtain ⟨q1, q2, q3, q4⟩ := hJ.1.1 a e9 he
        exact ⟨q1, q2, q3.kept (hq _ q3.lt), q4⟩, hJ.1.2⟩
    · exact ⟨Nat.le_trans hJ.2.2.2.2.1 hz, fun q g1 g2 => (hq q (Nat.lt_of_lt_of_le g1 hJ.2.2.2.2.1)).trans (hJ.2.2.2.2.2.1 q g1 g2)⟩
  · obtain ⟨hx, hb, hml, hown, hts, hret, hlk, hfr, hlo, hnm, htr, htb⟩ := hF
    exact vx_out (fun z hz => (hhd k pc E).1 hhn z (by rw [← htb]; exact hz)) hlk hce hcv hcl (fun t ht hA => ⟨E, μ1, hrv, rfl, hX, hn0, by rw [ht]; exact hI, hS.F ht⟩) hS.2.2 h1 h2
set_option maxHeartbeats 4000000 in
theorem sg_sound (hok : ∀ k pc f, tab k pc = some f → sg_Ok D cl tys B b Ls xs Sx Ax P Tw k pc f) (hhd : sg_Hd hd Nx P Tw) (hpl : ∀ k pc f, tab k pc = some f → plainName (sg_Y P k).cls = true) (hst : l.stackTraces = false) : ∀ n : Nat, sg_Con tab hd D cl tys B b Ls xs Sx Ax Nx P Tw l n := by
  intro n
  induction n using Nat.strongRecOn with
  | ind n ih =>
    intro j av M r M1 mc ms hev hlen μ
    have hy : plainName (sg_Y P j).cls = true := by
      cases n with
      | zero => cases hev
      | succ n =>
        unfold sg_ev at hev
        split at hev
        · cases hev
        · rename_i f hf
          exact hpl j 0 f hf
    have body : ∀ (p : Program) (e : Env) (s : State) (m : MethodId) (args : Array Value) (below : List Frame) (meth : Method) (c : Code), sg_Fr P Tw j p l ⟨sg_fr P j, mc, ms, sg_lo P j⟩ s m args meth c → sg_Pc D cl tys B b Ls xs Sx Ax Nx av μ M args s → W p l e ⟨sg_fr P j, mc, ms, sg_lo P j⟩ s m args below meth c s.heap [] 0 0 (vx_MQ below (sg_Qc D cl tys B b r μ M M1) (sg_XC D cl tys B b r μ M M1) args s mc ms (sg_A B)) (entryFrame m args (sg_N P j)) := by
      intro p e s m args below meth c hF hPc
      obtain ⟨rfl, hI, hC, hNx, hwa⟩ := hPc
      have hl := lv_entry (av.map (sg_v μ)) (n := sg_N P j) (by rw [sg_lg] at hlen ⊢; rw [show sg_cs (av.map (sg_v μ)) = sg_cs av from sg_cs_map]; exact hlen)
      rw [lg_entry_eq]
      rw [← sg_args_map] at hl
      exact sg_run (mc := mc) (ms := ms) hok hhd n ih hF hC hNx (Nat.le_refl _) (Nat.le_refl _) (sg_ends hok hhd hF hC (Nat.le_refl _) (Nat.le_refl _)) n (Nat.le_refl _) 0 (lv_args 0 av) [] M mc ms hev μ s.heap [] 0 0 _ ⟨hI, sg_args_w av 0 hwa, fun _ h => (nomatch h), hl, va_S.rf⟩ sg_X.rf (Nat.le_refl _) (by omega) (by omega)
    cases hh : sg_hh P j with
    | nil =>
      refine vx_ofW (cc := sg_C P j) (maxL := sg_N P j) (ret := sg_T P j) hy (by rw [sg_hw0 hh]) ?_
      intro p e s m args below meth c s₁ BB hml ht hPc
      exact body p e s m args below meth c ⟨BB.exec, BB.bytes, hml, findClass_of_methodNamed BB.named, fun w hw => atoms_spec (ws := sg_hw P j :: Tw) BB.pre w (List.mem_cons_of_mem _ hw), BB.returns, BB.notSynchronized, rfl, rfl, (name_of_methodNamed BB.named BB.method).1, hst, by
        rw [hh]
        cases he : c.exceptionTable.toList with
        | nil => rfl
        | cons x xs9 => exact (ht x (by rw [he]; exact List.mem_cons_self)).elim⟩ hPc
    | cons h0 hs =>
      have hw : sg_hw P j = .codeWith (sg_Y P j) (sg_C P j) (sg_N P j) (sg_T P j) (h0 :: hs) := by
        unfold sg_hw
        rw [hh]
      refine vx_ofWH (cc := sg_C P j) (maxL := sg_N P j) (ret := sg_T P j) (hh := h0 :: hs) hy (by rw [hw]) ?_
      intro p e s m args below meth c s₁ BB hml hPc
      have hts := atoms_spec (ws := sg_hw P j :: Tw) BB.pre
      have hcw : (Cond.codeWith (sg_Y P j) (sg_C P j) (sg_N P j) (sg_T P j) (h0 :: hs)).before args s = true := by
        have h9 := hts _ List.mem_cons_self
        rw [hw] at h9
        exact h9
      have htb : c.exceptionTable.toList = tableOf (sg_hh P j) := by
        rw [hh]
        exact vx_table (x := sg_Y P j) BB hcw
      exact body p e s m args below meth c ⟨BB.exec, BB.bytes, hml, findClass_of_methodNamed BB.named, fun w hw => hts w (List.mem_cons_of_mem _ hw), BB.returns, BB.notSynchronized, rfl, rfl, (name_of_methodNamed BB.named BB.method).1, hst, htb⟩ hPc
end
end SGE
