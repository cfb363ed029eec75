section SGMF
section
variable {Ls : Nat} {xs : Nat → Int32} {M : sg_M} {G : mg_C}
theorem mg_ur_ur {a b c d : Nat → Int32} : mg_ur (mg_ur G a b) c d = mg_ur G c d := rfl
theorem mg_ur_self : mg_ur G G.fs G.fc = G := rfl
/-- only what is in the result is other -/
abbrev mg_rq (M : sg_M) (G : mg_C) : Option Value ⊕ Nat → sg_M → Nat → Nat → Prop := fun r M1 c s => r = .inl none ∧ (∃ gs gc : Nat → Int32, mg_is M1 (mg_ur G gs gc) ∧ (tr_ti G.fs → tr_ti gs) ∧ sg_out mg_F M M1) ∧ c = 0 ∧ s = 0
theorem mg_rq_tr {M1 : sg_M} {gs gc : Nat → Int32} {k pc : Nat} {L : sg_L} {st : List Value} (h : wpa Ls xs k pc L st M1 (mg_rq M1 (mg_ur G gs gc))) (t1 : tr_ti G.fs → tr_ti gs) (o1 : sg_out mg_F M M1) : wpa Ls xs k pc L st M1 (mg_rq M G) :=
  h.mono fun r M2 c s ⟨e1, ⟨hs, hc, q1, q2, q3⟩, e2, e3⟩ => ⟨e1, ⟨hs, hc, (by rw [mg_ur_ur] at q1; exact q1), fun z => q2 (t1 z), o1.tr q3 (fun _ z => z)⟩, e2, e3⟩
theorem mg_tr.ur {M1 : sg_M} {gs gc : Nat → Int32} (h : mg_tr M G) (o1 : sg_out mg_F M M1) : mg_tr M1 (mg_ur G gs gc) := h.out o1 rfl rfl rfl
theorem mg_ap_loop (x y f z : Int32) : ∀ (m i : Nat) (M : sg_M) (G : mg_C), mg_is M G → mg_tr M G → m = z.toNatClampNeg - i → i < 2 ^ 31 → wpa Ls xs 52 30 [(0, .ref 143), (1, .int x), (2, .int y), (3, .int f), (4, .int z), (5, .int (nI i))] [] M (mg_rq M G) := by
  intro m
  induction m using Nat.strongRecOn with
  | ind m ih =>
    intro i M G h ht hm hi
    obtain ⟨v, hv⟩ := mg_lineW (Ls := Ls) (xs := xs) h ht x y (nI i)
    have g143 := h.1
    have gR := h.2.2.2.2.2.2.2.1
    refine sg_wr 2 rfl ?_
    refine sg_wb rfl rfl (fun h34 => ?_) (fun h34 => ?_)
    · exact sg_we rfl rfl ⟨rfl, ⟨G.fs, G.fc, h, fun z => z, sg_out.rf⟩, rfl, rfl⟩
    · refine sg_wr 1 rfl ?_
      refine sg_r_getf rfl g143 rfl ?_
      refine sg_wr 5 rfl ?_
      refine sg_p_callV rfl rfl rfl g143 rfl (Nat.le_of_ble_eq_true rfl) (Nat.le_of_ble_eq_true rfl) (hv) ?_
      refine sg_r_callV rfl rfl rfl gR.1 rfl (Nat.le_of_ble_eq_true rfl) (Nat.le_of_ble_eq_true rfl) (tr_addLine gR f v) ?_
      rintro _ _ _ _ ⟨rfl, ⟨gs, gc, rfl, hti⟩, rfl, rfl⟩
      refine sg_a0 ?_
      refine sg_wr 2 rfl ?_
      have hlt : nI i < z := Int32.not_le.mp h34
      rcases sg_int z with hz0 | ⟨j, hj, rfl⟩
      · exact absurd (Int32.lt_trans hlt hz0) (nI_pos hi)
      · have hij := (nI_ltI hi hj).mp hlt
        have h9 := ih ((nI j).toNatClampNeg - (i + 1)) (by rw [nI_clamp hj] at hm ⊢; omega) (i + 1) _ _ (h.res gs gc) (ht.ur mg_res_out) rfl (by omega)
        rw [nI_succ] at h9
        exact mg_rq_tr h9 hti mg_res_out
theorem mg_append (h : mg_is M G) (ht : mg_tr M G) (x y : Int32) : wpm Ls xs 52 [.ref 143, .int x, .int y] M (mg_rq M G) := by
  obtain ⟨g143, g155, g156, g157, g158, g159, g160, gR, g144, g145, g146, g147, g148, g149, g150, g151⟩ := id h
  refine sg_wr 2 rfl ?_
  refine sg_p_callV rfl rfl rfl g143 rfl (Nat.le_of_ble_eq_true rfl) (Nat.le_of_ble_eq_true rfl) (mg_fileOf h _) ?_
  refine sg_wr 4 rfl ?_
  refine sg_p_callV rfl rfl rfl g143 rfl (Nat.le_of_ble_eq_true rfl) (Nat.le_of_ble_eq_true rfl) (mg_sizeOf h _ _) ?_
  refine sg_wr 2 rfl ?_
  refine sg_wb rfl rfl (fun h16 => ?_) (fun h16 => ?_)
  · refine sg_wr 2 rfl ?_
    exact mg_ap_loop _ _ _ _ _ 0 M G h ht rfl (by decide)
  · refine sg_wr 1 rfl ?_
    refine sg_r_getf rfl g143 rfl ?_
    refine sg_wr 1 rfl ?_
    refine sg_p_callV rfl rfl rfl gR.1 rfl (Nat.le_of_ble_eq_true rfl) (Nat.le_of_ble_eq_true rfl) (tr_putFile gR _) ?_
    refine sg_wr 2 rfl ?_
    exact mg_rq_tr (mg_ap_loop _ _ _ _ _ 0 _ _ (h.res _ _) (ht.ur mg_res_out) rfl (by decide)) (fun z => tr_pf_ti z) mg_res_out
theorem mg_held (h : mg_is M G) (ht : mg_tr M G) (x : Int32) : wpm Ls xs 53 [.ref 143, .int x] M (mg_rq M G) := by
  obtain ⟨g143, g155, g156, g157, g158, g159, g160, gR, g144, g145, g146, g147, g148, g149, g150, g151⟩ := id h
  obtain ⟨sb, cb, fsb, fcb, tb, -⟩ := ht.1
  refine sg_wr 2 rfl ?_
  refine sg_p_callV rfl rfl rfl g143 rfl (Nat.le_of_ble_eq_true rfl) (Nat.le_of_ble_eq_true rfl) (mg_fileOf h _) ?_
  refine sg_wr 2 rfl ?_
  refine sg_r_getf rfl g143 rfl ?_
  refine sg_wr 4 rfl ?_
  refine sg_p_callV rfl rfl rfl g143 rfl (Nat.le_of_ble_eq_true rfl) (Nat.le_of_ble_eq_true rfl) (mg_topOf h _ _) ?_
  refine sg_wr 3 rfl ?_
  refine sg_p_callV rfl rfl rfl g143 rfl (Nat.le_of_ble_eq_true rfl) (Nat.le_of_ble_eq_true rfl) (mg_sizeOf h _ _) ?_
  refine sg_wr 3 rfl ?_
  refine sg_p_callV rfl rfl rfl tb.1 rfl (Nat.le_of_ble_eq_true rfl) (Nat.le_of_ble_eq_true rfl) (tr_lineOf tb _ _) ?_
  refine sg_wr 3 rfl ?_
  refine sg_wb rfl rfl (fun h34 => ?_) (fun h34 => ?_)
  · exact sg_we rfl rfl ⟨rfl, ⟨G.fs, G.fc, h, fun z => z, sg_out.rf⟩, rfl, rfl⟩
  · refine sg_wr 1 rfl ?_
    refine sg_r_getf rfl g143 rfl ?_
    refine sg_wr 2 rfl ?_
    refine sg_r_callV rfl rfl rfl gR.1 rfl (Nat.le_of_ble_eq_true rfl) (Nat.le_of_ble_eq_true rfl) (tr_addLine gR _ _) ?_
    rintro _ _ _ _ ⟨rfl, ⟨gs, gc, rfl, hti⟩, rfl, rfl⟩
    refine sg_a0 ?_
    exact sg_we rfl rfl ⟨rfl, ⟨gs, gc, h.res gs gc, hti, mg_res_out⟩, rfl, rfl⟩
theorem mg_bd_loop {p : Nat} (hp : p ≤ 328) : ∀ (d i : Nat) (M : sg_M) (G : mg_C) (T : sg_L), mg_is M G → mg_tr M G → G.pc = p → d = p - i → i ≤ p → (T = [] ∨ ∃ v : Int32, T = [(2, .int v)]) → wpa Ls xs 38 9 ([(0, .ref 143), (1, .int (nI i))] ++ T) [] M (mg_rq M G) := by
  intro d
  induction d with
  | zero =>
    intro i M G T h ht hpc hd hi hT
    have g143 := h.1
    have e : i = p := by omega
    subst e
    rcases hT with rfl | ⟨v, rfl⟩ <;> (refine sg_wr 2 rfl ?_; refine sg_r_getf rfl g143 rfl ?_; refine sg_wb rfl rfl (fun _ => ?_) (fun h14 => absurd (by rw [hpc]; exact Int32.le_rfl) h14); exact sg_we rfl rfl ⟨rfl, ⟨G.fs, G.fc, h, fun z => z, sg_out.rf⟩, rfl, rfl⟩)
  | succ d ih =>
    intro i M G T h ht hpc hd hi hT
    have hlt : i < p := by omega
    have k65 : ∀ (v : Int32) (M : sg_M) (G : mg_C), mg_is M G → mg_tr M G → G.pc = p → wpa Ls xs 38 65 [(0, .ref 143), (1, .int (nI i)), (2, .int v)] [] M (mg_rq M G) := by
      intro v M G h ht hpc
      refine sg_wr 2 rfl ?_
      refine sg_r_callV rfl rfl rfl h.1 rfl (Nat.le_of_ble_eq_true rfl) (Nat.le_of_ble_eq_true rfl) (mg_held h ht _) ?_
      rintro _ M1 _ _ ⟨rfl, ⟨gs, gc, h1, t1, o1⟩, rfl, rfl⟩
      refine sg_a0 ?_
      refine sg_wr 2 rfl ?_
      have h9 := ih (i + 1) M1 (mg_ur G gs gc) [(2, .int v)] h1 (ht.ur o1) hpc (by omega) hlt (Or.inr ⟨v, rfl⟩)
      rw [nI_succ] at h9
      exact mg_rq_tr h9 t1 o1
    have k59 : ∀ (v : Int32) (M : sg_M) (G : mg_C), mg_is M G → mg_tr M G → G.pc = p → wpa Ls xs 38 59 [(0, .ref 143), (1, .int (nI i)), (2, .int v)] [] M (mg_rq M G) := by
      intro v M G h ht hpc
      refine sg_wr 3 rfl ?_
      refine sg_r_callV rfl rfl rfl h.1 rfl (Nat.le_of_ble_eq_true rfl) (Nat.le_of_ble_eq_true rfl) (mg_append h ht _ _) ?_
      rintro _ M1 _ _ ⟨rfl, ⟨gs, gc, h1, t1, o1⟩, rfl, rfl⟩
      refine sg_a0 ?_
      exact mg_rq_tr (k65 v M1 _ h1 (ht.ur o1) hpc) t1 o1
    have k54 : ∀ (v : Int32) (M : sg_M) (G : mg_C), mg_is M G → mg_tr M G → G.pc = p → wpa Ls xs 38 54 [(0, .ref 143), (1, .int (nI i)), (2, .int v)] [] M (mg_rq M G) := by
      intro v M G h ht hpc
      refine sg_wr 2 rfl ?_
      refine sg_wb rfl rfl (fun h56 => ?_) (fun h56 => ?_)
      · exact k65 v M G h ht hpc
      · exact k59 v M G h ht hpc
    have k48 : ∀ (v : Int32) (M : sg_M) (G : mg_C), mg_is M G → mg_tr M G → G.pc = p → wpa Ls xs 38 48 [(0, .ref 143), (1, .int (nI i)), (2, .int v)] [] M (mg_rq M G) := by
      intro v M G h ht hpc
      refine sg_wr 3 rfl ?_
      refine sg_r_callV rfl rfl rfl h.1 rfl (Nat.le_of_ble_eq_true rfl) (Nat.le_of_ble_eq_true rfl) (mg_append h ht _ _) ?_
      rintro _ M1 _ _ ⟨rfl, ⟨gs, gc, h1, t1, o1⟩, rfl, rfl⟩
      refine sg_a0 ?_
      exact mg_rq_tr (k54 v M1 _ h1 (ht.ur o1) hpc) t1 o1
    have k38 : ∀ (v : Int32) (M : sg_M) (G : mg_C), mg_is M G → mg_tr M G → G.pc = p → wpa Ls xs 38 38 [(0, .ref 143), (1, .int (nI i)), (2, .int v)] [] M (mg_rq M G) := by
      intro v M G h ht hpc
      refine sg_wr 2 rfl ?_
      refine sg_wb rfl rfl (fun h40 => ?_) (fun h40 => ?_)
      · exact k48 v M G h ht hpc
      · refine sg_wr 2 rfl ?_
        refine sg_wb rfl rfl (fun h45 => ?_) (fun h45 => ?_)
        · exact k54 v M G h ht hpc
        · exact k48 v M G h ht hpc
    have k32 : ∀ (v : Int32) (M : sg_M) (G : mg_C), mg_is M G → mg_tr M G → G.pc = p → wpa Ls xs 38 32 [(0, .ref 143), (1, .int (nI i)), (2, .int v)] [] M (mg_rq M G) := by
      intro v M G h ht hpc
      refine sg_wr 3 rfl ?_
      refine sg_r_callV rfl rfl rfl h.1 rfl (Nat.le_of_ble_eq_true rfl) (Nat.le_of_ble_eq_true rfl) (mg_append h ht _ _) ?_
      rintro _ M1 _ _ ⟨rfl, ⟨gs, gc, h1, t1, o1⟩, rfl, rfl⟩
      refine sg_a0 ?_
      exact mg_rq_tr (k38 v M1 _ h1 (ht.ur o1) hpc) t1 o1
    have k23 : ∀ (v : Int32) (M : sg_M) (G : mg_C), mg_is M G → mg_tr M G → G.pc = p → wpa Ls xs 38 23 [(0, .ref 143), (1, .int (nI i)), (2, .int v)] [] M (mg_rq M G) := by
      intro v M G h ht hpc
      refine sg_wr 1 rfl ?_
      refine sg_wb rfl rfl (fun h24 => ?_) (fun h24 => ?_)
      · exact k32 v M G h ht hpc
      · refine sg_wr 2 rfl ?_
        refine sg_wb rfl rfl (fun h29 => ?_) (fun h29 => ?_)
        · exact k38 v M G h ht hpc
        · exact k32 v M G h ht hpc
    have g143 := h.1
    rcases hT with rfl | ⟨v0, rfl⟩
    · refine sg_wr 2 rfl ?_
      refine sg_r_getf rfl g143 rfl ?_
      refine sg_wb rfl rfl (fun h14 => absurd h14 (by rw [hpc]; exact nI_ge hlt (by omega))) (fun h14 => ?_)
      refine sg_wr 2 rfl ?_
      refine sg_p_callV rfl rfl rfl g143 rfl (Nat.le_of_ble_eq_true rfl) (Nat.le_of_ble_eq_true rfl) (mg_wayOf h _) ?_
      refine sg_wr 1 rfl ?_
      exact k23 _ M G h ht hpc
    · refine sg_wr 2 rfl ?_
      refine sg_r_getf rfl g143 rfl ?_
      refine sg_wb rfl rfl (fun h14 => absurd h14 (by rw [hpc]; exact nI_ge hlt (by omega))) (fun h14 => ?_)
      refine sg_wr 2 rfl ?_
      refine sg_p_callV rfl rfl rfl g143 rfl (Nat.le_of_ble_eq_true rfl) (Nat.le_of_ble_eq_true rfl) (mg_wayOf h _) ?_
      refine sg_wr 1 rfl ?_
      exact k23 _ M G h ht hpc

theorem mg_build (h : mg_is M G) (ht : mg_tr M G) (hp : G.pc ≤ 328) : wpm Ls xs 38 [.ref 143] M (fun r M1 c s => r = .inl none ∧ (∃ gs gc : Nat → Int32, mg_is M1 (mg_ur G gs gc) ∧ tr_ti gs ∧ sg_out mg_F M M1) ∧ c = 0 ∧ s = 0) := by
  obtain ⟨g143, g155, g156, g157, g158, g159, g160, gR, g144, g145, g146, g147, g148, g149, g150, g151⟩ := id h
  refine sg_wr 1 rfl ?_
  refine sg_r_getf rfl g143 rfl ?_
  refine sg_p_callV rfl rfl rfl gR.1 rfl (Nat.le_of_ble_eq_true rfl) (Nat.le_of_ble_eq_true rfl) (tr_clear gR) ?_
  refine sg_wr 2 rfl ?_
  have h9 := mg_bd_loop (Ls := Ls) (xs := xs) hp _ 0 _ _ [] (h.res (tr_cl G.fs) G.fc) (ht.ur mg_res_out) rfl rfl (Nat.zero_le _) (Or.inl rfl)
  exact h9.mono fun r M2 c s ⟨e1, ⟨hs, hc, q1, q2, q3⟩, e2, e3⟩ => ⟨e1, ⟨hs, hc, (by rw [mg_ur_ur] at q1; exact q1), q2 tr_cl_ti, mg_res_out.tr q3 (fun _ z => z)⟩, e2, e3⟩
def mg_S (G : mg_C) (x y1 y2 : Int32) : Prop := mg_tos G y1 = mg_tos G y2 ∧ mg_szf G.sz x y1 = mg_szf G.sz x y2 ∧ mg_szf G.to x y1 = mg_szf G.to x y2
abbrev mg_sq (M : sg_M) (G : mg_C) (x y1 y2 : Int32) : Option Value ⊕ Nat → sg_M → Nat → Nat → Prop := fun r M1 c s => (∃ v : Int32, r = .inl (some (.int v)) ∧ (mg_S G x y1 y2 → v = 1)) ∧ M1 = M ∧ c = 0 ∧ s = 0
theorem mg_is_loop (h : mg_is M G) (ht : mg_tr M G) (x y1 y2 z : Int32) : ∀ (m i : Nat), m = z.toNatClampNeg - i → i < 2 ^ 31 → wpa Ls xs 51 24 [(0, .ref 143), (1, .int x), (2, .int y1), (3, .int y2), (4, .int z), (5, .int (nI i))] [] M (mg_sq M G x y1 y2) := by
  intro m
  induction m using Nat.strongRecOn with
  | ind m ih =>
    intro i hm hi
    obtain ⟨s1, c1, fs1, fc1, k1, -⟩ := ht.tos y1
    obtain ⟨s2, c2, fs2, fc2, k2, -⟩ := ht.tos y2
    have hl : mg_S G x y1 y2 → tr_line fs1 fc1 (mg_fof G x) (mg_szf G.to x y1 + nI i) = tr_line fs2 fc2 (mg_fof G x) (mg_szf G.to x y2 + nI i) := fun q => by
      have k1' := k1
      rw [q.1] at k1'
      obtain ⟨e1, e2⟩ := tr_inj k1' k2
      rw [e1, e2, q.2.2]
    have g143 := h.1
    refine sg_wr 2 rfl ?_
    refine sg_wb rfl rfl (fun h28 => ?_) (fun h28 => ?_)
    · refine sg_wr 1 rfl ?_
      exact sg_we rfl rfl ⟨⟨_, rfl, fun _ => rfl⟩, rfl, rfl, rfl⟩
    · refine sg_wr 4 rfl ?_
      refine sg_p_callV rfl rfl rfl g143 rfl (Nat.le_of_ble_eq_true rfl) (Nat.le_of_ble_eq_true rfl) (mg_lineX h k1) ?_
      refine sg_wr 4 rfl ?_
      refine sg_p_callV rfl rfl rfl g143 rfl (Nat.le_of_ble_eq_true rfl) (Nat.le_of_ble_eq_true rfl) (mg_lineX h k2) ?_
      refine sg_wb rfl rfl (fun h47 => ?_) (fun h47 => ?_)
      · refine sg_wr 2 rfl ?_
        have hlt : nI i < z := Int32.not_le.mp h28
        rcases sg_int z with hz0 | ⟨j, hj, rfl⟩
        · exact absurd (Int32.lt_trans hlt hz0) (nI_pos hi)
        · have hij := (nI_ltI hi hj).mp hlt
          have h9 := ih ((nI j).toNatClampNeg - (i + 1)) (by rw [nI_clamp hj] at hm ⊢; omega) (i + 1) rfl (by omega)
          rw [nI_succ] at h9
          exact h9
      · refine sg_wr 1 rfl ?_
        exact sg_we rfl rfl ⟨⟨_, rfl, fun q => absurd (hl q) h47⟩, rfl, rfl, rfl⟩
theorem mg_isSame (h : mg_is M G) (ht : mg_tr M G) (x y1 y2 : Int32) : wpm Ls xs 51 [.ref 143, .int x, .int y1, .int y2] M (mg_sq M G x y1 y2) := by
  have g143 := h.1
  refine sg_wr 3 rfl ?_
  refine sg_p_callV rfl rfl rfl g143 rfl (Nat.le_of_ble_eq_true rfl) (Nat.le_of_ble_eq_true rfl) (mg_sizeOf h _ _) ?_
  refine sg_wr 5 rfl ?_
  refine sg_p_callV rfl rfl rfl g143 rfl (Nat.le_of_ble_eq_true rfl) (Nat.le_of_ble_eq_true rfl) (mg_sizeOf h _ _) ?_
  refine sg_wb rfl rfl (fun h16 => ?_) (fun h16 => ?_)
  · refine sg_wr 2 rfl ?_
    exact mg_is_loop h ht _ _ _ _ _ 0 rfl (by decide)
  · refine sg_wr 1 rfl ?_
    exact sg_we rfl rfl ⟨⟨_, rfl, fun q => absurd q.2.1 h16⟩, rfl, rfl, rfl⟩
def mg_uwy (G : mg_C) (f : Nat → Int32) : mg_C := (mg_mk G.b G.o G.t G.pc G.cc G.fi G.to G.sz (f) G.nx G.cp G.fs G.fc G.l1 G.b1 G.a1 G.l2 G.b2 G.a2 G.p1 G.p2)
def mg_ucp (G : mg_C) (f : Nat → Int32) : mg_C := (mg_mk G.b G.o G.t G.pc (G.cc + 1) G.fi G.to G.sz G.wy G.nx (f) G.fs G.fc G.l1 G.b1 G.a1 G.l2 G.b2 G.a2 G.p1 G.p2)
theorem mg_is.uwy (h : mg_is M G) (f : Nat → Int32) : mg_is (sg_up M.1 158 (.inl (0, 328, .inl f)), M.2) (mg_uwy G f) := by
  obtain ⟨g143, g155, g156, g157, g158, g159, g160, gR, g144, g145, g146, g147, g148, g149, g150, g151⟩ := id h
  exact ⟨g143, g155, g156, g157, rfl, g159, g160, gR, g144, g145, g146, g147, g148, g149, g150, g151⟩
theorem mg_is.ucp (h : mg_is M G) (f : Nat → Int32) : mg_is (sg_up (sg_up M.1 160 (.inl (0, 328, .inl f))) 143 (.inr (3, (mg_fs G).set 13 (.int (nI G.cc + 1)))), M.2) (mg_ucp G f) := by
  obtain ⟨g143, g155, g156, g157, g158, g159, g160, gR, g144, g145, g146, g147, g148, g149, g150, g151⟩ := id h
  exact ⟨congrArg (fun z => some (Sum.inr (3, z))) (by rw [nI_1]; rfl), g155, g156, g157, g158, g159, rfl, gR, g144, g145, g146, g147, g148, g149, g150, g151⟩
def mg_kc (G G1 : mg_C) : Prop := G1.b = G.b ∧ G1.o = G.o ∧ G1.t = G.t ∧ G1.pc = G.pc ∧ G1.fs = G.fs ∧ G1.fc = G.fc ∧ G1.to = G.to ∧ G1.sz = G.sz
abbrev mg_hq (M : sg_M) (G : mg_C) (x : Int32) : Option Value ⊕ Nat → sg_M → Nat → Nat → Prop := fun r M1 c s => r = .inl none ∧ (∃ G1 : mg_C, mg_is M1 G1 ∧ sg_out mg_F M M1 ∧ mg_kc G G1 ∧ G1.cc ≤ 328 ∧ (mg_S G x 0 1 → G1.cc = G.cc)) ∧ c = 0 ∧ s = 0
theorem mg_choose (h : mg_is M G) (ht : mg_tr M G) (hc : G.cc ≤ 328) {i : Nat} (hi : i < 328) : wpm Ls xs 50 [.ref 143, .int (nI i)] M (mg_hq M G (nI i)) := by
  obtain ⟨g143, g155, g156, g157, g158, g159, g160, gR, g144, g145, g146, g147, g148, g149, g150, g151⟩ := id h
  refine sg_wr 1 rfl ?_
  refine sg_p_callS rfl rfl rfl rfl (Nat.le_of_ble_eq_true rfl) (Nat.le_of_ble_eq_true rfl) (mg_isPiece_n hi) ?_
  refine sg_wr 1 rfl ?_
  refine sg_wr 4 rfl ?_
  refine sg_r_callV rfl rfl rfl g143 rfl (Nat.le_of_ble_eq_true rfl) (Nat.le_of_ble_eq_true rfl) (mg_isSame h ht (nI i) 0 2) ?_
  rintro _ _ _ _ ⟨⟨v12, rfl, hS12⟩, rfl, rfl, rfl⟩
  refine sg_a0 ?_
  refine sg_wb rfl rfl (fun h15 => ?_) (fun h15 => ?_)
  · refine sg_wr 4 rfl ?_
    refine sg_r_callV rfl rfl rfl g143 rfl (Nat.le_of_ble_eq_true rfl) (Nat.le_of_ble_eq_true rfl) (mg_isSame h ht (nI i) 1 2) ?_
    rintro _ _ _ _ ⟨⟨v32, rfl, hS32⟩, rfl, rfl, rfl⟩
    refine sg_a0 ?_
    refine sg_wb rfl rfl (fun h35 => ?_) (fun h35 => ?_)
    · refine sg_wr 1 rfl ?_
      refine sg_r_getf rfl g143 rfl ?_
      refine sg_wr 2 rfl ?_
      refine sg_r_iast rfl g158 (sg_in_n hi (by decide)) ?_
      refine sg_wr 1 rfl ?_
      exact sg_we rfl rfl ⟨rfl, ⟨_, h.uwy _, sg_out.rf.up (by decide), ⟨rfl, rfl, rfl, rfl, rfl, rfl, rfl, rfl⟩, hc, fun _ => rfl⟩, rfl, rfl⟩
    · refine sg_wr 4 rfl ?_
      refine sg_r_callV rfl rfl rfl g143 rfl (Nat.le_of_ble_eq_true rfl) (Nat.le_of_ble_eq_true rfl) (mg_isSame h ht (nI i) 0 1) ?_
      rintro _ _ _ _ ⟨⟨v42, rfl, hS42⟩, rfl, rfl, rfl⟩
      refine sg_a0 ?_
      refine sg_wb rfl rfl (fun h45 => ?_) (fun h45 => ?_)
      · refine sg_wr 1 rfl ?_
        refine sg_r_getf rfl g143 rfl ?_
        refine sg_p_callS rfl rfl rfl rfl (Nat.le_of_ble_eq_true rfl) (Nat.le_of_ble_eq_true rfl) (mg_isPiece _) ?_
        refine sg_wb rfl rfl (fun h65 => ?_) (fun h65 => ?_)
        · exact sg_we rfl rfl ⟨rfl, ⟨G, h, sg_out.rf, ⟨rfl, rfl, rfl, rfl, rfl, rfl, rfl, rfl⟩, hc, fun _ => rfl⟩, rfl, rfl⟩
        · refine sg_wr 1 rfl ?_
          refine sg_r_getf rfl g143 rfl ?_
          refine sg_wr 1 rfl ?_
          refine sg_r_getf rfl g143 rfl ?_
          refine sg_wr 1 rfl ?_
          have hlt : G.cc < 328 := (nI_ltI (b := 328) (by omega) (by decide)).mp (Int32.not_le.mp (mg_isp_0 h65).2)
          refine sg_r_iast rfl g160 (sg_in_n hlt (by decide)) ?_
          refine sg_wr 2 rfl ?_
          refine sg_r_getf rfl g143 rfl ?_
          refine sg_wr 2 rfl ?_
          refine sg_r_putf rfl g143 (Nat.le_of_ble_eq_true rfl) rfl ?_
          exact sg_we rfl rfl ⟨rfl, ⟨_, h.ucp _, (sg_out.rf.up (a := 160) (by decide)).up (a := 143) (by decide), ⟨rfl, rfl, rfl, rfl, rfl, rfl, rfl, rfl⟩, hlt, fun q => absurd (h45.symm.trans (hS42 q)) (by decide)⟩, rfl, rfl⟩
      · refine sg_wr 1 rfl ?_
        refine sg_r_getf rfl g143 rfl ?_
        refine sg_wr 2 rfl ?_
        refine sg_r_iast rfl g158 (sg_in_n hi (by decide)) ?_
        refine sg_wr 1 rfl ?_
        exact sg_we rfl rfl ⟨rfl, ⟨_, h.uwy _, sg_out.rf.up (by decide), ⟨rfl, rfl, rfl, rfl, rfl, rfl, rfl, rfl⟩, hc, fun _ => rfl⟩, rfl, rfl⟩
  · refine sg_wr 1 rfl ?_
    refine sg_r_getf rfl g143 rfl ?_
    refine sg_wr 2 rfl ?_
    refine sg_r_iast rfl g158 (sg_in_n hi (by decide)) ?_
    refine sg_wr 1 rfl ?_
    exact sg_we rfl rfl ⟨rfl, ⟨_, h.uwy _, sg_out.rf.up (by decide), ⟨rfl, rfl, rfl, rfl, rfl, rfl, rfl, rfl⟩, hc, fun _ => rfl⟩, rfl, rfl⟩
end
end SGMF
