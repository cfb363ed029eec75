section SGME
/-! Merging: its cells are 143 to 160 -/
def mg_C : Type := (Nat × Nat × Nat × Nat × Nat) × ((Nat → Int32) × (Nat → Int32) × (Nat → Int32) × (Nat → Int32) × (Nat → Int32) × (Nat → Int32)) × ((Nat → Int32) × (Nat → Int32)) × ((Nat → Int32) × (Nat → Int32) × (Nat → Int32)) × ((Nat → Int32) × (Nat → Int32) × (Nat → Int32)) × Int32 × Int32
def mg_C.b (G : mg_C) : Nat := G.1.1
def mg_C.o (G : mg_C) : Nat := G.1.2.1
def mg_C.t (G : mg_C) : Nat := G.1.2.2.1
def mg_C.pc (G : mg_C) : Nat := G.1.2.2.2.1
def mg_C.cc (G : mg_C) : Nat := G.1.2.2.2.2
def mg_C.fi (G : mg_C) : Nat → Int32 := G.2.1.1
def mg_C.to (G : mg_C) : Nat → Int32 := G.2.1.2.1
def mg_C.sz (G : mg_C) : Nat → Int32 := G.2.1.2.2.1
def mg_C.wy (G : mg_C) : Nat → Int32 := G.2.1.2.2.2.1
def mg_C.nx (G : mg_C) : Nat → Int32 := G.2.1.2.2.2.2.1
def mg_C.cp (G : mg_C) : Nat → Int32 := G.2.1.2.2.2.2.2
def mg_C.fs (G : mg_C) : Nat → Int32 := G.2.2.1.1
def mg_C.fc (G : mg_C) : Nat → Int32 := G.2.2.1.2
def mg_C.l1 (G : mg_C) : Nat → Int32 := G.2.2.2.1.1
def mg_C.b1 (G : mg_C) : Nat → Int32 := G.2.2.2.1.2.1
def mg_C.a1 (G : mg_C) : Nat → Int32 := G.2.2.2.1.2.2
def mg_C.l2 (G : mg_C) : Nat → Int32 := G.2.2.2.2.1.1
def mg_C.b2 (G : mg_C) : Nat → Int32 := G.2.2.2.2.1.2.1
def mg_C.a2 (G : mg_C) : Nat → Int32 := G.2.2.2.2.1.2.2
def mg_C.p1 (G : mg_C) : Int32 := G.2.2.2.2.2.1
def mg_C.p2 (G : mg_C) : Int32 := G.2.2.2.2.2.2
def mg_mk (b o t pc cc : Nat) (fi to sz wy nx cp fs fc l1 b1 a1 l2 b2 a2 : Nat → Int32) (p1 p2 : Int32) : mg_C := ((b, o, t, pc, cc), (fi, to, sz, wy, nx, cp), (fs, fc), (l1, b1, a1), (l2, b2, a2), p1, p2)
def mg_upc (G : mg_C) (v : Nat) : mg_C := (mg_mk G.b G.o G.t (v) G.cc G.fi G.to G.sz G.wy G.nx G.cp G.fs G.fc G.l1 G.b1 G.a1 G.l2 G.b2 G.a2 G.p1 G.p2)
abbrev mg_F : List Nat := [143, 144, 145, 146, 147, 148, 149, 150, 151, 152, 153, 154, 155, 156, 157, 158, 159, 160]
def mg_fs (G : mg_C) : List Value := [.ref 144, .ref 148, .ref 152, .ref G.b, .ref G.o, .ref G.t, .ref 155, .ref 156, .ref 157, .ref 158, .int (nI G.pc), .ref 159, .ref 160, .int (nI G.cc)]
def mg_is (M : sg_M) (G : mg_C) : Prop := M.1 143 = some (.inr (3, mg_fs G)) ∧ M.1 155 = some (.inl (0, 328, .inl G.fi)) ∧ M.1 156 = some (.inl (0, 984, .inl G.to)) ∧ M.1 157 = some (.inl (0, 984, .inl G.sz)) ∧ M.1 158 = some (.inl (0, 328, .inl G.wy)) ∧ M.1 159 = some (.inl (0, 3, .inl G.nx)) ∧ M.1 160 = some (.inl (0, 328, .inl G.cp)) ∧ tr_is M 152 153 154 G.fs G.fc ∧
  M.1 144 = some (.inr (2, [.ref 145, .ref 146, .ref 147, .int G.p1])) ∧ M.1 145 = some (.inl (0, 1681, .inl G.l1)) ∧ M.1 146 = some (.inl (0, 40, .inl G.b1)) ∧ M.1 147 = some (.inl (0, 40, .inl G.a1)) ∧
  M.1 148 = some (.inr (2, [.ref 149, .ref 150, .ref 151, .int G.p2])) ∧ M.1 149 = some (.inl (0, 1681, .inl G.l2)) ∧ M.1 150 = some (.inl (0, 40, .inl G.b2)) ∧ M.1 151 = some (.inl (0, 40, .inl G.a2))
theorem mg_set10 {G : mg_C} : (mg_fs G).set 10 (.int (nI G.pc + 1)) = mg_fs (mg_mk G.b G.o G.t (G.pc + 1) G.cc G.fi G.to G.sz G.wy G.nx G.cp G.fs G.fc G.l1 G.b1 G.a1 G.l2 G.b2 G.a2 G.p1 G.p2) := by
  rw [nI_1]
  rfl
theorem mg_set13 {G : mg_C} : (mg_fs G).set 13 (.int (nI G.cc + 1)) = mg_fs (mg_mk G.b G.o G.t G.pc (G.cc + 1) G.fi G.to G.sz G.wy G.nx G.cp G.fs G.fc G.l1 G.b1 G.a1 G.l2 G.b2 G.a2 G.p1 G.p2) := by
  rw [nI_1]
  rfl
section
variable {Ls : Nat} {xs : Nat → Int32} {M : sg_M} {G : mg_C}
def mg_ur (G : mg_C) (gs gc : Nat → Int32) : mg_C := (mg_mk G.b G.o G.t G.pc G.cc G.fi G.to G.sz G.wy G.nx G.cp (gs) (gc) G.l1 G.b1 G.a1 G.l2 G.b2 G.a2 G.p1 G.p2)
theorem mg_is.res (h : mg_is M G) (gs gc : Nat → Int32) : mg_is (tr_st M 153 154 gs gc) (mg_ur G gs gc) := by
  obtain ⟨g143, g155, g156, g157, g158, g159, g160, gR, g144, g145, g146, g147, g148, g149, g150, g151⟩ := h
  exact ⟨g143, g155, g156, g157, g158, g159, g160, tr_st_is gR, g144, g145, g146, g147, g148, g149, g150, g151⟩
theorem mg_res_out {gs gc : Nat → Int32} : sg_out mg_F M (tr_st M 153 154 gs gc) := tr_st_out.mono (by decide)
/-- what is asked of it -/
def mg_pof (G : mg_C) (x : Int32) : Int32 := if x < 0 then -1 else if nI G.cc ≤ x then -1 else if x < 328 then G.cp x.toNatClampNeg else -1
def mg_fof (G : mg_C) (x : Int32) : Int32 := if x < 0 then -1 else if x < 328 then G.fi x.toNatClampNeg else -1
def mg_szf (f : Nat → Int32) (x y : Int32) : Int32 := if x < 0 then -1 else if 328 ≤ x then -1 else if y < 0 then -1 else if y < 3 then f (y * 328 + x).toNatClampNeg else -1
def mg_isp (x : Int32) : Int32 := if x < 0 then 0 else if 328 ≤ x then 0 else 1
def mg_wof (G : mg_C) (x : Int32) : Int32 := if mg_isp x = 0 then -1 else G.wy x.toNatClampNeg
def mg_tos (G : mg_C) (y : Int32) : Nat := if ¬ y = 0 then (if ¬ y = 1 then G.b else G.t) else G.o
theorem mg_isp_n {i : Nat} (h : i < 328) : mg_isp (nI i) = 1 := by
  unfold mg_isp
  rw [if_neg (nI_pos (by omega)), if_neg (show ¬ 328 ≤ nI i from nI_ge (b := 328) h (by decide))]
theorem mg_isp_0 {x : Int32} (h : ¬ mg_isp x = 0) : ¬ x < 0 ∧ ¬ 328 ≤ x := by
  unfold mg_isp at h
  refine ⟨fun z => h (if_pos z), fun z => ?_⟩
  by_cases c : x < 0
  · exact h (if_pos c)
  · exact h (by rw [if_neg c, if_pos z])
theorem mg_ix {s p : Nat} : nI s * 328 + nI p = nI (s * 328 + p) := by rw [show (328 : Int32) = nI 328 from rfl, pk_mul, nI_add]
theorem mg_in {x y : Int32} (c1 : ¬ x < 0) (c2 : ¬ 328 ≤ x) (c3 : ¬ y < 0) (c4 : y < 3) : sg_in (y * 328 + x) 984 = true := by
  obtain ⟨i, hi, rfl⟩ := nI_of c1
  obtain ⟨k, hk, rfl⟩ := nI_of c3
  have h1 : i < 328 := Nat.not_le.mp fun z => c2 (nI_le (a := 328) z hi)
  have h2 : k < 3 := (nI_ltI hk (by decide)).mp c4
  rw [mg_ix]
  exact sg_in_n (by omega) (by decide)
theorem mg_isPiece (x : Int32) : wpm Ls xs 43 [.int x] M (sg_eq (some (.int (mg_isp x))) M) := by
  unfold mg_isp
  refine sg_wr 1 rfl ?_
  refine sg_wb rfl rfl (fun h1 => ?_) (fun h1 => ?_)
  · rw [if_pos h1]
    refine sg_wr 1 rfl ?_
    exact sg_we rfl rfl ⟨rfl, rfl, rfl, rfl⟩
  · rw [if_neg h1]
    refine sg_wr 2 rfl ?_
    refine sg_wb rfl rfl (fun h8 => ?_) (fun h8 => ?_)
    · rw [if_pos h8]
      refine sg_wr 1 rfl ?_
      exact sg_we rfl rfl ⟨rfl, rfl, rfl, rfl⟩
    · rw [if_neg h8]
      refine sg_wr 2 rfl ?_
      exact sg_we rfl rfl ⟨rfl, rfl, rfl, rfl⟩
theorem mg_isPiece_n {i : Nat} (h : i < 328) : wpm Ls xs 43 [.int (nI i)] M (sg_eq (some (.int 1)) M) := by
  have h9 := mg_isPiece (Ls := Ls) (xs := xs) (M := M) (nI i)
  rw [mg_isp_n h] at h9
  exact h9
theorem mg_pieceOf (h : mg_is M G) (x : Int32) : wpm Ls xs 39 [.ref 143, .int x] M (sg_eq (some (.int (mg_pof G x))) M) := by
  obtain ⟨g143, g155, g156, g157, g158, g159, g160, gR, g144, g145, g146, g147, g148, g149, g150, g151⟩ := id h
  unfold mg_pof
  refine sg_wr 1 rfl ?_
  refine sg_wb rfl rfl (fun h1 => ?_) (fun h1 => ?_)
  · rw [if_pos h1]
    refine sg_wr 2 rfl ?_
    exact sg_we rfl rfl ⟨rfl, rfl, rfl, rfl⟩
  · rw [if_neg h1]
    refine sg_wr 2 rfl ?_
    refine sg_r_getf rfl g143 rfl ?_
    refine sg_wb rfl rfl (fun h9 => ?_) (fun h9 => ?_)
    · rw [if_pos h9]
      refine sg_wr 2 rfl ?_
      exact sg_we rfl rfl ⟨rfl, rfl, rfl, rfl⟩
    · rw [if_neg h9]
      refine sg_wr 2 rfl ?_
      refine sg_wb rfl rfl (fun h16 => ?_) (fun h16 => ?_)
      · rw [if_pos h16]
        refine sg_wr 1 rfl ?_
        refine sg_r_getf rfl g143 rfl ?_
        refine sg_wr 1 rfl ?_
        refine sg_r_iald rfl (by decide) g160 (sg_in_lt (n := 328) (by decide) h1 h16).1 ?_
        exact sg_we rfl rfl ⟨rfl, rfl, rfl, rfl⟩
      · rw [if_neg h16]
        refine sg_wr 2 rfl ?_
        exact sg_we rfl rfl ⟨rfl, rfl, rfl, rfl⟩
theorem mg_fileOf (h : mg_is M G) (x : Int32) : wpm Ls xs 40 [.ref 143, .int x] M (sg_eq (some (.int (mg_fof G x))) M) := by
  obtain ⟨g143, g155, g156, g157, g158, g159, g160, gR, g144, g145, g146, g147, g148, g149, g150, g151⟩ := id h
  unfold mg_fof
  refine sg_wr 1 rfl ?_
  refine sg_wb rfl rfl (fun h1 => ?_) (fun h1 => ?_)
  · rw [if_pos h1]
    refine sg_wr 2 rfl ?_
    exact sg_we rfl rfl ⟨rfl, rfl, rfl, rfl⟩
  · rw [if_neg h1]
    refine sg_wr 2 rfl ?_
    refine sg_wb rfl rfl (fun h8 => ?_) (fun h8 => ?_)
    · rw [if_pos h8]
      refine sg_wr 1 rfl ?_
      refine sg_r_getf rfl g143 rfl ?_
      refine sg_wr 1 rfl ?_
      refine sg_r_iald rfl (by decide) g155 (sg_in_lt (n := 328) (by decide) h1 h8).1 ?_
      exact sg_we rfl rfl ⟨rfl, rfl, rfl, rfl⟩
    · rw [if_neg h8]
      refine sg_wr 2 rfl ?_
      exact sg_we rfl rfl ⟨rfl, rfl, rfl, rfl⟩
theorem mg_sizeOf (h : mg_is M G) (x y : Int32) : wpm Ls xs 41 [.ref 143, .int x, .int y] M (sg_eq (some (.int (mg_szf G.sz x y))) M) := by
  obtain ⟨g143, g155, g156, g157, g158, g159, g160, gR, g144, g145, g146, g147, g148, g149, g150, g151⟩ := id h
  unfold mg_szf
  refine sg_wr 1 rfl ?_
  refine sg_wb rfl rfl (fun h1 => ?_) (fun h1 => ?_)
  · rw [if_pos h1]
    refine sg_wr 1 rfl ?_
    exact sg_we rfl rfl ⟨rfl, rfl, rfl, rfl⟩
  · rw [if_neg h1]
    refine sg_wr 2 rfl ?_
    refine sg_wb rfl rfl (fun h8 => ?_) (fun h8 => ?_)
    · rw [if_pos h8]
      refine sg_wr 1 rfl ?_
      exact sg_we rfl rfl ⟨rfl, rfl, rfl, rfl⟩
    · rw [if_neg h8]
      refine sg_wr 1 rfl ?_
      refine sg_wb rfl rfl (fun h12 => ?_) (fun h12 => ?_)
      · rw [if_pos h12]
        refine sg_wr 1 rfl ?_
        exact sg_we rfl rfl ⟨rfl, rfl, rfl, rfl⟩
      · rw [if_neg h12]
        refine sg_wr 2 rfl ?_
        refine sg_wb rfl rfl (fun h17 => ?_) (fun h17 => ?_)
        · rw [if_pos h17]
          refine sg_wr 1 rfl ?_
          refine sg_r_getf rfl g143 rfl ?_
          refine sg_wr 5 rfl ?_
          refine sg_r_iald rfl (by decide) g157 (mg_in h1 h8 h12 h17) ?_
          exact sg_we rfl rfl ⟨rfl, rfl, rfl, rfl⟩
        · rw [if_neg h17]
          refine sg_wr 1 rfl ?_
          exact sg_we rfl rfl ⟨rfl, rfl, rfl, rfl⟩
theorem mg_topOf (h : mg_is M G) (x y : Int32) : wpm Ls xs 44 [.ref 143, .int x, .int y] M (sg_eq (some (.int (mg_szf G.to x y))) M) := by
  obtain ⟨g143, g155, g156, g157, g158, g159, g160, gR, g144, g145, g146, g147, g148, g149, g150, g151⟩ := id h
  unfold mg_szf
  refine sg_wr 1 rfl ?_
  refine sg_wb rfl rfl (fun h1 => ?_) (fun h1 => ?_)
  · rw [if_pos h1]
    refine sg_wr 1 rfl ?_
    exact sg_we rfl rfl ⟨rfl, rfl, rfl, rfl⟩
  · rw [if_neg h1]
    refine sg_wr 2 rfl ?_
    refine sg_wb rfl rfl (fun h8 => ?_) (fun h8 => ?_)
    · rw [if_pos h8]
      refine sg_wr 1 rfl ?_
      exact sg_we rfl rfl ⟨rfl, rfl, rfl, rfl⟩
    · rw [if_neg h8]
      refine sg_wr 1 rfl ?_
      refine sg_wb rfl rfl (fun h12 => ?_) (fun h12 => ?_)
      · rw [if_pos h12]
        refine sg_wr 1 rfl ?_
        exact sg_we rfl rfl ⟨rfl, rfl, rfl, rfl⟩
      · rw [if_neg h12]
        refine sg_wr 2 rfl ?_
        refine sg_wb rfl rfl (fun h17 => ?_) (fun h17 => ?_)
        · rw [if_pos h17]
          refine sg_wr 1 rfl ?_
          refine sg_r_getf rfl g143 rfl ?_
          refine sg_wr 5 rfl ?_
          refine sg_r_iald rfl (by decide) g156 (mg_in h1 h8 h12 h17) ?_
          exact sg_we rfl rfl ⟨rfl, rfl, rfl, rfl⟩
        · rw [if_neg h17]
          refine sg_wr 1 rfl ?_
          exact sg_we rfl rfl ⟨rfl, rfl, rfl, rfl⟩
theorem mg_wayOf (h : mg_is M G) (x : Int32) : wpm Ls xs 45 [.ref 143, .int x] M (sg_eq (some (.int (mg_wof G x))) M) := by
  obtain ⟨g143, g155, g156, g157, g158, g159, g160, gR, g144, g145, g146, g147, g148, g149, g150, g151⟩ := id h
  unfold mg_wof
  refine sg_wr 1 rfl ?_
  refine sg_p_callS rfl rfl rfl rfl (Nat.le_of_ble_eq_true rfl) (Nat.le_of_ble_eq_true rfl) (mg_isPiece x) ?_
  refine sg_wb rfl rfl (fun h4 => ?_) (fun h4 => ?_)
  · rw [if_pos h4]
    refine sg_wr 1 rfl ?_
    exact sg_we rfl rfl ⟨rfl, rfl, rfl, rfl⟩
  · rw [if_neg h4]
    refine sg_wr 1 rfl ?_
    refine sg_r_getf rfl g143 rfl ?_
    refine sg_wr 1 rfl ?_
    refine sg_r_iald rfl (by decide) g158 (sg_in_ge (n := 328) (by decide) (mg_isp_0 h4).1 (mg_isp_0 h4).2) ?_
    refine sg_wr 1 rfl ?_
    exact sg_we rfl rfl ⟨rfl, rfl, rfl, rfl⟩
theorem mg_treeOf (h : mg_is M G) (y : Int32) : wpm Ls xs 46 [.ref 143, .int y] M (sg_eq (some (.ref (mg_tos G y))) M) := by
  obtain ⟨g143, g155, g156, g157, g158, g159, g160, gR, g144, g145, g146, g147, g148, g149, g150, g151⟩ := id h
  unfold mg_tos
  refine sg_wr 1 rfl ?_
  refine sg_wb rfl rfl (fun h1 => ?_) (fun h1 => ?_)
  · rw [if_pos h1]
    refine sg_wr 2 rfl ?_
    refine sg_wb rfl rfl (fun h13 => ?_) (fun h13 => ?_)
    · rw [if_pos h13]
      refine sg_wr 1 rfl ?_
      refine sg_r_getf rfl g143 rfl ?_
      exact sg_we rfl rfl ⟨rfl, rfl, rfl, rfl⟩
    · rw [if_neg h13]
      refine sg_wr 1 rfl ?_
      refine sg_r_getf rfl g143 rfl ?_
      refine sg_wr 1 rfl ?_
      exact sg_we rfl rfl ⟨rfl, rfl, rfl, rfl⟩
  · rw [if_neg h1]
    refine sg_wr 1 rfl ?_
    refine sg_r_getf rfl g143 rfl ?_
    refine sg_wr 1 rfl ?_
    exact sg_we rfl rfl ⟨rfl, rfl, rfl, rfl⟩
theorem mg_count (h : mg_is M G) : wpm Ls xs 35 [.ref 143] M (sg_eq (some (.int (nI G.cc))) M) := by
  obtain ⟨g143, g155, g156, g157, g158, g159, g160, gR, g144, g145, g146, g147, g148, g149, g150, g151⟩ := id h
  refine sg_wr 1 rfl ?_
  refine sg_r_getf rfl g143 rfl ?_
  exact sg_we rfl rfl ⟨rfl, rfl, rfl, rfl⟩
/-- a tree out of merging's cells -/
def mg_t (M : sg_M) (t : Nat) : Prop := ∃ (s c : Nat) (fs fc : Nat → Int32), tr_is M t s c fs fc ∧ t ∉ mg_F ∧ s ∉ mg_F ∧ c ∉ mg_F ∧ tr_ti fs
theorem mg_t.out {t : Nat} {M1 : sg_M} (h : mg_t M t) (ho : sg_out mg_F M M1) : mg_t M1 t := by
  obtain ⟨s, c, fs, fc, h1, h2, h3, h4, h5⟩ := h
  exact ⟨s, c, fs, fc, h1.out ho h2 h3 h4, h2, h3, h4, h5⟩
def mg_tr (M : sg_M) (G : mg_C) : Prop := mg_t M G.b ∧ mg_t M G.o ∧ mg_t M G.t
theorem mg_tr.out {M1 : sg_M} {G1 : mg_C} (h : mg_tr M G) (ho : sg_out mg_F M M1) (h1 : G1.b = G.b) (h2 : G1.o = G.o) (h3 : G1.t = G.t) : mg_tr M1 G1 := by
  unfold mg_tr
  rw [h1, h2, h3]
  exact ⟨h.1.out ho, h.2.1.out ho, h.2.2.out ho⟩
theorem mg_tr.tos (h : mg_tr M G) (y : Int32) : mg_t M (mg_tos G y) := by
  unfold mg_tos
  split
  · split
    · exact h.1
    · exact h.2.2
  · exact h.2.1
theorem tr_inj {t s c s2 c2 : Nat} {fs fc gs gc : Nat → Int32} (h : tr_is M t s c fs fc) (g : tr_is M t s2 c2 gs gc) : fs = gs ∧ fc = gc := by
  have e := Option.some.inj (h.1.symm.trans g.1)
  injection e with e
  injection e with _ e
  injection e with e1 e
  injection e with e2 _
  injection e1 with e1
  injection e2 with e2
  subst e1
  subst e2
  have e := Option.some.inj (h.2.1.symm.trans g.2.1)
  have e' := Option.some.inj (h.2.2.1.symm.trans g.2.2.1)
  injection e with e
  injection e with _ e
  injection e with _ e
  injection e with e
  injection e' with e'
  injection e' with _ e'
  injection e' with _ e'
  injection e' with e'
  exact ⟨e, e'⟩
theorem mg_lineX (h : mg_is M G) {x y z : Int32} {s c : Nat} {fs fc : Nat → Int32} (ht : tr_is M (mg_tos G y) s c fs fc) : wpm Ls xs 42 [.ref 143, .int x, .int y, .int z] M (sg_eq (some (.int (tr_line fs fc (mg_fof G x) (mg_szf G.to x y + z)))) M) := by
  obtain ⟨g143, g155, g156, g157, g158, g159, g160, gR, g144, g145, g146, g147, g148, g149, g150, g151⟩ := id h
  refine sg_wr 2 rfl ?_
  refine sg_p_callV rfl rfl rfl g143 rfl (Nat.le_of_ble_eq_true rfl) (Nat.le_of_ble_eq_true rfl) (mg_treeOf h y) ?_
  refine sg_wr 2 rfl ?_
  refine sg_p_callV rfl rfl rfl g143 rfl (Nat.le_of_ble_eq_true rfl) (Nat.le_of_ble_eq_true rfl) (mg_fileOf h x) ?_
  refine sg_wr 3 rfl ?_
  refine sg_p_callV rfl rfl rfl g143 rfl (Nat.le_of_ble_eq_true rfl) (Nat.le_of_ble_eq_true rfl) (mg_topOf h x y) ?_
  refine sg_wr 2 rfl ?_
  refine sg_p_callV rfl rfl rfl ht.1 rfl (Nat.le_of_ble_eq_true rfl) (Nat.le_of_ble_eq_true rfl) (tr_lineOf ht _ _) ?_
  exact sg_we rfl rfl ⟨rfl, rfl, rfl, rfl⟩
theorem mg_lineW (h : mg_is M G) (ht : mg_tr M G) (x y z : Int32) : ∃ v : Int32, wpm Ls xs 42 [.ref 143, .int x, .int y, .int z] M (sg_eq (some (.int v)) M) := by
  obtain ⟨s, c, fs, fc, h1, -⟩ := ht.tos y
  exact ⟨_, mg_lineX h h1⟩
/-- how many are open, as a function -/
def mg_op (G : mg_C) : Nat → Nat → Nat → Nat
  | 0, _, v => v
  | d + 1, i, v => mg_op G d (i + 1) (if ¬ mg_wof G (mg_pof G (nI i)) = -1 then v else v + 1)
theorem mg_op_le : ∀ (d i v : Nat), mg_op G d i v ≤ v + d := by
  intro d
  induction d with
  | zero => intro i v; exact Nat.le_refl _
  | succ d ih =>
    intro i v
    unfold mg_op
    refine Nat.le_trans (ih _ _) ?_
    split <;> omega
theorem mg_oc_loop (h : mg_is M G) (hc : G.cc ≤ 328) : ∀ (d i v : Nat), d = G.cc - i → i ≤ G.cc → wpa Ls xs 36 4 [(0, .ref 143), (1, .int (nI v)), (2, .int (nI i))] [] M (sg_eq (some (.int (nI (mg_op G d i v)))) M) := by
  have g143 := h.1
  intro d
  induction d with
  | zero =>
    intro i v hd hi
    have e : i = G.cc := by omega
    subst e
    refine sg_wr 2 rfl ?_
    refine sg_r_getf rfl g143 rfl ?_
    refine sg_wb rfl rfl (fun _ => ?_) (fun h9 => absurd Int32.le_rfl h9)
    refine sg_wr 1 rfl ?_
    exact sg_we rfl rfl ⟨rfl, rfl, rfl, rfl⟩
  | succ d ih =>
    intro i v hd hi
    have hlt : i < G.cc := by omega
    unfold mg_op
    refine sg_wr 2 rfl ?_
    refine sg_r_getf rfl g143 rfl ?_
    refine sg_wb rfl rfl (fun h9 => absurd h9 (nI_ge hlt (by omega))) (fun h9 => ?_)
    refine sg_wr 3 rfl ?_
    refine sg_p_callV rfl rfl rfl g143 rfl (Nat.le_of_ble_eq_true rfl) (Nat.le_of_ble_eq_true rfl) (mg_pieceOf h _) ?_
    refine sg_p_callV rfl rfl rfl g143 rfl (Nat.le_of_ble_eq_true rfl) (Nat.le_of_ble_eq_true rfl) (mg_wayOf h _) ?_
    refine sg_wr 1 rfl ?_
    refine sg_wb rfl rfl (fun h22 => ?_) (fun h22 => ?_)
    · rw [if_pos h22]
      refine sg_wr 2 rfl ?_
      have h9 := ih (i + 1) v (by omega) hlt
      rw [nI_succ] at h9
      try rw [nI_succ] at h9
      exact h9
    · rw [if_neg h22]
      refine sg_wr 1 rfl ?_
      refine sg_wr 2 rfl ?_
      have h9 := ih (i + 1) (v + 1) (by omega) hlt
      rw [nI_succ] at h9
      try rw [nI_succ] at h9
      exact h9
theorem mg_openCount (h : mg_is M G) (hc : G.cc ≤ 328) : wpm Ls xs 36 [.ref 143] M (sg_eq (some (.int (nI (mg_op G G.cc 0 0)))) M) := by
  refine sg_wr 4 rfl ?_
  exact mg_oc_loop h hc G.cc 0 0 rfl (Nat.zero_le _)
theorem mg_setWay (h : mg_is M G) (x v : Int32) : wpm Ls xs 37 [.ref 143, .int x, .int v] M (fun r M1 c s => r = .inl none ∧ (∃ wy : Nat → Int32, mg_is M1 (mg_mk G.b G.o G.t G.pc G.cc G.fi G.to G.sz (wy) G.nx G.cp G.fs G.fc G.l1 G.b1 G.a1 G.l2 G.b2 G.a2 G.p1 G.p2) ∧ sg_out mg_F M M1) ∧ c = 0 ∧ s = 0) := by
  obtain ⟨g143, g155, g156, g157, g158, g159, g160, gR, g144, g145, g146, g147, g148, g149, g150, g151⟩ := id h
  refine sg_wr 2 rfl ?_
  refine sg_p_callV rfl rfl rfl g143 rfl (Nat.le_of_ble_eq_true rfl) (Nat.le_of_ble_eq_true rfl) (mg_pieceOf h _) ?_
  refine sg_wr 2 rfl ?_
  refine sg_p_callS rfl rfl rfl rfl (Nat.le_of_ble_eq_true rfl) (Nat.le_of_ble_eq_true rfl) (mg_isPiece _) ?_
  refine sg_wb rfl rfl (fun h10 => ?_) (fun h10 => ?_)
  · exact sg_we rfl rfl ⟨rfl, ⟨G.wy, h, sg_out.rf⟩, rfl, rfl⟩
  · refine sg_wr 1 rfl ?_
    refine sg_r_getf rfl g143 rfl ?_
    refine sg_wr 2 rfl ?_
    refine sg_r_iast rfl g158 (sg_in_ge (n := 328) (by decide) (mg_isp_0 h10).1 (mg_isp_0 h10).2) ?_
    exact sg_we rfl rfl ⟨rfl, ⟨upd G.wy (mg_pof G x).toNatClampNeg v, ⟨g143, g155, g156, g157, rfl, g159, g160, gR, g144, g145, g146, g147, g148, g149, g150, g151⟩, sg_out.rf.up (by decide)⟩, rfl, rfl⟩
def mg_spn (G : mg_C) (s : Nat) (e : Int32) : mg_C := (mg_mk G.b G.o G.t G.pc G.cc G.fi (upd G.to (s * 328 + G.pc) (G.nx s)) (upd G.sz (s * 328 + G.pc) (e - G.nx s)) G.wy (upd G.nx s (e + 1)) G.cp G.fs G.fc G.l1 G.b1 G.a1 G.l2 G.b2 G.a2 G.p1 G.p2)
abbrev mg_q (M : sg_M) (G : mg_C) : Option Value ⊕ Nat → sg_M → Nat → Nat → Prop := fun r M1 c s => r = .inl none ∧ (mg_is M1 G ∧ sg_out mg_F M M1) ∧ c = 0 ∧ s = 0
theorem mg_addSpan (h : mg_is M G) (hp : G.pc < 328) {s : Nat} (hs : s < 3) (e : Int32) : wpm Ls xs 49 [.ref 143, .int (nI s), .int e] M (mg_q M (mg_spn G s e)) := by
  obtain ⟨g143, g155, g156, g157, g158, g159, g160, gR, g144, g145, g146, g147, g148, g149, g150, g151⟩ := id h
  refine sg_wr 1 rfl ?_
  refine sg_r_getf rfl g143 rfl ?_
  refine sg_p_callS rfl rfl rfl rfl (Nat.le_of_ble_eq_true rfl) (Nat.le_of_ble_eq_true rfl) (mg_isPiece_n hp) ?_
  refine sg_wr 1 rfl ?_
  refine sg_wr 1 rfl ?_
  refine sg_wb rfl rfl (fun h11 => absurd h11 (nI_pos (by omega))) (fun h11 => ?_)
  refine sg_wr 2 rfl ?_
  refine sg_wb rfl rfl (fun h16 => absurd h16 (nI_ge (b := 3) hs (by decide))) (fun h16 => ?_)
  refine sg_wr 1 rfl ?_
  refine sg_r_getf rfl g143 rfl ?_
  refine sg_wr 4 rfl ?_
  refine sg_r_getf rfl g143 rfl ?_
  refine sg_wr 2 rfl ?_
  refine sg_r_getf rfl g143 rfl ?_
  refine sg_wr 1 rfl ?_
  refine sg_r_iald rfl (by decide) g159 (sg_in_n hs (by decide)) ?_
  rw [mg_ix, nI_clamp (by omega)]
  refine sg_r_iast rfl g156 (sg_in_n (by omega) (by decide)) ?_
  rw [nI_clamp (by omega)]
  refine sg_wr 1 rfl ?_
  refine sg_r_getf rfl g143 rfl ?_
  refine sg_wr 4 rfl ?_
  refine sg_r_getf rfl g143 rfl ?_
  refine sg_wr 3 rfl ?_
  refine sg_r_getf rfl g143 rfl ?_
  refine sg_wr 1 rfl ?_
  refine sg_r_iald rfl (by decide) g159 (sg_in_n hs (by decide)) ?_
  rw [mg_ix, nI_clamp (by omega)]
  refine sg_wr 1 rfl ?_
  refine sg_r_iast rfl g157 (sg_in_n (by omega) (by decide)) ?_
  rw [nI_clamp (by omega)]
  refine sg_wr 1 rfl ?_
  refine sg_r_getf rfl g143 rfl ?_
  refine sg_wr 4 rfl ?_
  refine sg_r_iast rfl g159 (sg_in_n hs (by decide)) ?_
  rw [nI_clamp (by omega)]
  exact sg_we rfl rfl ⟨rfl, ⟨⟨g143, g155, rfl, rfl, g158, rfl, g160, gR, g144, g145, g146, g147, g148, g149, g150, g151⟩, ((sg_out.rf.up (a := 156) (by decide)).up (a := 157) (by decide)).up (a := 159) (by decide)⟩, rfl, rfl⟩
def mg_pi0 (G : mg_C) (x : Int32) : mg_C := (mg_mk G.b G.o G.t G.pc G.cc (upd G.fi G.pc x) G.to G.sz (upd G.wy G.pc (-1)) G.nx G.cp G.fs G.fc G.l1 G.b1 G.a1 G.l2 G.b2 G.a2 G.p1 G.p2)
def mg_up1 (G : mg_C) : mg_C := mg_upc G (G.pc + 1)
def mg_pie (G : mg_C) (x e0 e1 e2 : Int32) : mg_C := mg_up1 (mg_spn (mg_spn (mg_spn (mg_pi0 G x) 0 e0) 1 e1) 2 e2)
def mg_sp (G : mg_C) : Prop := ∀ i : Nat, i < G.pc → G.to i = G.to (328 + i) ∧ G.sz i = G.sz (328 + i)
/-- what a piece more leaves as it is -/
def mg_kp (G G1 : mg_C) : Prop := G1.b = G.b ∧ G1.o = G.o ∧ G1.t = G.t ∧ G1.cc = G.cc ∧ G1.fs = G.fs ∧ G1.fc = G.fc ∧ G1.b1 = G.b1 ∧ G1.b2 = G.b2
theorem mg_kp.rf : mg_kp G G := ⟨rfl, rfl, rfl, rfl, rfl, rfl, rfl, rfl⟩
theorem mg_kp.tr {G1 G2 : mg_C} (h : mg_kp G G1) (g : mg_kp G1 G2) : mg_kp G G2 := by
  obtain ⟨a1, a2, a3, a4, a5, a6, a7, a8⟩ := h
  obtain ⟨c1, c2, c3, c4, c5, c6, c7, c8⟩ := g
  exact ⟨c1.trans a1, c2.trans a2, c3.trans a3, c4.trans a4, c5.trans a5, c6.trans a6, c7.trans a7, c8.trans a8⟩
theorem mg_kp_0 {x : Int32} : mg_kp G (mg_pi0 G x) := ⟨rfl, rfl, rfl, rfl, rfl, rfl, rfl, rfl⟩
theorem mg_kp_s {s : Nat} {e : Int32} : mg_kp G (mg_spn G s e) := ⟨rfl, rfl, rfl, rfl, rfl, rfl, rfl, rfl⟩
theorem mg_kp_1 : mg_kp G (mg_up1 G) := ⟨rfl, rfl, rfl, rfl, rfl, rfl, rfl, rfl⟩
theorem mg_kp_pie {x e0 e1 e2 : Int32} : mg_kp G (mg_pie G x e0 e1 e2) := (((mg_kp_0.tr mg_kp_s).tr mg_kp_s).tr mg_kp_s).tr mg_kp_1
theorem mg_0_to {x : Int32} : (mg_pi0 G x).to = G.to := rfl
theorem mg_0_sz {x : Int32} : (mg_pi0 G x).sz = G.sz := rfl
theorem mg_0_nx {x : Int32} : (mg_pi0 G x).nx = G.nx := rfl
theorem mg_0_pc {x : Int32} : (mg_pi0 G x).pc = G.pc := rfl
theorem mg_s_to {s : Nat} {e : Int32} : (mg_spn G s e).to = upd G.to (s * 328 + G.pc) (G.nx s) := rfl
theorem mg_s_sz {s : Nat} {e : Int32} : (mg_spn G s e).sz = upd G.sz (s * 328 + G.pc) (e - G.nx s) := rfl
theorem mg_s_nx {s : Nat} {e : Int32} : (mg_spn G s e).nx = upd G.nx s (e + 1) := rfl
theorem mg_s_pc {s : Nat} {e : Int32} : (mg_spn G s e).pc = G.pc := rfl
theorem mg_1_to : (mg_up1 G).to = G.to := rfl
theorem mg_1_sz : (mg_up1 G).sz = G.sz := rfl
theorem mg_1_nx : (mg_up1 G).nx = G.nx := rfl
theorem mg_1_pc : (mg_up1 G).pc = G.pc + 1 := rfl
theorem mg_pie_pc {x e0 e1 e2 : Int32} : (mg_pie G x e0 e1 e2).pc = G.pc + 1 := by
  unfold mg_pie
  rw [mg_1_pc, mg_s_pc, mg_s_pc, mg_s_pc, mg_0_pc]
theorem mg_sp_pie {x e e2 : Int32} (hp : G.pc < 328) (h : mg_sp G) (hn : G.nx 0 = G.nx 1) : mg_sp (mg_pie G x e e e2) ∧ (mg_pie G x e e e2).nx 0 = (mg_pie G x e e e2).nx 1 := by
  constructor
  · intro i hi
    rw [mg_pie_pc] at hi
    unfold mg_pie
    simp only [mg_0_to, mg_0_sz, mg_0_nx, mg_0_pc, mg_s_to, mg_s_sz, mg_s_nx, mg_s_pc, mg_1_to, mg_1_sz]
    have a1 : ∀ (f : Nat → Int32) (u v z : Int32), upd (upd (upd f (0 * 328 + G.pc) u) (1 * 328 + G.pc) v) (2 * 328 + G.pc) z i = if i = G.pc then u else f i := fun f u v z => by
      show (if i = 2 * 328 + G.pc then z else if i = 1 * 328 + G.pc then v else if i = 0 * 328 + G.pc then u else f i) = _
      rw [if_neg (by omega), if_neg (by omega), show 0 * 328 + G.pc = G.pc by omega]
    have a2 : ∀ (f : Nat → Int32) (u v z : Int32), upd (upd (upd f (0 * 328 + G.pc) u) (1 * 328 + G.pc) v) (2 * 328 + G.pc) z (328 + i) = if i = G.pc then v else f (328 + i) := fun f u v z => by
      show (if 328 + i = 2 * 328 + G.pc then z else if 328 + i = 1 * 328 + G.pc then v else if 328 + i = 0 * 328 + G.pc then u else f (328 + i)) = _
      by_cases c : i = G.pc
      · rw [if_neg (by omega), if_pos (by omega), if_pos c]
      · rw [if_neg (by omega), if_neg (by omega), if_neg (by omega), if_neg c]
    have a3 : upd G.nx 0 (e + 1) 1 = G.nx 0 := (if_neg (by decide)).trans hn.symm
    rw [a1, a2, a1, a2, a3]
    by_cases c : i = G.pc
    · rw [if_pos c, if_pos c, if_pos c, if_pos c]
      exact ⟨rfl, rfl⟩
    · rw [if_neg c, if_neg c, if_neg c, if_neg c]
      exact h i (by omega)
  · unfold mg_pie
    simp only [mg_0_nx, mg_s_nx, mg_1_nx]
    rfl
theorem mg_is.up1 (h : mg_is M G) : mg_is (sg_up M.1 143 (.inr (3, (mg_fs G).set 10 (.int (nI G.pc + 1)))), M.2) (mg_up1 G) := by
  obtain ⟨g143, g155, g156, g157, g158, g159, g160, gR, g144, g145, g146, g147, g148, g149, g150, g151⟩ := h
  exact ⟨congrArg (fun z => some (Sum.inr (3, z))) (by rw [nI_1]; rfl), g155, g156, g157, g158, g159, g160, gR, g144, g145, g146, g147, g148, g149, g150, g151⟩
theorem mg_addPiece (h : mg_is M G) (hp : G.pc < 328) (x e0 e1 e2 : Int32) : wpm Ls xs 48 [.ref 143, .int x, .int e0, .int e1, .int e2] M (mg_q M (mg_pie G x e0 e1 e2)) := by
  obtain ⟨g143, g155, g156, g157, g158, g159, g160, gR, g144, g145, g146, g147, g148, g149, g150, g151⟩ := id h
  have h0 : mg_is (sg_up (sg_up M.1 155 (.inl (0, 328, .inl (upd G.fi G.pc x)))) 158 (.inl (0, 328, .inl (upd G.wy G.pc (-1)))), M.2) (mg_pi0 G x) := ⟨g143, rfl, g156, g157, rfl, g159, g160, gR, g144, g145, g146, g147, g148, g149, g150, g151⟩
  unfold mg_pie
  have hp0 : (mg_pi0 G x).pc < 328 := hp
  generalize mg_pi0 G x = G0 at h0 hp0 ⊢
  refine sg_wr 1 rfl ?_
  refine sg_r_getf rfl g143 rfl ?_
  refine sg_p_callS rfl rfl rfl rfl (Nat.le_of_ble_eq_true rfl) (Nat.le_of_ble_eq_true rfl) (mg_isPiece_n hp) ?_
  refine sg_wr 1 rfl ?_
  refine sg_wr 1 rfl ?_
  refine sg_r_getf rfl g143 rfl ?_
  refine sg_wr 1 rfl ?_
  refine sg_r_getf rfl g143 rfl ?_
  refine sg_wr 1 rfl ?_
  refine sg_r_iast rfl g155 (sg_in_n hp (by decide)) ?_
  rw [nI_clamp (by omega)]
  refine sg_wr 1 rfl ?_
  refine sg_r_getf rfl g143 rfl ?_
  refine sg_wr 1 rfl ?_
  refine sg_r_getf rfl g143 rfl ?_
  refine sg_wr 1 rfl ?_
  refine sg_r_iast rfl g158 (sg_in_n hp (by decide)) ?_
  rw [nI_clamp (by omega)]
  refine sg_wr 3 rfl ?_
  refine sg_r_callV rfl rfl rfl g143 rfl (Nat.le_of_ble_eq_true rfl) (Nat.le_of_ble_eq_true rfl) (mg_addSpan (s := 0) h0 hp0 (by decide) e0) ?_
  rintro _ M1 _ _ ⟨rfl, ⟨h1, o1⟩, rfl, rfl⟩
  refine sg_a0 ?_
  have hp1 : (mg_spn G0 0 e0).pc < 328 := by rw [mg_s_pc]; exact hp0
  generalize mg_spn G0 0 e0 = G1 at h1 hp1 ⊢
  refine sg_wr 3 rfl ?_
  refine sg_r_callV rfl rfl rfl h1.1 rfl (Nat.le_of_ble_eq_true rfl) (Nat.le_of_ble_eq_true rfl) (mg_addSpan (s := 1) h1 hp1 (by decide) e1) ?_
  rintro _ M2 _ _ ⟨rfl, ⟨h2, o2⟩, rfl, rfl⟩
  refine sg_a0 ?_
  have hp2 : (mg_spn G1 1 e1).pc < 328 := by rw [mg_s_pc]; exact hp1
  generalize mg_spn G1 1 e1 = G2 at h2 hp2 ⊢
  refine sg_wr 3 rfl ?_
  refine sg_r_callV rfl rfl rfl h2.1 rfl (Nat.le_of_ble_eq_true rfl) (Nat.le_of_ble_eq_true rfl) (mg_addSpan (s := 2) h2 hp2 (by decide) e2) ?_
  rintro _ M3 _ _ ⟨rfl, ⟨h3, o3⟩, rfl, rfl⟩
  refine sg_a0 ?_
  generalize mg_spn G2 2 e2 = G3 at h3 ⊢
  refine sg_wr 2 rfl ?_
  refine sg_r_getf rfl h3.1 rfl ?_
  refine sg_wr 2 rfl ?_
  refine sg_r_putf rfl h3.1 (Nat.le_of_ble_eq_true rfl) rfl ?_
  exact sg_we rfl rfl ⟨rfl, ⟨h3.up1, ((((sg_out.rf.up (a := 155) (by decide)).up (a := 158) (by decide)).tr o1 (fun _ z => z)).tr o2 (fun _ z => z) |>.tr o3 (fun _ z => z)).up (a := 143) (by decide)⟩, rfl, rfl⟩
theorem mg_addPiece0 (h : mg_is M G) (hp : G.pc = 328) (x e0 e1 e2 : Int32) : wpm Ls xs 48 [.ref 143, .int x, .int e0, .int e1, .int e2] M (mg_q M G) := by
  have g143 := h.1
  refine sg_wr 1 rfl ?_
  refine sg_r_getf rfl g143 rfl ?_
  rw [hp]
  refine sg_p_callS rfl rfl rfl rfl (Nat.le_of_ble_eq_true rfl) (Nat.le_of_ble_eq_true rfl) (mg_isPiece _) ?_
  refine sg_wr 1 rfl ?_
  exact sg_we rfl rfl ⟨rfl, ⟨h, sg_out.rf⟩, rfl, rfl⟩
abbrev mg_pq (M : sg_M) (G : mg_C) (e0 e1 : Int32) : Option Value ⊕ Nat → sg_M → Nat → Nat → Prop := fun r M1 c s => r = .inl none ∧ (∃ G1 : mg_C, mg_is M1 G1 ∧ sg_out mg_F M M1 ∧ mg_kp G G1 ∧ G1.pc ≤ 328 ∧ (e0 = e1 → mg_sp G → G.nx 0 = G.nx 1 → mg_sp G1 ∧ G1.nx 0 = G1.nx 1)) ∧ c = 0 ∧ s = 0
theorem mg_piece (h : mg_is M G) (hp : G.pc ≤ 328) (x e0 e1 e2 : Int32) : wpm Ls xs 48 [.ref 143, .int x, .int e0, .int e1, .int e2] M (mg_pq M G e0 e1) := by
  by_cases c : G.pc = 328
  · exact (mg_addPiece0 h c x e0 e1 e2).mono fun r M1 _ _ ⟨a1, ⟨a2, a3⟩, a4, a5⟩ => ⟨a1, ⟨G, a2, a3, .rf, hp, fun _ z1 z2 => ⟨z1, z2⟩⟩, a4, a5⟩
  · exact (mg_addPiece h (by omega) x e0 e1 e2).mono fun r M1 _ _ ⟨a1, ⟨a2, a3⟩, a4, a5⟩ => ⟨a1, ⟨_, a2, a3, mg_kp_pie, (by rw [mg_pie_pc]; omega), fun z0 z1 z2 => by subst z0; exact mg_sp_pie (by omega) z1 z2⟩, a4, a5⟩
end
end SGME
