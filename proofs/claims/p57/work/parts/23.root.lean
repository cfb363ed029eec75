section SGRT
section
variable {tab : Nat → Nat → Option sg_F} {hd : Nat → Nat → Nat → Option (Option Nat)} {k pc : Nat} {L : sg_L} {st r : List Value} {M : sg_M} {Q : Option Value ⊕ Nat → sg_M → Nat → Nat → Prop}
/-- it goes on just if P, else it throws; nothing changed -/
abbrev sg_nq (P : Prop) (M : sg_M) : Option Value ⊕ Nat → sg_M → Nat → Nat → Prop := fun r M1 c s => (P ∧ r = .inl none ∧ M1 = M ∧ c = 0 ∧ s = 0) ∨ (¬ P ∧ (∃ E : Nat, E < 3 ∧ r = .inr E) ∧ M1 = M ∧ c = 1 ∧ s = 6)
theorem sg_n_callV {P : Prop} {j n ci nL a : Nat} {fs As rest : List Value} (hf : tab k pc = some (sg_callV j n ci nL)) (hs : (st.take n).reverse = .ref a :: As) (hr : st.drop n = rest) (hM : M.1 a = some (.inr (ci, fs))) (h1 : As.length + 1 = n) (h2 : sg_cs rest ≤ 8) (h3 : sg_cs (.ref a :: As) ≤ nL) (hm : sg_wp tab hd j 0 (lv_args 0 (.ref a :: As)) [] M (sg_nq P M)) (h : P → sg_wp tab hd k (pc + 3) L rest M Q) (ht : ¬ P → ∀ E, E < 3 → sg_aft tab hd k pc L rest Q (.inr E) M 1 6) : sg_wp tab hd k pc L st M Q :=
  sg_r_callV hf hs hr hM h1 h2 h3 hm (by
    rintro r M1 c s (⟨hp, rfl, rfl, rfl, rfl⟩ | ⟨hp, ⟨E, hE, rfl⟩, rfl, rfl, rfl⟩)
    · exact sg_a0 (h hp)
    · exact ht hp E hE)
theorem sg_n_callS {P : Prop} {j n nL : Nat} {av rest : List Value} (hf : tab k pc = some (sg_callS j n nL)) (hs : (st.take n).reverse = av) (hr : st.drop n = rest) (h1 : av.length = n) (h2 : sg_cs rest ≤ 8) (h3 : sg_cs av ≤ nL) (hm : sg_wp tab hd j 0 (lv_args 0 av) [] M (sg_nq P M)) (h : P → sg_wp tab hd k (pc + 3) L rest M Q) (ht : ¬ P → ∀ E, E < 3 → sg_aft tab hd k pc L rest Q (.inr E) M 1 6) : sg_wp tab hd k pc L st M Q :=
  sg_r_callS hf hs hr h1 h2 h3 hm (by
    rintro r M1 c s (⟨hp, rfl, rfl, rfl, rfl⟩ | ⟨hp, ⟨E, hE, rfl⟩, rfl, rfl, rfl⟩)
    · exact sg_a0 (h hp)
    · exact ht hp E hE)
end
/-- the root's own: head, suspects, and the work -/
def rt_R : Type := Nat × Int64 × Nat × Int32 × Int32 × Int64 × Int32
def rt_R.hd (R : rt_R) : Nat := R.1
def rt_R.su (R : rt_R) : Int64 := R.2.1
def rt_R.wk (R : rt_R) : Nat := R.2.2.1
def rt_R.ws (R : rt_R) : Int32 := R.2.2.2.1
def rt_R.wc (R : rt_R) : Int32 := R.2.2.2.2.1
def rt_R.wq (R : rt_R) : Int64 := R.2.2.2.2.2.1
def rt_R.wm (R : rt_R) : Int32 := R.2.2.2.2.2.2
def rt_fs (R : rt_R) : List Value := [.ref 129, .ref 132, .ref 138, .int (nI R.hd), .ref 139, .ref 143, .long R.su, .int (nI R.wk), .int R.ws, .int R.wc, .long R.wq, .int R.wm]
/-- what lies where -/
def rt_is (M : sg_M) (R : rt_R) (n : Nat) (g : Int64) (K : Nat → hs_K) (tp ds dc : Nat → Int32) (G : mg_C) : Prop := M.1 128 = some (.inr (5, rt_fs R)) ∧ hs_is M n g K ∧ tr_is M 129 130 131 ds dc ∧ M.1 138 = some (.inl (0, 8, .inl tp)) ∧ mg_is M G ∧ ∃ (l b a : Nat → Int32) (p : Int32), M.1 139 = some (.inr (2, [.ref 140, .ref 141, .ref 142, .int p])) ∧ M.1 140 = some (.inl (0, 1681, .inl l)) ∧ M.1 141 = some (.inl (0, 40, .inl b)) ∧ M.1 142 = some (.inl (0, 40, .inl a))
section
variable {Ls : Nat} {xs : Nat → Int32} {M : sg_M} {R : rt_R} {n : Nat} {g : Int64} {K : Nat → hs_K} {tp ds dc : Nat → Int32} {G : mg_C}
theorem rt_needFile (x : Int32) : wpm Ls xs 108 [.int x] M (sg_nq (¬ x < 0 ∧ x < 8) M) := by
  refine sg_wr 1 rfl ?_
  refine sg_wb rfl rfl (fun h1 => ?_) (fun h1 => ?_)
  · exact sg_r_thr rfl (Nat.le_of_ble_eq_true rfl) (Or.inr ⟨fun q => q.1 h1, ⟨_, by decide, rfl⟩, rfl, rfl, rfl⟩)
  · refine sg_wr 2 rfl ?_
    refine sg_wb rfl rfl (fun h7 => ?_) (fun h7 => ?_)
    · exact sg_we rfl rfl (Or.inl ⟨⟨h1, h7⟩, rfl, rfl, rfl, rfl⟩)
    · exact sg_r_thr rfl (Nat.le_of_ble_eq_true rfl) (Or.inr ⟨fun q => h7 q.2, ⟨_, by decide, rfl⟩, rfl, rfl, rfl⟩)
theorem rt_needNumber (x : Int32) : wpm Ls xs 109 [.int x] M (sg_nq (¬ x < 0 ∧ x ≤ 999) M) := by
  refine sg_wr 1 rfl ?_
  refine sg_wb rfl rfl (fun h1 => ?_) (fun h1 => ?_)
  · exact sg_r_thr rfl (Nat.le_of_ble_eq_true rfl) (Or.inr ⟨fun q => q.1 h1, ⟨_, by decide, rfl⟩, rfl, rfl, rfl⟩)
  · refine sg_wr 2 rfl ?_
    refine sg_wb rfl rfl (fun h8 => ?_) (fun h8 => ?_)
    · exact sg_we rfl rfl (Or.inl ⟨⟨h1, h8⟩, rfl, rfl, rfl, rfl⟩)
    · exact sg_r_thr rfl (Nat.le_of_ble_eq_true rfl) (Or.inr ⟨fun q => h8 q.2, ⟨_, by decide, rfl⟩, rfl, rfl, rfl⟩)
theorem rt_needPlace (x y : Int32) : wpm Ls xs 110 [.int x, .int y] M (sg_nq (¬ x < 0 ∧ x < y) M) := by
  refine sg_wr 1 rfl ?_
  refine sg_wb rfl rfl (fun h1 => ?_) (fun h1 => ?_)
  · exact sg_r_thr rfl (Nat.le_of_ble_eq_true rfl) (Or.inr ⟨fun q => q.1 h1, ⟨_, by decide, rfl⟩, rfl, rfl, rfl⟩)
  · refine sg_wr 2 rfl ?_
    refine sg_wb rfl rfl (fun h6 => ?_) (fun h6 => ?_)
    · exact sg_we rfl rfl (Or.inl ⟨⟨h1, h6⟩, rfl, rfl, rfl, rfl⟩)
    · exact sg_r_thr rfl (Nat.le_of_ble_eq_true rfl) (Or.inr ⟨fun q => h6 q.2, ⟨_, by decide, rfl⟩, rfl, rfl, rfl⟩)
theorem rt_needSide (x : Int32) : wpm Ls xs 111 [.int x] M (sg_nq (¬ x < 0 ∧ x < 3) M) := by
  refine sg_wr 1 rfl ?_
  refine sg_wb rfl rfl (fun h1 => ?_) (fun h1 => ?_)
  · exact sg_r_thr rfl (Nat.le_of_ble_eq_true rfl) (Or.inr ⟨fun q => q.1 h1, ⟨_, by decide, rfl⟩, rfl, rfl, rfl⟩)
  · refine sg_wr 2 rfl ?_
    refine sg_wb rfl rfl (fun h6 => ?_) (fun h6 => ?_)
    · exact sg_we rfl rfl (Or.inl ⟨⟨h1, h6⟩, rfl, rfl, rfl, rfl⟩)
    · exact sg_r_thr rfl (Nat.le_of_ble_eq_true rfl) (Or.inr ⟨fun q => h6 q.2, ⟨_, by decide, rfl⟩, rfl, rfl, rfl⟩)
theorem rt_needDesk (h : rt_is M R n g K tp ds dc G) (x y : Int32) : wpm Ls xs 112 [.ref 128, .int x, .int y] M (sg_nq (¬ y < 0 ∧ y < tr_size ds x) M) := by
  obtain ⟨r128, rH, rD, r138, rG, rM⟩ := id h
  refine sg_wr 1 rfl ?_
  refine sg_wb rfl rfl (fun h1 => ?_) (fun h1 => ?_)
  · exact sg_r_thr rfl (Nat.le_of_ble_eq_true rfl) (Or.inr ⟨fun q => q.1 h1, ⟨_, by decide, rfl⟩, rfl, rfl, rfl⟩)
  · refine sg_wr 2 rfl ?_
    refine sg_r_getf rfl r128 rfl ?_
    refine sg_wr 1 rfl ?_
    refine sg_p_callV rfl rfl rfl rD.1 rfl (Nat.le_of_ble_eq_true rfl) (Nat.le_of_ble_eq_true rfl) (tr_sizeOf rD x) ?_
    refine sg_wb rfl rfl (fun h13 => ?_) (fun h13 => ?_)
    · exact sg_we rfl rfl (Or.inl ⟨⟨h1, h13⟩, rfl, rfl, rfl, rfl⟩)
    · exact sg_r_thr rfl (Nat.le_of_ble_eq_true rfl) (Or.inr ⟨fun q => h13 q.2, ⟨_, by decide, rfl⟩, rfl, rfl, rfl⟩)
def rt_co (tp : Nat → Int32) (x : Int32) : Int32 := if x < 0 then -2 else if x < 8 then tp x.toNatClampNeg else -2
theorem rt_co_n {j : Nat} (hj : j < 8) : rt_co tp (nI j) = tp j := by
  unfold rt_co
  rw [if_neg (nI_pos (by omega)), if_pos (show nI j < 8 from nI_lt (b := 8) hj (by decide)), nI_clamp (by omega)]
theorem rt_commitOf (h : rt_is M R n g K tp ds dc G) (x : Int32) : wpm Ls xs 89 [.ref 128, .int x] M (sg_eq (some (.int (rt_co tp x))) M) := by
  obtain ⟨r128, rH, rD, r138, rG, rM⟩ := id h
  unfold rt_co
  refine sg_wr 1 rfl ?_
  refine sg_wb rfl rfl (fun h1 => ?_) (fun h1 => ?_)
  · rw [if_pos h1]
    refine sg_wr 2 rfl ?_
    exact sg_we rfl rfl ⟨rfl, rfl, rfl, rfl⟩
  · rw [if_neg h1]
    refine sg_wr 2 rfl ?_
    refine sg_wb rfl rfl (fun h7 => ?_) (fun h7 => ?_)
    · rw [if_pos h7]
      refine sg_wr 1 rfl ?_
      refine sg_r_getf rfl r128 rfl ?_
      refine sg_wr 1 rfl ?_
      refine sg_r_iald rfl (by decide) r138 (sg_in_lt (n := 8) (by decide) h1 h7).1 ?_
      exact sg_we rfl rfl ⟨rfl, rfl, rfl, rfl⟩
    · rw [if_neg h7]
      refine sg_wr 2 rfl ?_
      exact sg_we rfl rfl ⟨rfl, rfl, rfl, rfl⟩
theorem rt_headCommit (h : rt_is M R n g K tp ds dc G) : wpm Ls xs 124 [.ref 128] M (sg_eq (some (.int (rt_co tp (nI R.hd)))) M) := by
  obtain ⟨r128, rH, rD, r138, rG, rM⟩ := id h
  refine sg_wr 2 rfl ?_
  refine sg_r_getf rfl r128 rfl ?_
  refine sg_p_callV rfl rfl rfl r128 rfl (Nat.le_of_ble_eq_true rfl) (Nat.le_of_ble_eq_true rfl) (rt_commitOf h _) ?_
  exact sg_we rfl rfl ⟨rfl, rfl, rfl, rfl⟩
theorem rt_treeOf (h : rt_is M R n g K tp ds dc G) (x : Int32) : wpm Ls xs 125 [.ref 128, .int x] M (sg_eq (some (.ref (hs_t (hs_D n K x)))) M) := by
  obtain ⟨r128, rH, rD, r138, rG, rM⟩ := id h
  refine sg_wr 1 rfl ?_
  refine sg_r_getf rfl r128 rfl ?_
  refine sg_wr 1 rfl ?_
  refine sg_p_callV rfl rfl rfl rH.1 rfl (Nat.le_of_ble_eq_true rfl) (Nat.le_of_ble_eq_true rfl) (hs_at rH x) ?_
  refine sg_r_getf rfl (hs_get rH x).1 rfl ?_
  exact sg_we rfl rfl ⟨rfl, rfl, rfl, rfl⟩
theorem rt_parentTreeOf (h : rt_is M R n g K tp ds dc G) (x : Int32) : wpm Ls xs 126 [.ref 128, .int x] M (sg_eq (some (.ref (hs_t (hs_D n K (hs_f (hs_D n K x)))))) M) := by
  obtain ⟨r128, rH, rD, r138, rG, rM⟩ := id h
  refine sg_wr 2 rfl ?_
  refine sg_r_getf rfl r128 rfl ?_
  refine sg_wr 1 rfl ?_
  refine sg_p_callV rfl rfl rfl rH.1 rfl (Nat.le_of_ble_eq_true rfl) (Nat.le_of_ble_eq_true rfl) (hs_at rH x) ?_
  refine sg_r_getf rfl (hs_get rH x).1 rfl ?_
  refine sg_p_callV rfl rfl rfl r128 rfl (Nat.le_of_ble_eq_true rfl) (Nat.le_of_ble_eq_true rfl) (rt_treeOf h _) ?_
  exact sg_we rfl rfl ⟨rfl, rfl, rfl, rfl⟩
abbrev rt_hc (tp : Nat → Int32) (R : rt_R) : Int32 := rt_co tp (nI R.hd)
/-- the desk is as the head's commit -/
def rt_cl (R : rt_R) (n : Nat) (K : Nat → hs_K) (tp ds dc : Nat → Int32) : Prop := tr_eq ds dc (hs_fs (hs_D n K (rt_hc tp R))) (hs_fc (hs_D n K (rt_hc tp R)))
theorem rt_isClean (h : rt_is M R n g K tp ds dc G) : wpm Ls xs 81 [.ref 128] M (sg_bq (rt_cl R n K tp ds dc) M) := by
  obtain ⟨r128, rH, rD, r138, rG, rM⟩ := id h
  refine sg_wr 1 rfl ?_
  refine sg_r_getf rfl r128 rfl ?_
  refine sg_wr 2 rfl ?_
  refine sg_p_callV rfl rfl rfl r128 rfl (Nat.le_of_ble_eq_true rfl) (Nat.le_of_ble_eq_true rfl) (rt_headCommit h) ?_
  refine sg_p_callV rfl rfl rfl r128 rfl (Nat.le_of_ble_eq_true rfl) (Nat.le_of_ble_eq_true rfl) (rt_treeOf h _) ?_
  refine sg_r_callV rfl rfl rfl rD.1 rfl (Nat.le_of_ble_eq_true rfl) (Nat.le_of_ble_eq_true rfl) (tr_othersThan rD (hs_get rH _).2) ?_
  rintro _ _ _ _ ⟨⟨v, rfl, hv, hz⟩, rfl, rfl, rfl⟩
  refine sg_a0 ?_
  refine sg_wb rfl rfl (fun h15 => ?_) (fun h15 => ?_)
  · refine sg_wr 1 rfl ?_
    exact sg_we rfl rfl ⟨⟨_, rfl, Or.inr ⟨rfl, fun q => h15 (by rw [hz.mpr q]; rfl)⟩⟩, rfl, rfl, rfl⟩
  · refine sg_wr 2 rfl ?_
    exact sg_we rfl rfl ⟨⟨_, rfl, Or.inl ⟨rfl, hz.mp ((nI_eq (b := 0) (by omega) (by decide)).mp (Classical.byContradiction h15))⟩⟩, rfl, rfl, rfl⟩
theorem rt_needThere (h : rt_is M R n g K tp ds dc G) (x : Int32) : wpm Ls xs 113 [.ref 128, .int x] M (sg_nq (hs_th n g x) M) := by
  obtain ⟨r128, rH, rD, r138, rG, rM⟩ := id h
  refine sg_wr 1 rfl ?_
  refine sg_r_getf rfl r128 rfl ?_
  refine sg_wr 1 rfl ?_
  refine sg_r_callV rfl rfl rfl rH.1 rfl (Nat.le_of_ble_eq_true rfl) (Nat.le_of_ble_eq_true rfl) (hs_keeps rH x) ?_
  rintro _ _ _ _ ⟨⟨v, rfl, hv⟩, rfl, rfl, rfl⟩
  refine sg_a0 ?_
  refine sg_wb rfl rfl (fun h8 => ?_) (fun h8 => ?_)
  · exact sg_we rfl rfl (by
        rcases hv with ⟨rfl, q⟩ | ⟨rfl, q⟩
        · exact Or.inl ⟨q, rfl, rfl, rfl, rfl⟩
        · exact absurd rfl h8)
  · exact sg_r_thr rfl (Nat.le_of_ble_eq_true rfl) (by
        rcases hv with ⟨rfl, q⟩ | ⟨rfl, q⟩
        · exact absurd (by decide) h8
        · exact Or.inr ⟨q, ⟨_, by decide, rfl⟩, rfl, rfl, rfl⟩)
theorem rt_needBoth (h : rt_is M R n g K tp ds dc G) (x y : Int32) : wpm Ls xs 114 [.ref 128, .int x, .int y] M (sg_nq (hs_th n g x ∧ hs_th n g y) M) := by
  obtain ⟨r128, rH, rD, r138, rG, rM⟩ := id h
  refine sg_wr 2 rfl ?_
  refine sg_n_callV rfl rfl rfl r128 rfl (Nat.le_of_ble_eq_true rfl) (Nat.le_of_ble_eq_true rfl) (rt_needThere h x) (fun h1 => ?_) (fun hp E hE => Or.inr ⟨fun q => hp q.1, ⟨E, hE, rfl⟩, rfl, rfl, rfl⟩)
  refine sg_wr 2 rfl ?_
  refine sg_n_callV rfl rfl rfl r128 rfl (Nat.le_of_ble_eq_true rfl) (Nat.le_of_ble_eq_true rfl) (rt_needThere h y) (fun h2 => ?_) (fun hp E hE => Or.inr ⟨fun q => hp q.2, ⟨E, hE, rfl⟩, rfl, rfl, rfl⟩)
  exact sg_we rfl rfl (Or.inl ⟨⟨h1, h2⟩, rfl, rfl, rfl, rfl⟩)
theorem rt_needBranch (h : rt_is M R n g K tp ds dc G) (x : Int32) : wpm Ls xs 116 [.ref 128, .int x] M (sg_nq (¬ rt_co tp x = -2) M) := by
  obtain ⟨r128, rH, rD, r138, rG, rM⟩ := id h
  refine sg_wr 2 rfl ?_
  refine sg_p_callV rfl rfl rfl r128 rfl (Nat.le_of_ble_eq_true rfl) (Nat.le_of_ble_eq_true rfl) (rt_commitOf h _) ?_
  refine sg_wr 1 rfl ?_
  refine sg_wb rfl rfl (fun h7 => ?_) (fun h7 => ?_)
  · exact sg_we rfl rfl (Or.inl ⟨h7, rfl, rfl, rfl, rfl⟩)
  · exact sg_r_thr rfl (Nat.le_of_ble_eq_true rfl) (Or.inr ⟨h7, ⟨_, by decide, rfl⟩, rfl, rfl, rfl⟩)
theorem rt_needNoWork (h : rt_is M R n g K tp ds dc G) : wpm Ls xs 118 [.ref 128] M (sg_nq (nI R.wk = 0) M) := by
  obtain ⟨r128, rH, rD, r138, rG, rM⟩ := id h
  refine sg_wr 1 rfl ?_
  refine sg_r_getf rfl r128 rfl ?_
  refine sg_wb rfl rfl (fun h4 => ?_) (fun h4 => ?_)
  · exact sg_we rfl rfl (Or.inl ⟨h4, rfl, rfl, rfl, rfl⟩)
  · exact sg_r_thr rfl (Nat.le_of_ble_eq_true rfl) (Or.inr ⟨h4, ⟨_, by decide, rfl⟩, rfl, rfl, rfl⟩)
theorem rt_needWork (h : rt_is M R n g K tp ds dc G) : wpm Ls xs 119 [.ref 128] M (sg_nq (¬ nI R.wk = 0) M) := by
  obtain ⟨r128, rH, rD, r138, rG, rM⟩ := id h
  refine sg_wr 1 rfl ?_
  refine sg_r_getf rfl r128 rfl ?_
  refine sg_wb rfl rfl (fun h4 => ?_) (fun h4 => ?_)
  · exact sg_we rfl rfl (Or.inl ⟨h4, rfl, rfl, rfl, rfl⟩)
  · exact sg_r_thr rfl (Nat.le_of_ble_eq_true rfl) (Or.inr ⟨h4, ⟨_, by decide, rfl⟩, rfl, rfl, rfl⟩)
theorem rt_needRoom (h : rt_is M R n g K tp ds dc G) (x : Int32) : wpm Ls xs 120 [.ref 128, .int x] M (sg_nq (nI n + x ≤ 60) M) := by
  obtain ⟨r128, rH, rD, r138, rG, rM⟩ := id h
  refine sg_wr 1 rfl ?_
  refine sg_r_getf rfl r128 rfl ?_
  refine sg_r_getf rfl rH.1 rfl ?_
  refine sg_wr 3 rfl ?_
  refine sg_wb rfl rfl (fun h11 => ?_) (fun h11 => ?_)
  · exact sg_we rfl rfl (Or.inl ⟨h11, rfl, rfl, rfl, rfl⟩)
  · exact sg_r_thr rfl (Nat.le_of_ble_eq_true rfl) (Or.inr ⟨h11, ⟨_, by decide, rfl⟩, rfl, rfl, rfl⟩)
theorem rt_pending (h : rt_is M R n g K tp ds dc G) : wpm Ls xs 74 [.ref 128] M (sg_eq (some (.int (nI R.wk))) M) := by
  obtain ⟨r128, rH, rD, r138, rG, rM⟩ := id h
  refine sg_wr 1 rfl ?_
  refine sg_r_getf rfl r128 rfl ?_
  exact sg_we rfl rfl ⟨rfl, rfl, rfl, rfl⟩
def rt_cf (R : rt_R) (G : mg_C) : Int32 := if ¬ nI R.wk = 0 then nI G.cc else 0
def rt_us (R : rt_R) (G : mg_C) : Int32 := if ¬ nI R.wk = 0 then nI (mg_op G G.cc 0 0) else 0
def rt_lf (R : rt_R) : Int32 := if ¬ nI R.wk = 4 then 0 else jd_bc R.wq
theorem rt_conflicts (h : rt_is M R n g K tp ds dc G) : wpm Ls xs 75 [.ref 128] M (sg_eq (some (.int (rt_cf R G))) M) := by
  obtain ⟨r128, rH, rD, r138, rG, rM⟩ := id h
  unfold rt_cf
  refine sg_wr 1 rfl ?_
  refine sg_r_getf rfl r128 rfl ?_
  refine sg_wb rfl rfl (fun h4 => ?_) (fun h4 => ?_)
  · rw [if_pos h4]
    refine sg_wr 1 rfl ?_
    refine sg_r_getf rfl r128 rfl ?_
    refine sg_p_callV rfl rfl rfl rG.1 rfl (Nat.le_of_ble_eq_true rfl) (Nat.le_of_ble_eq_true rfl) (mg_count rG) ?_
    exact sg_we rfl rfl ⟨rfl, rfl, rfl, rfl⟩
  · rw [if_neg h4]
    refine sg_wr 2 rfl ?_
    exact sg_we rfl rfl ⟨rfl, rfl, rfl, rfl⟩
theorem rt_unsettled (h : rt_is M R n g K tp ds dc G) (hc : G.cc ≤ 328) : wpm Ls xs 76 [.ref 128] M (sg_eq (some (.int (rt_us R G))) M) := by
  obtain ⟨r128, rH, rD, r138, rG, rM⟩ := id h
  unfold rt_us
  refine sg_wr 1 rfl ?_
  refine sg_r_getf rfl r128 rfl ?_
  refine sg_wb rfl rfl (fun h4 => ?_) (fun h4 => ?_)
  · rw [if_pos h4]
    refine sg_wr 1 rfl ?_
    refine sg_r_getf rfl r128 rfl ?_
    refine sg_p_callV rfl rfl rfl rG.1 rfl (Nat.le_of_ble_eq_true rfl) (Nat.le_of_ble_eq_true rfl) (mg_openCount rG hc) ?_
    exact sg_we rfl rfl ⟨rfl, rfl, rfl, rfl⟩
  · rw [if_neg h4]
    refine sg_wr 2 rfl ?_
    exact sg_we rfl rfl ⟨rfl, rfl, rfl, rfl⟩
theorem rt_left (h : rt_is M R n g K tp ds dc G) : wpm Ls xs 77 [.ref 128] M (sg_eq (some (.int (rt_lf R))) M) := by
  obtain ⟨r128, rH, rD, r138, rG, rM⟩ := id h
  unfold rt_lf
  refine sg_wr 1 rfl ?_
  refine sg_r_getf rfl r128 rfl ?_
  refine sg_wr 1 rfl ?_
  refine sg_wb rfl rfl (fun h5 => ?_) (fun h5 => ?_)
  · rw [if_pos h5]
    refine sg_wr 1 rfl ?_
    exact sg_we rfl rfl ⟨rfl, rfl, rfl, rfl⟩
  · rw [if_neg h5]
    refine sg_wr 1 rfl ?_
    refine sg_r_getf rfl r128 rfl ?_
    refine sg_p_callS rfl rfl rfl rfl (Nat.le_of_ble_eq_true rfl) (Nat.le_of_ble_eq_true rfl) (jd_bit _) ?_
    refine sg_wr 1 rfl ?_
    exact sg_we rfl rfl ⟨rfl, rfl, rfl, rfl⟩
theorem rt_isThere (h : rt_is M R n g K tp ds dc G) (x : Int32) : wpm Ls xs 83 [.ref 128, .int x] M (sg_bq (hs_th n g x) M) := by
  obtain ⟨r128, rH, rD, r138, rG, rM⟩ := id h
  refine sg_wr 1 rfl ?_
  refine sg_r_getf rfl r128 rfl ?_
  refine sg_wr 1 rfl ?_
  refine sg_r_callV rfl rfl rfl rH.1 rfl (Nat.le_of_ble_eq_true rfl) (Nat.le_of_ble_eq_true rfl) (hs_keeps rH x) ?_
  rintro _ _ _ _ ⟨⟨v, rfl, hv⟩, rfl, rfl, rfl⟩
  refine sg_a0 ?_
  rcases hv with ⟨rfl, q⟩ | ⟨rfl, q⟩
  · exact sg_we rfl rfl ⟨⟨_, rfl, Or.inl ⟨rfl, q⟩⟩, rfl, rfl, rfl⟩
  · exact sg_we rfl rfl ⟨⟨_, rfl, Or.inr ⟨rfl, q⟩⟩, rfl, rfl, rfl⟩
theorem rt_head (h : rt_is M R n g K tp ds dc G) : wpm Ls xs 88 [.ref 128] M (sg_eq (some (.int (nI R.hd))) M) := by
  obtain ⟨r128, rH, rD, r138, rG, rM⟩ := id h
  refine sg_wr 1 rfl ?_
  refine sg_r_getf rfl r128 rfl ?_
  exact sg_we rfl rfl ⟨rfl, rfl, rfl, rfl⟩
theorem rt_commits (h : rt_is M R n g K tp ds dc G) : wpm Ls xs 82 [.ref 128] M (sg_eq (some (.int (nI n))) M) := by
  obtain ⟨r128, rH, rD, r138, rG, rM⟩ := id h
  refine sg_wr 1 rfl ?_
  refine sg_r_getf rfl r128 rfl ?_
  refine sg_r_getf rfl rH.1 rfl ?_
  exact sg_we rfl rfl ⟨rfl, rfl, rfl, rfl⟩
theorem rt_needConflict (h : rt_is M R n g K tp ds dc G) (x : Int32) : wpm Ls xs 117 [.ref 128, .int x] M (sg_nq (¬ x < 0 ∧ x < rt_cf R G) M) := by
  obtain ⟨r128, rH, rD, r138, rG, rM⟩ := id h
  refine sg_wr 1 rfl ?_
  refine sg_wb rfl rfl (fun h1 => ?_) (fun h1 => ?_)
  · exact sg_r_thr rfl (Nat.le_of_ble_eq_true rfl) (Or.inr ⟨fun q => q.1 h1, ⟨_, by decide, rfl⟩, rfl, rfl, rfl⟩)
  · refine sg_wr 2 rfl ?_
    refine sg_p_callV rfl rfl rfl r128 rfl (Nat.le_of_ble_eq_true rfl) (Nat.le_of_ble_eq_true rfl) (rt_conflicts h) ?_
    refine sg_wb rfl rfl (fun h9 => ?_) (fun h9 => ?_)
    · exact sg_we rfl rfl (Or.inl ⟨⟨h1, h9⟩, rfl, rfl, rfl, rfl⟩)
    · exact sg_r_thr rfl (Nat.le_of_ble_eq_true rfl) (Or.inr ⟨fun q => h9 q.2, ⟨_, by decide, rfl⟩, rfl, rfl, rfl⟩)
/-- what the tips reach -/
def rt_or (n : Nat) (K : Nat → hs_K) (tp : Nat → Int32) : Nat → Int64
  | 0 => 0
  | i + 1 => rt_or n K tp i ||| hs_a (hs_D n K (tp i))
theorem rt_re_loop (h : rt_is M R n g K tp ds dc G) : ∀ (d i : Nat), d = 8 - i → i ≤ 8 → wpa Ls xs 130 4 [(0, .ref 128), (1, .long (rt_or n K tp i)), (3, .int (nI i))] [] M (sg_eq (some (.long (rt_or n K tp 8))) M) := by
  obtain ⟨r128, rH, rD, r138, rG, rM⟩ := id h
  intro d
  induction d using Nat.strongRecOn with
  | ind d ih =>
    intro i hd hi
    refine sg_wr 2 rfl ?_
    refine sg_wb rfl rfl (fun h7 => ?_) (fun h7 => ?_)
    · refine sg_wr 1 rfl ?_
      exact sg_we rfl rfl ⟨by rw [Nat.le_antisymm hi (sg_gen h7 (by decide) (by omega))], rfl, rfl, rfl⟩
    · refine sg_wr 2 rfl ?_
      refine sg_r_getf rfl r128 rfl ?_
      refine sg_wr 1 rfl ?_
      refine sg_r_getf rfl r128 rfl ?_
      refine sg_wr 1 rfl ?_
      have hlt : i < 8 := sg_ltn h7 (by omega)
      refine sg_r_iald rfl (by decide) r138 (sg_in_n hlt (by decide)) ?_
      rw [nI_clamp (by omega)]
      refine sg_p_callV rfl rfl rfl rH.1 rfl (Nat.le_of_ble_eq_true rfl) (Nat.le_of_ble_eq_true rfl) (hs_at rH _) ?_
      refine sg_r_getf rfl (hs_get rH _).1 rfl ?_
      refine sg_wr 4 rfl ?_
      have h9 := ih (8 - (i + 1)) (by omega) (i + 1) rfl hlt
      rw [nI_succ] at h9
      exact h9
theorem rt_reached (h : rt_is M R n g K tp ds dc G) : wpm Ls xs 130 [.ref 128] M (sg_eq (some (.long (rt_or n K tp 8))) M) := by
  refine sg_wr 4 rfl ?_
  exact rt_re_loop h 8 0 rfl (by decide)
theorem rt_isReached (h : rt_is M R n g K tp ds dc G) {x : Int32} (hx : hs_th n g x) : wpm Ls xs 84 [.ref 128, .int x] M (sg_bq (bt (rt_or n K tp 8) x = true) M) := by
  obtain ⟨r128, rH, rD, r138, rG, rM⟩ := id h
  refine sg_wr 2 rfl ?_
  refine sg_n_callV rfl rfl rfl r128 rfl (Nat.le_of_ble_eq_true rfl) (Nat.le_of_ble_eq_true rfl) (rt_needThere h x) (fun _ => ?_) (fun hp => absurd hx hp)
  refine sg_wr 1 rfl ?_
  refine sg_p_callV rfl rfl rfl r128 rfl (Nat.le_of_ble_eq_true rfl) (Nat.le_of_ble_eq_true rfl) (rt_reached h) ?_
  refine sg_wr 6 rfl ?_
  refine sg_wb rfl rfl (fun h15 => ?_) (fun h15 => ?_)
  · refine sg_wr 1 rfl ?_
    exact sg_we rfl rfl ⟨⟨_, rfl, Or.inr ⟨rfl, fun q => absurd q (by rw [bt_f h15]; decide)⟩⟩, rfl, rfl, rfl⟩
  · refine sg_wr 2 rfl ?_
    exact sg_we rfl rfl ⟨⟨_, rfl, Or.inl ⟨rfl, bt_t h15⟩⟩, rfl, rfl, rfl⟩
theorem rt_parent (h : rt_is M R n g K tp ds dc G) {x : Int32} (hx : hs_th n g x) (y : Int32) : wpm Ls xs 85 [.ref 128, .int x, .int y] M (sg_eq (some (.int (if y = 0 then hs_f (hs_D n K x) else hs_e (hs_D n K x)))) M) := by
  obtain ⟨r128, rH, rD, r138, rG, rM⟩ := id h
  refine sg_wr 2 rfl ?_
  refine sg_n_callV rfl rfl rfl r128 rfl (Nat.le_of_ble_eq_true rfl) (Nat.le_of_ble_eq_true rfl) (rt_needThere h x) (fun _ => ?_) (fun hp => absurd hx hp)
  refine sg_wr 1 rfl ?_
  refine sg_r_getf rfl r128 rfl ?_
  refine sg_wr 1 rfl ?_
  refine sg_p_callV rfl rfl rfl rH.1 rfl (Nat.le_of_ble_eq_true rfl) (Nat.le_of_ble_eq_true rfl) (hs_at rH x) ?_
  refine sg_wr 2 rfl ?_
  refine sg_wb rfl rfl (fun h15 => ?_) (fun h15 => ?_)
  · rw [if_pos h15]
    refine sg_wr 1 rfl ?_
    refine sg_r_getf rfl (hs_get rH x).1 rfl ?_
    exact sg_we rfl rfl ⟨rfl, rfl, rfl, rfl⟩
  · rw [if_neg h15]
    refine sg_wr 1 rfl ?_
    refine sg_r_getf rfl (hs_get rH x).1 rfl ?_
    refine sg_wr 1 rfl ?_
    exact sg_we rfl rfl ⟨rfl, rfl, rfl, rfl⟩
theorem rt_wordOf (h : rt_is M R n g K tp ds dc G) {x : Int32} (hx : hs_th n g x) : wpm Ls xs 86 [.ref 128, .int x] M (sg_eq (some (.int (hs_w (hs_D n K x)))) M) := by
  obtain ⟨r128, rH, rD, r138, rG, rM⟩ := id h
  refine sg_wr 2 rfl ?_
  refine sg_n_callV rfl rfl rfl r128 rfl (Nat.le_of_ble_eq_true rfl) (Nat.le_of_ble_eq_true rfl) (rt_needThere h x) (fun _ => ?_) (fun hp => absurd hx hp)
  refine sg_wr 1 rfl ?_
  refine sg_r_getf rfl r128 rfl ?_
  refine sg_wr 1 rfl ?_
  refine sg_p_callV rfl rfl rfl rH.1 rfl (Nat.le_of_ble_eq_true rfl) (Nat.le_of_ble_eq_true rfl) (hs_at rH x) ?_
  refine sg_r_getf rfl (hs_get rH x).1 rfl ?_
  exact sg_we rfl rfl ⟨rfl, rfl, rfl, rfl⟩
theorem rt_depthOf (h : rt_is M R n g K tp ds dc G) {x : Int32} (hx : hs_th n g x) : wpm Ls xs 97 [.ref 128, .int x] M (sg_eq (some (.int (hs_d (hs_D n K x)))) M) := by
  obtain ⟨r128, rH, rD, r138, rG, rM⟩ := id h
  refine sg_wr 2 rfl ?_
  refine sg_n_callV rfl rfl rfl r128 rfl (Nat.le_of_ble_eq_true rfl) (Nat.le_of_ble_eq_true rfl) (rt_needThere h x) (fun _ => ?_) (fun hp => absurd hx hp)
  refine sg_wr 1 rfl ?_
  refine sg_r_getf rfl r128 rfl ?_
  refine sg_wr 1 rfl ?_
  refine sg_p_callV rfl rfl rfl rH.1 rfl (Nat.le_of_ble_eq_true rfl) (Nat.le_of_ble_eq_true rfl) (hs_at rH x) ?_
  refine sg_r_getf rfl (hs_get rH x).1 rfl ?_
  exact sg_we rfl rfl ⟨rfl, rfl, rfl, rfl⟩
theorem rt_lines (h : rt_is M R n g K tp ds dc G) {x y : Int32} (hx : hs_th n g x) (hy : ¬ y < 0 ∧ y < 8) : wpm Ls xs 87 [.ref 128, .int x, .int y] M (sg_eq (some (.int (tr_size (hs_fs (hs_D n K x)) y))) M) := by
  obtain ⟨r128, rH, rD, r138, rG, rM⟩ := id h
  refine sg_wr 2 rfl ?_
  refine sg_n_callV rfl rfl rfl r128 rfl (Nat.le_of_ble_eq_true rfl) (Nat.le_of_ble_eq_true rfl) (rt_needThere h x) (fun _ => ?_) (fun hp => absurd hx hp)
  refine sg_wr 1 rfl ?_
  refine sg_n_callS rfl rfl rfl rfl (Nat.le_of_ble_eq_true rfl) (Nat.le_of_ble_eq_true rfl) (rt_needFile y) (fun _ => ?_) (fun hp => absurd hy hp)
  refine sg_wr 2 rfl ?_
  refine sg_p_callV rfl rfl rfl r128 rfl (Nat.le_of_ble_eq_true rfl) (Nat.le_of_ble_eq_true rfl) (rt_treeOf h x) ?_
  refine sg_wr 1 rfl ?_
  refine sg_p_callV rfl rfl rfl (hs_get rH x).2.1 rfl (Nat.le_of_ble_eq_true rfl) (Nat.le_of_ble_eq_true rfl) (tr_sizeOf (hs_get rH x).2 y) ?_
  exact sg_we rfl rfl ⟨rfl, rfl, rfl, rfl⟩
theorem rt_isAncestor (h : rt_is M R n g K tp ds dc G) {x y : Int32} (hx : hs_th n g x) (hy : hs_th n g y) : wpm Ls xs 90 [.ref 128, .int x, .int y] M (sg_bq (¬ x < 0 ∧ x < 60 ∧ bt (hs_a (hs_D n K y)) x = true) M) := by
  obtain ⟨r128, rH, rD, r138, rG, rM⟩ := id h
  refine sg_wr 3 rfl ?_
  refine sg_n_callV rfl rfl rfl r128 rfl (Nat.le_of_ble_eq_true rfl) (Nat.le_of_ble_eq_true rfl) (rt_needBoth h x y) (fun _ => ?_) (fun hp => absurd ⟨hx, hy⟩ hp)
  refine sg_wr 1 rfl ?_
  refine sg_r_getf rfl r128 rfl ?_
  refine sg_wr 1 rfl ?_
  refine sg_p_callV rfl rfl rfl rH.1 rfl (Nat.le_of_ble_eq_true rfl) (Nat.le_of_ble_eq_true rfl) (hs_at rH y) ?_
  refine sg_wr 1 rfl ?_
  refine sg_r_callV rfl rfl rfl (hs_get rH y).1 rfl (Nat.le_of_ble_eq_true rfl) (Nat.le_of_ble_eq_true rfl) (cm_desc (hs_get rH y) x) ?_
  rintro _ _ _ _ ⟨⟨v, rfl, hv⟩, rfl, rfl, rfl⟩
  refine sg_a0 ?_
  rcases hv with ⟨rfl, q⟩ | ⟨rfl, q⟩
  · exact sg_we rfl rfl ⟨⟨_, rfl, Or.inl ⟨rfl, q⟩⟩, rfl, rfl, rfl⟩
  · exact sg_we rfl rfl ⟨⟨_, rfl, Or.inr ⟨rfl, q⟩⟩, rfl, rfl, rfl⟩
theorem rt_base (h : rt_is M R n g K tp ds dc G) {x y : Int32} (hx : hs_th n g x) (hy : hs_th n g y) : wpm Ls xs 91 [.ref 128, .int x, .int y] M (sg_eq (some (.int (gr (hs_a (hs_D n K x) &&& hs_a (hs_D n K y)) 60))) M) := by
  obtain ⟨r128, rH, rD, r138, rG, rM⟩ := id h
  refine sg_wr 3 rfl ?_
  refine sg_n_callV rfl rfl rfl r128 rfl (Nat.le_of_ble_eq_true rfl) (Nat.le_of_ble_eq_true rfl) (rt_needBoth h x y) (fun _ => ?_) (fun hp => absurd ⟨hx, hy⟩ hp)
  refine sg_wr 1 rfl ?_
  refine sg_r_getf rfl r128 rfl ?_
  refine sg_wr 2 rfl ?_
  refine sg_p_callV rfl rfl rfl rH.1 rfl (Nat.le_of_ble_eq_true rfl) (Nat.le_of_ble_eq_true rfl) (hs_base rH x y) ?_
  exact sg_we rfl rfl ⟨rfl, rfl, rfl, rfl⟩
theorem rt_ahead (h : rt_is M R n g K tp ds dc G) {x y : Int32} (hx : hs_th n g x) (hy : hs_th n g y) : wpm Ls xs 92 [.ref 128, .int x, .int y] M (sg_eq (some (.int (jd_bc (hs_a (hs_D n K x) &&& (hs_a (hs_D n K y) ^^^ (-1)))))) M) := by
  obtain ⟨r128, rH, rD, r138, rG, rM⟩ := id h
  refine sg_wr 3 rfl ?_
  refine sg_n_callV rfl rfl rfl r128 rfl (Nat.le_of_ble_eq_true rfl) (Nat.le_of_ble_eq_true rfl) (rt_needBoth h x y) (fun _ => ?_) (fun hp => absurd ⟨hx, hy⟩ hp)
  refine sg_wr 1 rfl ?_
  refine sg_r_getf rfl r128 rfl ?_
  refine sg_wr 1 rfl ?_
  refine sg_p_callV rfl rfl rfl rH.1 rfl (Nat.le_of_ble_eq_true rfl) (Nat.le_of_ble_eq_true rfl) (hs_at rH x) ?_
  refine sg_r_getf rfl (hs_get rH x).1 rfl ?_
  refine sg_wr 1 rfl ?_
  refine sg_r_getf rfl r128 rfl ?_
  refine sg_wr 1 rfl ?_
  refine sg_p_callV rfl rfl rfl rH.1 rfl (Nat.le_of_ble_eq_true rfl) (Nat.le_of_ble_eq_true rfl) (hs_at rH y) ?_
  refine sg_r_getf rfl (hs_get rH y).1 rfl ?_
  refine sg_wr 3 rfl ?_
  refine sg_p_callS rfl rfl rfl rfl (Nat.le_of_ble_eq_true rfl) (Nat.le_of_ble_eq_true rfl) (jd_bit _) ?_
  exact sg_we rfl rfl ⟨rfl, rfl, rfl, rfl⟩
theorem rt_touched (h : rt_is M R n g K tp ds dc G) {x y : Int32} (hx : hs_th n g x) (hy : hs_th n g y) : wpm Ls xs 93 [.ref 128, .int x, .int y] M (tr_oq M (hs_fs (hs_D n K x)) (hs_fc (hs_D n K x)) (hs_fs (hs_D n K y)) (hs_fc (hs_D n K y))) := by
  obtain ⟨r128, rH, rD, r138, rG, rM⟩ := id h
  refine sg_wr 3 rfl ?_
  refine sg_n_callV rfl rfl rfl r128 rfl (Nat.le_of_ble_eq_true rfl) (Nat.le_of_ble_eq_true rfl) (rt_needBoth h x y) (fun _ => ?_) (fun hp => absurd ⟨hx, hy⟩ hp)
  refine sg_wr 2 rfl ?_
  refine sg_p_callV rfl rfl rfl r128 rfl (Nat.le_of_ble_eq_true rfl) (Nat.le_of_ble_eq_true rfl) (rt_treeOf h x) ?_
  refine sg_wr 2 rfl ?_
  refine sg_p_callV rfl rfl rfl r128 rfl (Nat.le_of_ble_eq_true rfl) (Nat.le_of_ble_eq_true rfl) (rt_treeOf h y) ?_
  refine sg_r_callV rfl rfl rfl (hs_get rH x).2.1 rfl (Nat.le_of_ble_eq_true rfl) (Nat.le_of_ble_eq_true rfl) (tr_othersThan (hs_get rH x).2 (hs_get rH y).2) ?_
  rintro _ _ _ _ ⟨⟨v, rfl, hv⟩, rfl, rfl, rfl⟩
  refine sg_a0 ?_
  exact sg_we rfl rfl ⟨⟨v, rfl, hv⟩, rfl, rfl, rfl⟩
theorem rt_deskLines (h : rt_is M R n g K tp ds dc G) {y : Int32} (hy : ¬ y < 0 ∧ y < 8) : wpm Ls xs 80 [.ref 128, .int y] M (sg_eq (some (.int (tr_size ds y))) M) := by
  obtain ⟨r128, rH, rD, r138, rG, rM⟩ := id h
  refine sg_wr 1 rfl ?_
  refine sg_n_callS rfl rfl rfl rfl (Nat.le_of_ble_eq_true rfl) (Nat.le_of_ble_eq_true rfl) (rt_needFile y) (fun _ => ?_) (fun hp => absurd hy hp)
  refine sg_wr 1 rfl ?_
  refine sg_r_getf rfl r128 rfl ?_
  refine sg_wr 1 rfl ?_
  refine sg_p_callV rfl rfl rfl rD.1 rfl (Nat.le_of_ble_eq_true rfl) (Nat.le_of_ble_eq_true rfl) (tr_sizeOf rD y) ?_
  exact sg_we rfl rfl ⟨rfl, rfl, rfl, rfl⟩
theorem rt_conflictFile (h : rt_is M R n g K tp ds dc G) {x : Int32} (hx : ¬ x < 0 ∧ x < rt_cf R G) : wpm Ls xs 78 [.ref 128, .int x] M (sg_eq (some (.int (mg_fof G (mg_pof G x)))) M) := by
  obtain ⟨r128, rH, rD, r138, rG, rM⟩ := id h
  refine sg_wr 2 rfl ?_
  refine sg_n_callV rfl rfl rfl r128 rfl (Nat.le_of_ble_eq_true rfl) (Nat.le_of_ble_eq_true rfl) (rt_needConflict h x) (fun _ => ?_) (fun hp => absurd hx hp)
  refine sg_wr 1 rfl ?_
  refine sg_r_getf rfl r128 rfl ?_
  refine sg_wr 1 rfl ?_
  refine sg_r_getf rfl r128 rfl ?_
  refine sg_wr 1 rfl ?_
  refine sg_p_callV rfl rfl rfl rG.1 rfl (Nat.le_of_ble_eq_true rfl) (Nat.le_of_ble_eq_true rfl) (mg_pieceOf rG x) ?_
  refine sg_p_callV rfl rfl rfl rG.1 rfl (Nat.le_of_ble_eq_true rfl) (Nat.le_of_ble_eq_true rfl) (mg_fileOf rG _) ?_
  exact sg_we rfl rfl ⟨rfl, rfl, rfl, rfl⟩
theorem rt_pieceSize (h : rt_is M R n g K tp ds dc G) {x y : Int32} (hx : ¬ x < 0 ∧ x < rt_cf R G) (hy : ¬ y < 0 ∧ y < 3) : wpm Ls xs 79 [.ref 128, .int x, .int y] M (sg_eq (some (.int (mg_szf G.sz (mg_pof G x) y))) M) := by
  obtain ⟨r128, rH, rD, r138, rG, rM⟩ := id h
  refine sg_wr 2 rfl ?_
  refine sg_n_callV rfl rfl rfl r128 rfl (Nat.le_of_ble_eq_true rfl) (Nat.le_of_ble_eq_true rfl) (rt_needConflict h x) (fun _ => ?_) (fun hp => absurd hx hp)
  refine sg_wr 1 rfl ?_
  refine sg_n_callS rfl rfl rfl rfl (Nat.le_of_ble_eq_true rfl) (Nat.le_of_ble_eq_true rfl) (rt_needSide y) (fun _ => ?_) (fun hp => absurd hy hp)
  refine sg_wr 1 rfl ?_
  refine sg_r_getf rfl r128 rfl ?_
  refine sg_wr 1 rfl ?_
  refine sg_r_getf rfl r128 rfl ?_
  refine sg_wr 1 rfl ?_
  refine sg_p_callV rfl rfl rfl rG.1 rfl (Nat.le_of_ble_eq_true rfl) (Nat.le_of_ble_eq_true rfl) (mg_pieceOf rG x) ?_
  refine sg_wr 1 rfl ?_
  refine sg_p_callV rfl rfl rfl rG.1 rfl (Nat.le_of_ble_eq_true rfl) (Nat.le_of_ble_eq_true rfl) (mg_sizeOf rG _ y) ?_
  exact sg_we rfl rfl ⟨rfl, rfl, rfl, rfl⟩
end
end SGRT
