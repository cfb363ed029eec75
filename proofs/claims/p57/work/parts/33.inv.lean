section SGIV
section
variable {Ls : Nat} {xs : Nat → Int32} {M : sg_M} {R : rt_R} {n : Nat} {g : Int64} {K : Nat → hs_K} {tp ds dc : Nat → Int32} {G : mg_C}
def rt_mk (hd : Nat) (su : Int64) (wk : Nat) (ws wc : Int32) (wq : Int64) (wm : Int32) : rt_R := (hd, su, wk, ws, wc, wq, wm)
/-- the root's own fields are other -/
theorem rt_is.r (h : rt_is M R n g K tp ds dc G) (R1 : rt_R) : rt_is (sg_up M.1 128 (.inr (5, rt_fs R1)), M.2) R1 n g K tp ds dc G := by
  obtain ⟨r128, rH, rD, r138, rG, l, b, a, p, m1, m2, m3, m4⟩ := h
  have ho : sg_out [128] M (sg_up M.1 128 (.inr (5, rt_fs R1)), M.2) := sg_out.rf.up (by simp)
  exact ⟨rfl, rH.out ho (fun q hq => by
    simp only [List.mem_cons, List.not_mem_nil, or_false] at hq
    omega), rD.out ho (by decide) (by decide) (by decide), r138, rG, l, b, a, p, m1, m2, m3, m4⟩
/-- the desk is other -/
theorem rt_is.d (h : rt_is M R n g K tp ds dc G) (gs gc : Nat → Int32) : rt_is (tr_st M 130 131 gs gc) R n g K tp gs gc G := by
  obtain ⟨r128, rH, rD, r138, rG, l, b, a, p, m1, m2, m3, m4⟩ := h
  have ho : sg_out [130, 131] M (tr_st M 130 131 gs gc) := tr_st_out
  exact ⟨r128, rH.out ho (fun q hq => by
    simp only [List.mem_cons, List.not_mem_nil, or_false] at hq
    omega), tr_st_is rD, r138, rG, l, b, a, p, m1, m2, m3, m4⟩
/-- the tips are other -/
theorem rt_is.t (h : rt_is M R n g K tp ds dc G) (tq : Nat → Int32) : rt_is (sg_up M.1 138 (.inl (0, 8, .inl tq)), M.2) R n g K tq ds dc G := by
  obtain ⟨r128, rH, rD, r138, rG, l, b, a, p, m1, m2, m3, m4⟩ := h
  have ho : sg_out [138] M (sg_up M.1 138 (.inl (0, 8, .inl tq)), M.2) := sg_out.rf.up (by simp)
  exact ⟨r128, rH.out ho (fun q hq => by
    simp only [List.mem_cons, List.not_mem_nil, or_false] at hq
    omega), rD.out ho (by decide) (by decide) (by decide), rfl, rG, l, b, a, p, m1, m2, m3, m4⟩
/-- the history is other -/
theorem rt_is.h (h : rt_is M R n g K tp ds dc G) {M1 : sg_M} {n1 : Nat} {g1 : Int64} {K1 : Nat → hs_K} {k : Nat} (h1 : hs_is M1 n1 g1 K1) (ho : sg_ag [132, 133] k M M1) : rt_is M1 R n1 g1 K1 tp ds dc G := by
  obtain ⟨r128, rH, rD, r138, rG, l, b, a, p, m1, m2, m3, m4⟩ := h
  have hz := rH.2.2.2.2.1
  have e : ∀ q : Nat, q < 161 → q ≠ 132 → q ≠ 133 → M1.1 q = M.1 q := fun q a b c => ho.1 q (by omega) (fun z => by
    simp only [List.mem_cons, List.not_mem_nil, or_false] at z
    omega)
  obtain ⟨g143, g155, g156, g157, g158, g159, g160, gR, g144, g145, g146, g147, g148, g149, g150, g151⟩ := rG
  have e' : ∀ {q : Nat} {x : Option sg_E}, M.1 q = x → q < 161 → q ≠ 132 → q ≠ 133 → M1.1 q = x := fun h a b c => (e _ a b c).trans h
  exact ⟨e' r128 (by decide) (by decide) (by decide), h1, rD.ag ho (by omega) (by omega) (by omega) (by decide) (by decide) (by decide), e' r138 (by decide) (by decide) (by decide),
    ⟨e' g143 (by decide) (by decide) (by decide), e' g155 (by decide) (by decide) (by decide), e' g156 (by decide) (by decide) (by decide), e' g157 (by decide) (by decide) (by decide), e' g158 (by decide) (by decide) (by decide), e' g159 (by decide) (by decide) (by decide), e' g160 (by decide) (by decide) (by decide), gR.ag ho (by omega) (by omega) (by omega) (by decide) (by decide) (by decide), e' g144 (by decide) (by decide) (by decide), e' g145 (by decide) (by decide) (by decide), e' g146 (by decide) (by decide) (by decide), e' g147 (by decide) (by decide) (by decide), e' g148 (by decide) (by decide) (by decide), e' g149 (by decide) (by decide) (by decide), e' g150 (by decide) (by decide) (by decide), e' g151 (by decide) (by decide) (by decide)⟩,
    l, b, a, p, e' m1 (by decide) (by decide) (by decide), e' m2 (by decide) (by decide) (by decide), e' m3 (by decide) (by decide) (by decide), e' m4 (by decide) (by decide) (by decide)⟩
/-- a number more was given away -/
theorem hs_is.sk (h : hs_is M n g K) : hs_is (M.1, M.2 + 1) n g K := by
  obtain ⟨h1, h2, h3, h4, h5, h6⟩ := h
  refine ⟨h1, h2, h3, h4, Nat.le_succ_of_le h5, fun i hi => ?_⟩
  obtain ⟨k1, k2, k3, k4, k5⟩ := h6 i hi
  exact ⟨k1, ⟨k2.1, Nat.lt_succ_of_lt k2.2⟩, ⟨k3.1, Nat.lt_succ_of_lt k3.2⟩, ⟨k4.1, Nat.lt_succ_of_lt k4.2⟩, k5.1, Nat.lt_succ_of_lt k5.2⟩
theorem rt_is.sk (h : rt_is M R n g K tp ds dc G) : rt_is (M.1, M.2 + 1) R n g K tp ds dc G := by
  obtain ⟨r128, rH, rD, r138, rG, rM⟩ := h
  exact ⟨r128, rH.sk, rD, r138, rG, rM⟩
/-- not a part of a tree -/
def mg_nt (M : sg_M) (q : Nat) : Prop := (∀ vs, M.1 q ≠ some (.inr (4, vs))) ∧ (∀ f, M.1 q ≠ some (.inl (0, 8, .inl f))) ∧ ∀ f, M.1 q ≠ some (.inl (0, 320, .inl f))
theorem mg_t.nt {M1 : sg_M} {F : List Nat} {t : Nat} (h : mg_t M t) (ho : sg_out F M M1) (hF : ∀ q ∈ F, mg_nt M q) : mg_t M1 t := by
  obtain ⟨s, c, fs, fc, h1, h2, h3, h4, h5⟩ := h
  exact ⟨s, c, fs, fc, h1.out ho (fun z => (hF t z).1 _ h1.1) (fun z => (hF s z).2.1 _ h1.2.1) (fun z => (hF c z).2.2 _ h1.2.2.1), h2, h3, h4, h5⟩
theorem mg_tr.nt {M1 : sg_M} {F : List Nat} (h : mg_tr M G) (ho : sg_out F M M1) (hF : ∀ q ∈ F, mg_nt M q) : mg_tr M1 G := ⟨h.1.nt ho hF, h.2.1.nt ho hF, h.2.2.nt ho hF⟩
theorem mg_nt_o {q ci : Nat} {vs : List Value} (h : M.1 q = some (.inr (ci, vs))) (hc : ci ≠ 4) : mg_nt M q := by
  refine ⟨fun w z => ?_, fun f z => ?_, fun f z => ?_⟩
  · have e := Option.some.inj (h.symm.trans z)
    injection e with e
    injection e with e _
    exact hc e
  · have e := Option.some.inj (h.symm.trans z)
    cases e
  · have e := Option.some.inj (h.symm.trans z)
    cases e
theorem mg_nt_a {q k : Nat} {f : Nat → Int32} (h : M.1 q = some (.inl (0, k, .inl f))) (h8 : k ≠ 8) (h3 : k ≠ 320) : mg_nt M q := by
  refine ⟨fun w z => ?_, fun f z => ?_, fun f z => ?_⟩
  · have e := Option.some.inj (h.symm.trans z)
    cases e
  · have e := Option.some.inj (h.symm.trans z)
    injection e with e
    injection e with _ e
    injection e with e _
    exact h8 e
  · have e := Option.some.inj (h.symm.trans z)
    injection e with e
    injection e with _ e
    injection e with e _
    exact h3 e
theorem mg_tr.r (h : rt_is M R n g K tp ds dc G) (ht : mg_tr M G) {e : sg_E} : mg_tr (sg_up M.1 128 e, M.2) G :=
  ht.nt (F := [128]) (sg_out.rf.up (by simp)) (fun q hq => by
    rw [List.mem_singleton.mp hq]
    exact mg_nt_o h.1 (by decide))
theorem mg_tr.m (h : rt_is M R n g K tp ds dc G) (ht : mg_tr M G) {M1 : sg_M} (ho : sg_out [139, 140, 141, 142] M M1) : mg_tr M1 G := by
  obtain ⟨r128, rH, rD, r138, rG, l, b, a, p, m1, m2, m3, m4⟩ := h
  refine ht.nt ho (fun q hq => ?_)
  simp only [List.mem_cons, List.not_mem_nil, or_false] at hq
  rcases hq with rfl | rfl | rfl | rfl
  · exact mg_nt_o m1 (by decide)
  · exact mg_nt_a m2 (by decide) (by decide)
  · exact mg_nt_a m3 (by decide) (by decide)
  · exact mg_nt_a m4 (by decide) (by decide)
/-- a copy is the same -/
theorem tr_eq_cpy {fs fc gs gc : Nat → Int32} : tr_eq (va_cpy gs fs 0 0 8) (va_cpy gc fc 0 0 320) gs gc := by
  intro f hf
  have hs : va_cpy gs fs 0 0 8 f = gs f := sb_cpy0 hf
  have h1 : ¬ nI f < 0 := nI_pos (by omega)
  have h2 : nI f < 8 := nI_lt (b := 8) hf (by decide)
  have h3 : ¬ 8 ≤ nI f := nI_ge (b := 8) hf (by decide)
  have e : tr_size (va_cpy gs fs 0 0 8) (nI f) = tr_size gs (nI f) := by
    unfold tr_size
    rw [if_neg h1, if_pos h2, if_neg h1, if_pos h2, nI_clamp (by omega)]
    exact hs
  refine ⟨e, fun p hp _ => ?_⟩
  unfold tr_line
  rw [if_neg h1, if_neg h3, if_neg h1, if_neg h3, nI_clamp (by omega), hs]
  by_cases c1 : nI p < 0
  · rw [if_pos c1, if_pos c1]
  · rw [if_neg c1, if_neg c1]
    by_cases c2 : 40 ≤ nI p
    · rw [if_pos c2, if_pos c2]
    · rw [if_neg c2, if_neg c2]
      have hp40 : p < 40 := sg_ltn (n := 40) c2 hp
      rw [tr_40, nI_add, nI_clamp (by omega)]
      rw [show va_cpy gc fc 0 0 320 (f * 40 + p) = gc (f * 40 + p) from sb_cpy0 (by omega)]
theorem tr_ti_cpy {fs gs : Nat → Int32} (h : tr_ti gs) : tr_ti (va_cpy gs fs 0 0 8) := fun f hf => by
  rw [show va_cpy gs fs 0 0 8 f = gs f from sb_cpy0 hf]
  exact h f hf
theorem rt_setTip (h : rt_is M R n g K tp ds dc G) {j : Nat} (hj : j < 8) (v : Int32) : wpm Ls xs 127 [.ref 128, .int (nI j), .int v] M (sg_eq none (sg_up M.1 138 (.inl (0, 8, .inl (upd tp j v))), M.2)) := by
  obtain ⟨r128, rH, rD, r138, rG, rM⟩ := id h
  refine sg_wr 1 rfl ?_
  refine sg_wb rfl rfl (fun z => absurd z (nI_pos (by omega))) (fun _ => ?_)
  refine sg_wr 2 rfl ?_
  refine sg_wb rfl rfl (fun z => absurd z (nI_ge (b := 8) hj (by decide))) (fun _ => ?_)
  refine sg_wr 1 rfl ?_
  refine sg_r_getf rfl r128 rfl ?_
  refine sg_wr 2 rfl ?_
  refine sg_r_iast rfl r138 (sg_in_n hj (by decide)) ?_
  rw [nI_clamp (by omega)]
  exact sg_we rfl rfl ⟨rfl, rfl, rfl, rfl⟩
/-- no work is pending, and the desk is as the head's commit -/
def rt_pl (M : sg_M) (R : rt_R) (n : Nat) (g : Int64) (G : mg_C) : Prop := ∃ (K : Nat → hs_K) (tp ds dc : Nat → Int32), rt_is M R n g K tp ds dc G ∧ kb_ok n g tp ∧ kc_ok n g K ∧ ¬ tp R.hd = -2 ∧ tr_ti ds ∧ rt_cl R n K tp ds dc
/-- what moving the head leaves -/
theorem rt_moveHead (h : rt_is M R n g K tp ds dc G) (hb : kb_ok n g tp) (hk : kc_ok n g K) (hh : R.hd < 8) {v : Int32} (hv : kt_is n g v) : wpm Ls xs 128 [.ref 128, .int v] M (fun r M1 c s => r = .inl none ∧ rt_pl M1 R n g G ∧ c = 0 ∧ s = 0) := by
  obtain ⟨r128, rH, rD, r138, rG, rM⟩ := id h
  refine sg_wr 2 rfl ?_
  refine sg_r_getf rfl r128 rfl ?_
  refine sg_wr 1 rfl ?_
  refine sg_p_callV rfl rfl rfl r128 rfl (Nat.le_of_ble_eq_true rfl) (Nat.le_of_ble_eq_true rfl) (rt_setTip h hh v) ?_
  have h1 := h.t (upd tp R.hd v)
  generalize (((sg_up M.1 138 (.inl (0, 8, .inl (upd tp R.hd v)))), M.2) : sg_M) = M1 at h1 ⊢
  obtain ⟨q128, qH, qD, -⟩ := id h1
  refine sg_wr 1 rfl ?_
  refine sg_r_getf rfl q128 rfl ?_
  refine sg_wr 2 rfl ?_
  refine sg_p_callV rfl rfl rfl q128 rfl (Nat.le_of_ble_eq_true rfl) (Nat.le_of_ble_eq_true rfl) (rt_treeOf h1 v) ?_
  refine sg_p_callV rfl rfl rfl qD.1 rfl (Nat.le_of_ble_eq_true rfl) (Nat.le_of_ble_eq_true rfl) (tr_become qD (hs_get qH v).2) ?_
  have h2 := h1.d (va_cpy (hs_fs (hs_D n K v)) ds 0 0 8) (va_cpy (hs_fc (hs_D n K v)) dc 0 0 320)
  have ev : rt_hc (upd tp R.hd v) R = v := by
    show rt_co _ (nI R.hd) = v
    rw [rt_co_n hh]
    exact if_pos rfl
  refine sg_we rfl rfl ⟨rfl, ⟨K, upd tp R.hd v, _, _, h2, fun b hb8 => ?_, hk, ?_, tr_ti_cpy (kd_ti hk v), ?_⟩, rfl, rfl⟩
  · show (if b = R.hd then v else tp b) = -2 ∨ kt_is n g (if b = R.hd then v else tp b)
    by_cases z : b = R.hd
    · rw [if_pos z]; exact Or.inr hv
    · rw [if_neg z]; exact hb b hb8
  · show ¬ (if R.hd = R.hd then v else tp R.hd) = -2
    rw [if_pos rfl]
    rcases hv with z | ⟨j, hj, z, -⟩
    · rw [z]; decide
    · rw [z]
      have hn := rH.2.2.2.1
      exact fun y => absurd (y ▸ (by decide : (-2 : Int32) < 0)) (nI_pos (by omega))
  · unfold rt_cl
    rw [ev]
    exact tr_eq_cpy
theorem rt_bc_loop (h : rt_is M R n g K tp ds dc G) : ∀ (d i : Nat) (v : Int32), d = 8 - i → i ≤ 8 → wpa Ls xs 129 4 [(0, .ref 128), (1, .int v), (2, .int (nI i))] [] M (sg_ai M) := by
  obtain ⟨r128, rH, rD, r138, rG, rM⟩ := id h
  intro d
  induction d with
  | zero =>
    intro i v hd hi
    have e : i = 8 := by omega
    subst e
    refine sg_wr 4 rfl ?_
    exact sg_we rfl rfl ⟨⟨_, rfl⟩, rfl, rfl, rfl⟩
  | succ d ih =>
    intro i v hd hi
    have hlt : i < 8 := by omega
    refine sg_wr 2 rfl ?_
    refine sg_wb rfl rfl (fun z => absurd z (nI_ge (b := 8) hlt (by decide))) (fun _ => ?_)
    refine sg_wr 1 rfl ?_
    refine sg_r_getf rfl r128 rfl ?_
    refine sg_wr 1 rfl ?_
    refine sg_r_iald rfl (by decide) r138 (sg_in_n hlt (by decide)) ?_
    refine sg_wr 1 rfl ?_
    have h9 := fun v => ih (i + 1) v (by omega) hlt
    rw [nI_succ] at h9
    refine sg_wb rfl rfl (fun _ => ?_) (fun _ => ?_)
    · refine sg_wr 2 rfl ?_
      exact h9 _
    · refine sg_wr 3 rfl ?_
      exact h9 _
theorem rt_branchCount (h : rt_is M R n g K tp ds dc G) : wpm Ls xs 129 [.ref 128] M (sg_ai M) := by
  refine sg_wr 4 rfl ?_
  exact rt_bc_loop h 8 0 0 rfl (by decide)
end
end SGIV
