section SGIN
theorem sg_upM {m : sg_M} {f : Nat → Option sg_E} {a x : Nat} {e : sg_E} (h : m = (sg_up f a e, x)) : m.1 a = some e := by
  subst h
  exact sg_upself
section
variable {tab : Nat → Nat → Option sg_F} {hd : Nat → Nat → Nat → Option (Option Nat)} {k pc : Nat} {L : sg_L} {st r : List Value} {M : sg_M} {Q : Option Value ⊕ Nat → sg_M → Nat → Nat → Prop} {N : Nat}
theorem iw_new {ci n : Nat} {fs : List Value} (hf : tab k pc = some (sg_new pc ci n fs)) (hz : M.2 = N) (h : ∀ M1 : sg_M, M1.1 N = some (.inr (ci, fs)) → M1.2 = N + 1 → (∀ q, q < N → M1.1 q = M.1 q) → sg_wp tab hd k (pc + 3) L (.ref N :: st) M1 (fun r M c s => Q r M (1 + c) (n + s))) : sg_wp tab hd k pc L st M Q := by
  subst hz
  exact sg_r_new hf (h _ sg_upself rfl (fun q hq => sg_upne (Nat.ne_of_lt hq)))
theorem iw_newa {n : Nat} (hf : tab k pc = some (sg_newa_int pc)) (hn : n ≤ 65536) (hz : M.2 = N) (h : ∀ M1 : sg_M, M1.1 N = some (.inl (0, n, .inl (fun _ => 0))) → M1.2 = N + 1 → (∀ q, q < N → M1.1 q = M.1 q) → sg_wp tab hd k (pc + 2) L (.ref N :: r) M1 (fun r M c s => Q r M (1 + c) (n + s))) : sg_wp tab hd k pc L (.int (nI n) :: r) M Q := by
  subst hz
  exact sg_r_newa hf hn (h _ sg_upself rfl (fun q hq => sg_upne (Nat.ne_of_lt hq)))
theorem iw_newq {n t : Nat} (hf : tab k pc = some (sg_newq pc t)) (hn : n ≤ 65536) (hz : M.2 = N) (h : ∀ M1 : sg_M, M1.1 N = some (.inl (t, n, .inr (.inr (.inr (.inr (fun _ => none)))))) → M1.2 = N + 1 → (∀ q, q < N → M1.1 q = M.1 q) → sg_wp tab hd k (pc + 3) L (.ref N :: r) M1 (fun r M c s => Q r M (1 + c) (n + s))) : sg_wp tab hd k pc L (.int (nI n) :: r) M Q := by
  subst hz
  refine sg_wn hf (by
    have h1 : ¬ nI n < 0 := nI_pos (by omega)
    have h2 : (nI n).toNatClampNeg = n := nI_clamp (by omega)
    unfold sg_newq
    simp only [h2]
    rw [if_neg (by rintro (z | z); exact h1 z; omega)]) (h _ sg_upself rfl (fun q hq => sg_upne (Nat.ne_of_lt hq)))
theorem iw_putf {a ci f : Nat} {fs : List Value} {v : Value} {ty : FieldType} (hf : tab k pc = some (sg_putf pc ci f ty)) (hM : M.1 a = some (.inr (ci, fs))) (hl : f < fs.length) (hk : sg_kd ty v = true) (hz : M.2 = N) (h : ∀ M1 : sg_M, M1.1 a = some (.inr (ci, fs.set f v)) → M1.2 = N → (∀ q, q ≠ a → M1.1 q = M.1 q) → sg_wp tab hd k (pc + 3) L r M1 Q) : sg_wp tab hd k pc L (v :: .ref a :: r) M Q :=
  sg_r_putf hf hM hl hk (h _ sg_upself hz (fun _ hq => sg_upne hq))
end
section
variable {Ls : Nat} {xs : Nat → Int32} {M : sg_M} {N : Nat}
theorem tr_it0 {t : Nat} (h : M.1 t = some (.inr (4, [.null, .null]))) (ht : t < N) (hz : M.2 = N) : wpm Ls xs 0 [.ref t] M (fun r M1 c s => r = .inl none ∧ (tr_is M1 t N (N + 1) (tr_cl (fun _ => 0)) (fun _ => 0) ∧ M1.2 = N + 2 ∧ ∀ q, q < N → q ≠ t → M1.1 q = M.1 q) ∧ c = 2 ∧ s = 328) := by
  subst hz
  refine (tr_init h ht (by omega)).mono ?_
  rintro r M1 c s ⟨rfl, ⟨h1, h2⟩, rfl, rfl⟩
  exact ⟨rfl, ⟨h1, h2.2, fun q a b => h2.1 q a (fun z => b (List.mem_singleton.mp z))⟩, rfl, rfl⟩

theorem sg_aft_c {tab : Nat → Nat → Option sg_F} {hd : Nat → Nat → Nat → Option (Option Nat)} {k pc c1 s1 : Nat} {L : sg_L} {M1 : sg_M} {Q : Option Value ⊕ Nat → sg_M → Nat → Nat → Prop} {rest : List Value} (h : sg_wp tab hd k (pc + 3) L rest M1 (fun r M c s => Q r M (c1 + c) (s1 + s))) : sg_aft tab hd k pc L rest Q (.inl none) M1 c1 s1 := h
theorem mt_it0 {m : Nat} (h : M.1 m = some (.inr (2, [.null, .null, .null, .int 0]))) (ht : m < N) (hz : M.2 = N) : wpm Ls xs 25 [.ref m] M (fun r M1 c s => r = .inl none ∧ (M1.1 m = some (.inr (2, [.ref N, .ref (N + 1), .ref (N + 2), .int 0])) ∧ M1.1 N = some (.inl (0, 1681, .inl (fun _ => 0))) ∧ M1.1 (N + 1) = some (.inl (0, 40, .inl (fun _ => 0))) ∧ M1.1 (N + 2) = some (.inl (0, 40, .inl (fun _ => 0))) ∧ M1.2 = N + 3 ∧ ∀ q, q < N → q ≠ m → M1.1 q = M.1 q) ∧ c = 3 ∧ s = 1761) := by
  refine sg_wr 4 rfl ?_
  refine iw_newa (n := 1681) rfl (by decide) hz (fun M1 a1 z1 g1 => ?_)
  have x1_h := (g1 m (by omega)).trans h
  refine iw_putf rfl x1_h (Nat.le_of_ble_eq_true rfl) rfl z1 (fun M2 a2 z2 g2 => ?_)
  have x2_a1 := (g2 N (by omega)).trans a1
  refine sg_wr 2 rfl ?_
  refine iw_newa (n := 40) rfl (by decide) z2 (fun M3 a3 z3 g3 => ?_)
  have x3_a2 := (g3 m (by omega)).trans a2
  have x3_a1 := (g3 N (by omega)).trans x2_a1
  refine iw_putf rfl x3_a2 (Nat.le_of_ble_eq_true rfl) rfl z3 (fun M4 a4 z4 g4 => ?_)
  have x4_a1 := (g4 N (by omega)).trans x3_a1
  have x4_a3 := (g4 (N + 1) (by omega)).trans a3
  refine sg_wr 2 rfl ?_
  refine iw_newa (n := 40) rfl (by decide) z4 (fun M5 a5 z5 g5 => ?_)
  have x5_a4 := (g5 m (by omega)).trans a4
  have x5_a1 := (g5 N (by omega)).trans x4_a1
  have x5_a3 := (g5 (N + 1) (by omega)).trans x4_a3
  refine iw_putf rfl x5_a4 (Nat.le_of_ble_eq_true rfl) rfl z5 (fun M6 a6 z6 g6 => ?_)
  have x6_a1 := (g6 N (by omega)).trans x5_a1
  have x6_a3 := (g6 (N + 1) (by omega)).trans x5_a3
  have x6_a5 := (g6 (N + 2) (by omega)).trans a5
  refine sg_wr 2 rfl ?_
  refine iw_putf rfl a6 (Nat.le_of_ble_eq_true rfl) rfl z6 (fun M7 a7 z7 g7 => ?_)
  have x7_a1 := (g7 N (by omega)).trans x6_a1
  have x7_a3 := (g7 (N + 1) (by omega)).trans x6_a3
  have x7_a5 := (g7 (N + 2) (by omega)).trans x6_a5
  exact sg_we rfl rfl ⟨rfl, ⟨a7, x7_a1, x7_a3, x7_a5, z7, fun q hq hqm => (g7 q (by omega)).trans ((g6 q (by omega)).trans ((g5 q (by omega)).trans ((g4 q (by omega)).trans ((g3 q (by omega)).trans ((g2 q (by omega)).trans ((g1 q (by omega))))))))⟩, rfl, rfl⟩
theorem hs_it0 (h : M.1 132 = some (.inr (1, [.null, .null, .int 0, .long 0]))) (hz : M.2 = 133) : wpm Ls xs 18 [.ref 132] M (fun r M1 c s => r = .inl none ∧ (M1.1 132 = some (.inr (1, [.ref 133, .ref 134, .int 0, .long 0])) ∧ M1.1 133 = some (.inl (1, 60, .inr (.inr (.inr (.inr (fun _ => none)))))) ∧ M1.1 134 = some (.inr (0, [.ref 135, .int (-1), .int (-1), .int (-1), .int 0, .long 0])) ∧ tr_is M1 135 136 137 (tr_cl (fun _ => 0)) (fun _ => 0) ∧ M1.2 = 138 ∧ ∀ q, q < 132 → M1.1 q = M.1 q) ∧ c = 5 ∧ s = 396) := by
  refine sg_wr 4 rfl ?_
  refine iw_newq (n := 60) rfl (by decide) hz (fun M1 a1 z1 g1 => ?_)
  have x1_h := (g1 132 (by omega)).trans h
  refine iw_putf rfl x1_h (Nat.le_of_ble_eq_true rfl) rfl z1 (fun M2 a2 z2 g2 => ?_)
  have x2_a1 := (g2 133 (by omega)).trans a1
  refine sg_wr 1 rfl ?_
  refine iw_new rfl z2 (fun M3 a3 z3 g3 => ?_)
  have x3_a2 := (g3 132 (by omega)).trans a2
  have x3_a1 := (g3 133 (by omega)).trans x2_a1
  refine sg_wr 1 rfl ?_
  refine iw_new rfl z3 (fun M4 a4 z4 g4 => ?_)
  have x4_a2 := (g4 132 (by omega)).trans x3_a2
  have x4_a1 := (g4 133 (by omega)).trans x3_a1
  have x4_a3 := (g4 134 (by omega)).trans a3
  refine sg_wr 1 rfl ?_
  refine sg_r_callI rfl rfl rfl rfl (Nat.le_of_ble_eq_true rfl) (Nat.le_of_ble_eq_true rfl) (tr_it0 a4 (by omega) z4) ?_
  rintro _ M5 _ _ ⟨rfl, ⟨a5, z5, g5⟩, rfl, rfl⟩
  have x5_a2 := (g5 132 (by omega) (by omega)).trans x4_a2
  have x5_a1 := (g5 133 (by omega) (by omega)).trans x4_a1
  have x5_a3 := (g5 134 (by omega) (by omega)).trans x4_a3
  refine sg_aft_c ?_
  refine sg_wr 5 rfl ?_
  refine sg_r_callI rfl rfl rfl rfl (Nat.le_of_ble_eq_true rfl) (Nat.le_of_ble_eq_true rfl) (cm_init x5_a3) ?_
  rintro _ _ _ _ ⟨rfl, rfl, rfl, rfl⟩
  refine sg_a0 ?_
  obtain ⟨M6, a6, z6, g6⟩ : ∃ M6 : sg_M, M6 = (sg_up M5.1 134 (.inr (0, [.ref 135, .int (-1), .int (-1), .int (-1), .int 0, .long 0])), M5.2) ∧ M6.2 = 138 ∧ ∀ q, q ≠ 134 → M6.1 q = M5.1 q := ⟨_, rfl, z5, fun q hq => sg_upne hq⟩
  have b6 : M6.1 134 = some (.inr (0, [.ref 135, .int (-1), .int (-1), .int (-1), .int 0, .long 0])) := sg_upM a6
  rw [← a6]
  have x6_a2 := (g6 132 (by omega)).trans x5_a2
  have x6_a1 := (g6 133 (by omega)).trans x5_a1
  have x6_a5 : tr_is M6 135 136 137 (tr_cl (fun _ => 0)) (fun _ => 0) := ⟨(g6 135 (by omega)).trans a5.1, (g6 136 (by omega)).trans a5.2.1, (g6 137 (by omega)).trans a5.2.2.1, a5.2.2.2⟩
  refine iw_putf rfl x6_a2 (Nat.le_of_ble_eq_true rfl) rfl z6 (fun M7 a7 z7 g7 => ?_)
  have x7_a1 := (g7 133 (by omega)).trans x6_a1
  have x7_b6 := (g7 134 (by omega)).trans b6
  have x7_a5 : tr_is M7 135 136 137 (tr_cl (fun _ => 0)) (fun _ => 0) := ⟨(g7 135 (by omega)).trans x6_a5.1, (g7 136 (by omega)).trans x6_a5.2.1, (g7 137 (by omega)).trans x6_a5.2.2.1, x6_a5.2.2.2⟩
  refine sg_wr 2 rfl ?_
  refine iw_putf rfl a7 (Nat.le_of_ble_eq_true rfl) rfl z7 (fun M8 a8 z8 g8 => ?_)
  have x8_a1 := (g8 133 (by omega)).trans x7_a1
  have x8_b6 := (g8 134 (by omega)).trans x7_b6
  have x8_a5 : tr_is M8 135 136 137 (tr_cl (fun _ => 0)) (fun _ => 0) := ⟨(g8 135 (by omega)).trans x7_a5.1, (g8 136 (by omega)).trans x7_a5.2.1, (g8 137 (by omega)).trans x7_a5.2.2.1, x7_a5.2.2.2⟩
  refine sg_wr 2 rfl ?_
  refine iw_putf rfl a8 (Nat.le_of_ble_eq_true rfl) rfl z8 (fun M9 a9 z9 g9 => ?_)
  have x9_a1 := (g9 133 (by omega)).trans x8_a1
  have x9_b6 := (g9 134 (by omega)).trans x8_b6
  have x9_a5 : tr_is M9 135 136 137 (tr_cl (fun _ => 0)) (fun _ => 0) := ⟨(g9 135 (by omega)).trans x8_a5.1, (g9 136 (by omega)).trans x8_a5.2.1, (g9 137 (by omega)).trans x8_a5.2.2.1, x8_a5.2.2.2⟩
  exact sg_we rfl rfl ⟨rfl, ⟨a9, x9_a1, x9_b6, x9_a5, z9, fun q hq => (g9 q (by omega)).trans ((g8 q (by omega)).trans ((g7 q (by omega)).trans ((g6 q (by omega)).trans ((g5 q (by omega) (by omega)).trans ((g4 q (by omega)).trans ((g3 q (by omega)).trans ((g2 q (by omega)).trans ((g1 q (by omega))))))))))⟩, rfl, rfl⟩
def mg_G0 : mg_C := mg_mk 152 152 152 0 0 (fun _ => 0) (fun _ => 0) (fun _ => 0) (fun _ => 0) (fun _ => 0) (fun _ => 0) (tr_cl (fun _ => 0)) (fun _ => 0) (fun _ => 0) (fun _ => 0) (fun _ => 0) (fun _ => 0) (fun _ => 0) (fun _ => 0) 0 0
theorem mg_it0 (h : M.1 143 = some (.inr (3, [.null, .null, .null, .null, .null, .null, .null, .null, .null, .null, .int 0, .null, .null, .int 0]))) (hz : M.2 = 144) : wpm Ls xs 33 [.ref 143] M (fun r M1 c s => r = .inl none ∧ (mg_is M1 mg_G0 ∧ M1.2 = 161 ∧ ∀ q, q < 143 → M1.1 q = M.1 q) ∧ c = 17 ∧ s = 6815) := by
  refine sg_wr 3 rfl ?_
  refine iw_new rfl hz (fun M1 a1 z1 g1 => ?_)
  have x1_h := (g1 143 (by omega)).trans h
  refine sg_wr 1 rfl ?_
  refine sg_r_callI rfl rfl rfl rfl (Nat.le_of_ble_eq_true rfl) (Nat.le_of_ble_eq_true rfl) (mt_it0 a1 (by omega) z1) ?_
  rintro _ M2 _ _ ⟨rfl, ⟨a2, b2, c2, d2, z2, g2⟩, rfl, rfl⟩
  have x2_h := (g2 143 (by omega) (by omega)).trans x1_h
  refine sg_aft_c ?_
  refine iw_putf rfl x2_h (Nat.le_of_ble_eq_true rfl) rfl z2 (fun M3 a3 z3 g3 => ?_)
  have x3_a2 := (g3 144 (by omega)).trans a2
  have x3_b2 := (g3 145 (by omega)).trans b2
  have x3_c2 := (g3 146 (by omega)).trans c2
  have x3_d2 := (g3 147 (by omega)).trans d2
  refine sg_wr 1 rfl ?_
  refine iw_new rfl z3 (fun M4 a4 z4 g4 => ?_)
  have x4_a3 := (g4 143 (by omega)).trans a3
  have x4_a2 := (g4 144 (by omega)).trans x3_a2
  have x4_b2 := (g4 145 (by omega)).trans x3_b2
  have x4_c2 := (g4 146 (by omega)).trans x3_c2
  have x4_d2 := (g4 147 (by omega)).trans x3_d2
  refine sg_wr 1 rfl ?_
  refine sg_r_callI rfl rfl rfl rfl (Nat.le_of_ble_eq_true rfl) (Nat.le_of_ble_eq_true rfl) (mt_it0 a4 (by omega) z4) ?_
  rintro _ M5 _ _ ⟨rfl, ⟨a5, b5, c5, d5, z5, g5⟩, rfl, rfl⟩
  have x5_a3 := (g5 143 (by omega) (by omega)).trans x4_a3
  have x5_a2 := (g5 144 (by omega) (by omega)).trans x4_a2
  have x5_b2 := (g5 145 (by omega) (by omega)).trans x4_b2
  have x5_c2 := (g5 146 (by omega) (by omega)).trans x4_c2
  have x5_d2 := (g5 147 (by omega) (by omega)).trans x4_d2
  refine sg_aft_c ?_
  refine iw_putf rfl x5_a3 (Nat.le_of_ble_eq_true rfl) rfl z5 (fun M6 a6 z6 g6 => ?_)
  have x6_a2 := (g6 144 (by omega)).trans x5_a2
  have x6_b2 := (g6 145 (by omega)).trans x5_b2
  have x6_c2 := (g6 146 (by omega)).trans x5_c2
  have x6_d2 := (g6 147 (by omega)).trans x5_d2
  have x6_a5 := (g6 148 (by omega)).trans a5
  have x6_b5 := (g6 149 (by omega)).trans b5
  have x6_c5 := (g6 150 (by omega)).trans c5
  have x6_d5 := (g6 151 (by omega)).trans d5
  refine sg_wr 1 rfl ?_
  refine iw_new rfl z6 (fun M7 a7 z7 g7 => ?_)
  have x7_a6 := (g7 143 (by omega)).trans a6
  have x7_a2 := (g7 144 (by omega)).trans x6_a2
  have x7_b2 := (g7 145 (by omega)).trans x6_b2
  have x7_c2 := (g7 146 (by omega)).trans x6_c2
  have x7_d2 := (g7 147 (by omega)).trans x6_d2
  have x7_a5 := (g7 148 (by omega)).trans x6_a5
  have x7_b5 := (g7 149 (by omega)).trans x6_b5
  have x7_c5 := (g7 150 (by omega)).trans x6_c5
  have x7_d5 := (g7 151 (by omega)).trans x6_d5
  refine sg_wr 1 rfl ?_
  refine sg_r_callI rfl rfl rfl rfl (Nat.le_of_ble_eq_true rfl) (Nat.le_of_ble_eq_true rfl) (tr_it0 a7 (by omega) z7) ?_
  rintro _ M8 _ _ ⟨rfl, ⟨a8, z8, g8⟩, rfl, rfl⟩
  have x8_a6 := (g8 143 (by omega) (by omega)).trans x7_a6
  have x8_a2 := (g8 144 (by omega) (by omega)).trans x7_a2
  have x8_b2 := (g8 145 (by omega) (by omega)).trans x7_b2
  have x8_c2 := (g8 146 (by omega) (by omega)).trans x7_c2
  have x8_d2 := (g8 147 (by omega) (by omega)).trans x7_d2
  have x8_a5 := (g8 148 (by omega) (by omega)).trans x7_a5
  have x8_b5 := (g8 149 (by omega) (by omega)).trans x7_b5
  have x8_c5 := (g8 150 (by omega) (by omega)).trans x7_c5
  have x8_d5 := (g8 151 (by omega) (by omega)).trans x7_d5
  refine sg_aft_c ?_
  refine iw_putf rfl x8_a6 (Nat.le_of_ble_eq_true rfl) rfl z8 (fun M9 a9 z9 g9 => ?_)
  have x9_a2 := (g9 144 (by omega)).trans x8_a2
  have x9_b2 := (g9 145 (by omega)).trans x8_b2
  have x9_c2 := (g9 146 (by omega)).trans x8_c2
  have x9_d2 := (g9 147 (by omega)).trans x8_d2
  have x9_a5 := (g9 148 (by omega)).trans x8_a5
  have x9_b5 := (g9 149 (by omega)).trans x8_b5
  have x9_c5 := (g9 150 (by omega)).trans x8_c5
  have x9_d5 := (g9 151 (by omega)).trans x8_d5
  have x9_a8 : tr_is M9 152 153 154 (tr_cl (fun _ => 0)) (fun _ => 0) := ⟨(g9 152 (by omega)).trans a8.1, (g9 153 (by omega)).trans a8.2.1, (g9 154 (by omega)).trans a8.2.2.1, a8.2.2.2⟩
  refine sg_wr 2 rfl ?_
  refine sg_r_getf rfl a9 rfl ?_
  refine iw_putf rfl a9 (Nat.le_of_ble_eq_true rfl) rfl z9 (fun M10 a10 z10 g10 => ?_)
  have x10_a2 := (g10 144 (by omega)).trans x9_a2
  have x10_b2 := (g10 145 (by omega)).trans x9_b2
  have x10_c2 := (g10 146 (by omega)).trans x9_c2
  have x10_d2 := (g10 147 (by omega)).trans x9_d2
  have x10_a5 := (g10 148 (by omega)).trans x9_a5
  have x10_b5 := (g10 149 (by omega)).trans x9_b5
  have x10_c5 := (g10 150 (by omega)).trans x9_c5
  have x10_d5 := (g10 151 (by omega)).trans x9_d5
  have x10_a8 : tr_is M10 152 153 154 (tr_cl (fun _ => 0)) (fun _ => 0) := ⟨(g10 152 (by omega)).trans x9_a8.1, (g10 153 (by omega)).trans x9_a8.2.1, (g10 154 (by omega)).trans x9_a8.2.2.1, x9_a8.2.2.2⟩
  refine sg_wr 2 rfl ?_
  refine sg_r_getf rfl a10 rfl ?_
  refine iw_putf rfl a10 (Nat.le_of_ble_eq_true rfl) rfl z10 (fun M11 a11 z11 g11 => ?_)
  have x11_a2 := (g11 144 (by omega)).trans x10_a2
  have x11_b2 := (g11 145 (by omega)).trans x10_b2
  have x11_c2 := (g11 146 (by omega)).trans x10_c2
  have x11_d2 := (g11 147 (by omega)).trans x10_d2
  have x11_a5 := (g11 148 (by omega)).trans x10_a5
  have x11_b5 := (g11 149 (by omega)).trans x10_b5
  have x11_c5 := (g11 150 (by omega)).trans x10_c5
  have x11_d5 := (g11 151 (by omega)).trans x10_d5
  have x11_a8 : tr_is M11 152 153 154 (tr_cl (fun _ => 0)) (fun _ => 0) := ⟨(g11 152 (by omega)).trans x10_a8.1, (g11 153 (by omega)).trans x10_a8.2.1, (g11 154 (by omega)).trans x10_a8.2.2.1, x10_a8.2.2.2⟩
  refine sg_wr 2 rfl ?_
  refine sg_r_getf rfl a11 rfl ?_
  refine iw_putf rfl a11 (Nat.le_of_ble_eq_true rfl) rfl z11 (fun M12 a12 z12 g12 => ?_)
  have x12_a2 := (g12 144 (by omega)).trans x11_a2
  have x12_b2 := (g12 145 (by omega)).trans x11_b2
  have x12_c2 := (g12 146 (by omega)).trans x11_c2
  have x12_d2 := (g12 147 (by omega)).trans x11_d2
  have x12_a5 := (g12 148 (by omega)).trans x11_a5
  have x12_b5 := (g12 149 (by omega)).trans x11_b5
  have x12_c5 := (g12 150 (by omega)).trans x11_c5
  have x12_d5 := (g12 151 (by omega)).trans x11_d5
  have x12_a8 : tr_is M12 152 153 154 (tr_cl (fun _ => 0)) (fun _ => 0) := ⟨(g12 152 (by omega)).trans x11_a8.1, (g12 153 (by omega)).trans x11_a8.2.1, (g12 154 (by omega)).trans x11_a8.2.2.1, x11_a8.2.2.2⟩
  refine sg_wr 2 rfl ?_
  refine iw_newa (n := 328) rfl (by decide) z12 (fun M13 a13 z13 g13 => ?_)
  have x13_a12 := (g13 143 (by omega)).trans a12
  have x13_a2 := (g13 144 (by omega)).trans x12_a2
  have x13_b2 := (g13 145 (by omega)).trans x12_b2
  have x13_c2 := (g13 146 (by omega)).trans x12_c2
  have x13_d2 := (g13 147 (by omega)).trans x12_d2
  have x13_a5 := (g13 148 (by omega)).trans x12_a5
  have x13_b5 := (g13 149 (by omega)).trans x12_b5
  have x13_c5 := (g13 150 (by omega)).trans x12_c5
  have x13_d5 := (g13 151 (by omega)).trans x12_d5
  have x13_a8 : tr_is M13 152 153 154 (tr_cl (fun _ => 0)) (fun _ => 0) := ⟨(g13 152 (by omega)).trans x12_a8.1, (g13 153 (by omega)).trans x12_a8.2.1, (g13 154 (by omega)).trans x12_a8.2.2.1, x12_a8.2.2.2⟩
  refine iw_putf rfl x13_a12 (Nat.le_of_ble_eq_true rfl) rfl z13 (fun M14 a14 z14 g14 => ?_)
  have x14_a2 := (g14 144 (by omega)).trans x13_a2
  have x14_b2 := (g14 145 (by omega)).trans x13_b2
  have x14_c2 := (g14 146 (by omega)).trans x13_c2
  have x14_d2 := (g14 147 (by omega)).trans x13_d2
  have x14_a5 := (g14 148 (by omega)).trans x13_a5
  have x14_b5 := (g14 149 (by omega)).trans x13_b5
  have x14_c5 := (g14 150 (by omega)).trans x13_c5
  have x14_d5 := (g14 151 (by omega)).trans x13_d5
  have x14_a8 : tr_is M14 152 153 154 (tr_cl (fun _ => 0)) (fun _ => 0) := ⟨(g14 152 (by omega)).trans x13_a8.1, (g14 153 (by omega)).trans x13_a8.2.1, (g14 154 (by omega)).trans x13_a8.2.2.1, x13_a8.2.2.2⟩
  have x14_a13 := (g14 155 (by omega)).trans a13
  refine sg_wr 2 rfl ?_
  refine iw_newa (n := 984) rfl (by decide) z14 (fun M15 a15 z15 g15 => ?_)
  have x15_a14 := (g15 143 (by omega)).trans a14
  have x15_a2 := (g15 144 (by omega)).trans x14_a2
  have x15_b2 := (g15 145 (by omega)).trans x14_b2
  have x15_c2 := (g15 146 (by omega)).trans x14_c2
  have x15_d2 := (g15 147 (by omega)).trans x14_d2
  have x15_a5 := (g15 148 (by omega)).trans x14_a5
  have x15_b5 := (g15 149 (by omega)).trans x14_b5
  have x15_c5 := (g15 150 (by omega)).trans x14_c5
  have x15_d5 := (g15 151 (by omega)).trans x14_d5
  have x15_a8 : tr_is M15 152 153 154 (tr_cl (fun _ => 0)) (fun _ => 0) := ⟨(g15 152 (by omega)).trans x14_a8.1, (g15 153 (by omega)).trans x14_a8.2.1, (g15 154 (by omega)).trans x14_a8.2.2.1, x14_a8.2.2.2⟩
  have x15_a13 := (g15 155 (by omega)).trans x14_a13
  refine iw_putf rfl x15_a14 (Nat.le_of_ble_eq_true rfl) rfl z15 (fun M16 a16 z16 g16 => ?_)
  have x16_a2 := (g16 144 (by omega)).trans x15_a2
  have x16_b2 := (g16 145 (by omega)).trans x15_b2
  have x16_c2 := (g16 146 (by omega)).trans x15_c2
  have x16_d2 := (g16 147 (by omega)).trans x15_d2
  have x16_a5 := (g16 148 (by omega)).trans x15_a5
  have x16_b5 := (g16 149 (by omega)).trans x15_b5
  have x16_c5 := (g16 150 (by omega)).trans x15_c5
  have x16_d5 := (g16 151 (by omega)).trans x15_d5
  have x16_a8 : tr_is M16 152 153 154 (tr_cl (fun _ => 0)) (fun _ => 0) := ⟨(g16 152 (by omega)).trans x15_a8.1, (g16 153 (by omega)).trans x15_a8.2.1, (g16 154 (by omega)).trans x15_a8.2.2.1, x15_a8.2.2.2⟩
  have x16_a13 := (g16 155 (by omega)).trans x15_a13
  have x16_a15 := (g16 156 (by omega)).trans a15
  refine sg_wr 2 rfl ?_
  refine iw_newa (n := 984) rfl (by decide) z16 (fun M17 a17 z17 g17 => ?_)
  have x17_a16 := (g17 143 (by omega)).trans a16
  have x17_a2 := (g17 144 (by omega)).trans x16_a2
  have x17_b2 := (g17 145 (by omega)).trans x16_b2
  have x17_c2 := (g17 146 (by omega)).trans x16_c2
  have x17_d2 := (g17 147 (by omega)).trans x16_d2
  have x17_a5 := (g17 148 (by omega)).trans x16_a5
  have x17_b5 := (g17 149 (by omega)).trans x16_b5
  have x17_c5 := (g17 150 (by omega)).trans x16_c5
  have x17_d5 := (g17 151 (by omega)).trans x16_d5
  have x17_a8 : tr_is M17 152 153 154 (tr_cl (fun _ => 0)) (fun _ => 0) := ⟨(g17 152 (by omega)).trans x16_a8.1, (g17 153 (by omega)).trans x16_a8.2.1, (g17 154 (by omega)).trans x16_a8.2.2.1, x16_a8.2.2.2⟩
  have x17_a13 := (g17 155 (by omega)).trans x16_a13
  have x17_a15 := (g17 156 (by omega)).trans x16_a15
  refine iw_putf rfl x17_a16 (Nat.le_of_ble_eq_true rfl) rfl z17 (fun M18 a18 z18 g18 => ?_)
  have x18_a2 := (g18 144 (by omega)).trans x17_a2
  have x18_b2 := (g18 145 (by omega)).trans x17_b2
  have x18_c2 := (g18 146 (by omega)).trans x17_c2
  have x18_d2 := (g18 147 (by omega)).trans x17_d2
  have x18_a5 := (g18 148 (by omega)).trans x17_a5
  have x18_b5 := (g18 149 (by omega)).trans x17_b5
  have x18_c5 := (g18 150 (by omega)).trans x17_c5
  have x18_d5 := (g18 151 (by omega)).trans x17_d5
  have x18_a8 : tr_is M18 152 153 154 (tr_cl (fun _ => 0)) (fun _ => 0) := ⟨(g18 152 (by omega)).trans x17_a8.1, (g18 153 (by omega)).trans x17_a8.2.1, (g18 154 (by omega)).trans x17_a8.2.2.1, x17_a8.2.2.2⟩
  have x18_a13 := (g18 155 (by omega)).trans x17_a13
  have x18_a15 := (g18 156 (by omega)).trans x17_a15
  have x18_a17 := (g18 157 (by omega)).trans a17
  refine sg_wr 2 rfl ?_
  refine iw_newa (n := 328) rfl (by decide) z18 (fun M19 a19 z19 g19 => ?_)
  have x19_a18 := (g19 143 (by omega)).trans a18
  have x19_a2 := (g19 144 (by omega)).trans x18_a2
  have x19_b2 := (g19 145 (by omega)).trans x18_b2
  have x19_c2 := (g19 146 (by omega)).trans x18_c2
  have x19_d2 := (g19 147 (by omega)).trans x18_d2
  have x19_a5 := (g19 148 (by omega)).trans x18_a5
  have x19_b5 := (g19 149 (by omega)).trans x18_b5
  have x19_c5 := (g19 150 (by omega)).trans x18_c5
  have x19_d5 := (g19 151 (by omega)).trans x18_d5
  have x19_a8 : tr_is M19 152 153 154 (tr_cl (fun _ => 0)) (fun _ => 0) := ⟨(g19 152 (by omega)).trans x18_a8.1, (g19 153 (by omega)).trans x18_a8.2.1, (g19 154 (by omega)).trans x18_a8.2.2.1, x18_a8.2.2.2⟩
  have x19_a13 := (g19 155 (by omega)).trans x18_a13
  have x19_a15 := (g19 156 (by omega)).trans x18_a15
  have x19_a17 := (g19 157 (by omega)).trans x18_a17
  refine iw_putf rfl x19_a18 (Nat.le_of_ble_eq_true rfl) rfl z19 (fun M20 a20 z20 g20 => ?_)
  have x20_a2 := (g20 144 (by omega)).trans x19_a2
  have x20_b2 := (g20 145 (by omega)).trans x19_b2
  have x20_c2 := (g20 146 (by omega)).trans x19_c2
  have x20_d2 := (g20 147 (by omega)).trans x19_d2
  have x20_a5 := (g20 148 (by omega)).trans x19_a5
  have x20_b5 := (g20 149 (by omega)).trans x19_b5
  have x20_c5 := (g20 150 (by omega)).trans x19_c5
  have x20_d5 := (g20 151 (by omega)).trans x19_d5
  have x20_a8 : tr_is M20 152 153 154 (tr_cl (fun _ => 0)) (fun _ => 0) := ⟨(g20 152 (by omega)).trans x19_a8.1, (g20 153 (by omega)).trans x19_a8.2.1, (g20 154 (by omega)).trans x19_a8.2.2.1, x19_a8.2.2.2⟩
  have x20_a13 := (g20 155 (by omega)).trans x19_a13
  have x20_a15 := (g20 156 (by omega)).trans x19_a15
  have x20_a17 := (g20 157 (by omega)).trans x19_a17
  have x20_a19 := (g20 158 (by omega)).trans a19
  refine sg_wr 2 rfl ?_
  refine iw_putf rfl a20 (Nat.le_of_ble_eq_true rfl) rfl z20 (fun M21 a21 z21 g21 => ?_)
  have x21_a2 := (g21 144 (by omega)).trans x20_a2
  have x21_b2 := (g21 145 (by omega)).trans x20_b2
  have x21_c2 := (g21 146 (by omega)).trans x20_c2
  have x21_d2 := (g21 147 (by omega)).trans x20_d2
  have x21_a5 := (g21 148 (by omega)).trans x20_a5
  have x21_b5 := (g21 149 (by omega)).trans x20_b5
  have x21_c5 := (g21 150 (by omega)).trans x20_c5
  have x21_d5 := (g21 151 (by omega)).trans x20_d5
  have x21_a8 : tr_is M21 152 153 154 (tr_cl (fun _ => 0)) (fun _ => 0) := ⟨(g21 152 (by omega)).trans x20_a8.1, (g21 153 (by omega)).trans x20_a8.2.1, (g21 154 (by omega)).trans x20_a8.2.2.1, x20_a8.2.2.2⟩
  have x21_a13 := (g21 155 (by omega)).trans x20_a13
  have x21_a15 := (g21 156 (by omega)).trans x20_a15
  have x21_a17 := (g21 157 (by omega)).trans x20_a17
  have x21_a19 := (g21 158 (by omega)).trans x20_a19
  refine sg_wr 2 rfl ?_
  refine iw_newa (n := 3) rfl (by decide) z21 (fun M22 a22 z22 g22 => ?_)
  have x22_a21 := (g22 143 (by omega)).trans a21
  have x22_a2 := (g22 144 (by omega)).trans x21_a2
  have x22_b2 := (g22 145 (by omega)).trans x21_b2
  have x22_c2 := (g22 146 (by omega)).trans x21_c2
  have x22_d2 := (g22 147 (by omega)).trans x21_d2
  have x22_a5 := (g22 148 (by omega)).trans x21_a5
  have x22_b5 := (g22 149 (by omega)).trans x21_b5
  have x22_c5 := (g22 150 (by omega)).trans x21_c5
  have x22_d5 := (g22 151 (by omega)).trans x21_d5
  have x22_a8 : tr_is M22 152 153 154 (tr_cl (fun _ => 0)) (fun _ => 0) := ⟨(g22 152 (by omega)).trans x21_a8.1, (g22 153 (by omega)).trans x21_a8.2.1, (g22 154 (by omega)).trans x21_a8.2.2.1, x21_a8.2.2.2⟩
  have x22_a13 := (g22 155 (by omega)).trans x21_a13
  have x22_a15 := (g22 156 (by omega)).trans x21_a15
  have x22_a17 := (g22 157 (by omega)).trans x21_a17
  have x22_a19 := (g22 158 (by omega)).trans x21_a19
  refine iw_putf rfl x22_a21 (Nat.le_of_ble_eq_true rfl) rfl z22 (fun M23 a23 z23 g23 => ?_)
  have x23_a2 := (g23 144 (by omega)).trans x22_a2
  have x23_b2 := (g23 145 (by omega)).trans x22_b2
  have x23_c2 := (g23 146 (by omega)).trans x22_c2
  have x23_d2 := (g23 147 (by omega)).trans x22_d2
  have x23_a5 := (g23 148 (by omega)).trans x22_a5
  have x23_b5 := (g23 149 (by omega)).trans x22_b5
  have x23_c5 := (g23 150 (by omega)).trans x22_c5
  have x23_d5 := (g23 151 (by omega)).trans x22_d5
  have x23_a8 : tr_is M23 152 153 154 (tr_cl (fun _ => 0)) (fun _ => 0) := ⟨(g23 152 (by omega)).trans x22_a8.1, (g23 153 (by omega)).trans x22_a8.2.1, (g23 154 (by omega)).trans x22_a8.2.2.1, x22_a8.2.2.2⟩
  have x23_a13 := (g23 155 (by omega)).trans x22_a13
  have x23_a15 := (g23 156 (by omega)).trans x22_a15
  have x23_a17 := (g23 157 (by omega)).trans x22_a17
  have x23_a19 := (g23 158 (by omega)).trans x22_a19
  have x23_a22 := (g23 159 (by omega)).trans a22
  refine sg_wr 2 rfl ?_
  refine iw_newa (n := 328) rfl (by decide) z23 (fun M24 a24 z24 g24 => ?_)
  have x24_a23 := (g24 143 (by omega)).trans a23
  have x24_a2 := (g24 144 (by omega)).trans x23_a2
  have x24_b2 := (g24 145 (by omega)).trans x23_b2
  have x24_c2 := (g24 146 (by omega)).trans x23_c2
  have x24_d2 := (g24 147 (by omega)).trans x23_d2
  have x24_a5 := (g24 148 (by omega)).trans x23_a5
  have x24_b5 := (g24 149 (by omega)).trans x23_b5
  have x24_c5 := (g24 150 (by omega)).trans x23_c5
  have x24_d5 := (g24 151 (by omega)).trans x23_d5
  have x24_a8 : tr_is M24 152 153 154 (tr_cl (fun _ => 0)) (fun _ => 0) := ⟨(g24 152 (by omega)).trans x23_a8.1, (g24 153 (by omega)).trans x23_a8.2.1, (g24 154 (by omega)).trans x23_a8.2.2.1, x23_a8.2.2.2⟩
  have x24_a13 := (g24 155 (by omega)).trans x23_a13
  have x24_a15 := (g24 156 (by omega)).trans x23_a15
  have x24_a17 := (g24 157 (by omega)).trans x23_a17
  have x24_a19 := (g24 158 (by omega)).trans x23_a19
  have x24_a22 := (g24 159 (by omega)).trans x23_a22
  refine iw_putf rfl x24_a23 (Nat.le_of_ble_eq_true rfl) rfl z24 (fun M25 a25 z25 g25 => ?_)
  have x25_a2 := (g25 144 (by omega)).trans x24_a2
  have x25_b2 := (g25 145 (by omega)).trans x24_b2
  have x25_c2 := (g25 146 (by omega)).trans x24_c2
  have x25_d2 := (g25 147 (by omega)).trans x24_d2
  have x25_a5 := (g25 148 (by omega)).trans x24_a5
  have x25_b5 := (g25 149 (by omega)).trans x24_b5
  have x25_c5 := (g25 150 (by omega)).trans x24_c5
  have x25_d5 := (g25 151 (by omega)).trans x24_d5
  have x25_a8 : tr_is M25 152 153 154 (tr_cl (fun _ => 0)) (fun _ => 0) := ⟨(g25 152 (by omega)).trans x24_a8.1, (g25 153 (by omega)).trans x24_a8.2.1, (g25 154 (by omega)).trans x24_a8.2.2.1, x24_a8.2.2.2⟩
  have x25_a13 := (g25 155 (by omega)).trans x24_a13
  have x25_a15 := (g25 156 (by omega)).trans x24_a15
  have x25_a17 := (g25 157 (by omega)).trans x24_a17
  have x25_a19 := (g25 158 (by omega)).trans x24_a19
  have x25_a22 := (g25 159 (by omega)).trans x24_a22
  have x25_a24 := (g25 160 (by omega)).trans a24
  refine sg_wr 2 rfl ?_
  refine iw_putf rfl a25 (Nat.le_of_ble_eq_true rfl) rfl z25 (fun M26 a26 z26 g26 => ?_)
  have x26_a2 := (g26 144 (by omega)).trans x25_a2
  have x26_b2 := (g26 145 (by omega)).trans x25_b2
  have x26_c2 := (g26 146 (by omega)).trans x25_c2
  have x26_d2 := (g26 147 (by omega)).trans x25_d2
  have x26_a5 := (g26 148 (by omega)).trans x25_a5
  have x26_b5 := (g26 149 (by omega)).trans x25_b5
  have x26_c5 := (g26 150 (by omega)).trans x25_c5
  have x26_d5 := (g26 151 (by omega)).trans x25_d5
  have x26_a8 : tr_is M26 152 153 154 (tr_cl (fun _ => 0)) (fun _ => 0) := ⟨(g26 152 (by omega)).trans x25_a8.1, (g26 153 (by omega)).trans x25_a8.2.1, (g26 154 (by omega)).trans x25_a8.2.2.1, x25_a8.2.2.2⟩
  have x26_a13 := (g26 155 (by omega)).trans x25_a13
  have x26_a15 := (g26 156 (by omega)).trans x25_a15
  have x26_a17 := (g26 157 (by omega)).trans x25_a17
  have x26_a19 := (g26 158 (by omega)).trans x25_a19
  have x26_a22 := (g26 159 (by omega)).trans x25_a22
  have x26_a24 := (g26 160 (by omega)).trans x25_a24
  exact sg_we rfl rfl ⟨rfl, ⟨⟨a26, x26_a13, x26_a15, x26_a17, x26_a19, x26_a22, x26_a24, x26_a8, x26_a2, x26_b2, x26_c2, x26_d2, x26_a5, x26_b5, x26_c5, x26_d5⟩, z26, fun q hq => (g26 q (by omega)).trans ((g25 q (by omega)).trans ((g24 q (by omega)).trans ((g23 q (by omega)).trans ((g22 q (by omega)).trans ((g21 q (by omega)).trans ((g20 q (by omega)).trans ((g19 q (by omega)).trans ((g18 q (by omega)).trans ((g17 q (by omega)).trans ((g16 q (by omega)).trans ((g15 q (by omega)).trans ((g14 q (by omega)).trans ((g13 q (by omega)).trans ((g12 q (by omega)).trans ((g11 q (by omega)).trans ((g10 q (by omega)).trans ((g9 q (by omega)).trans ((g8 q (by omega) (by omega)).trans ((g7 q (by omega)).trans ((g6 q (by omega)).trans ((g5 q (by omega) (by omega)).trans ((g4 q (by omega)).trans ((g3 q (by omega)).trans ((g2 q (by omega) (by omega)).trans ((g1 q (by omega)))))))))))))))))))))))))))⟩, rfl, rfl⟩
theorem mg_is.same {G : mg_C} {M1 : sg_M} (e : ∀ q, 143 ≤ q → q ≤ 160 → M1.1 q = M.1 q) (h : mg_is M G) : mg_is M1 G := by
  obtain ⟨g143, g155, g156, g157, g158, g159, g160, gR, g144, g145, g146, g147, g148, g149, g150, g151⟩ := h
  have e' : ∀ {q : Nat} {x : Option sg_E}, M.1 q = x → 143 ≤ q → q ≤ 160 → M1.1 q = x := fun h a b => (e _ a b).trans h
  exact ⟨e' g143 (by decide) (by decide), e' g155 (by decide) (by decide), e' g156 (by decide) (by decide), e' g157 (by decide) (by decide), e' g158 (by decide) (by decide), e' g159 (by decide) (by decide), e' g160 (by decide) (by decide), ⟨e' gR.1 (by decide) (by decide), e' gR.2.1 (by decide) (by decide), e' gR.2.2.1 (by decide) (by decide), gR.2.2.2⟩, e' g144 (by decide) (by decide), e' g145 (by decide) (by decide), e' g146 (by decide) (by decide), e' g147 (by decide) (by decide), e' g148 (by decide) (by decide), e' g149 (by decide) (by decide), e' g150 (by decide) (by decide), e' g151 (by decide) (by decide)⟩
def rt_R0 : rt_R := rt_mk 0 0 0 (-1) (-1) 0 0
def rt_T0 : Nat → Int32 := upd (sg_fl 8 (-2) (fun _ => 0)) 0 (-1)
theorem rt_it0 (h : M.1 128 = some (.inr (5, [.null, .null, .null, .int 0, .null, .null, .long 0, .int 0, .int 0, .int 0, .long 0, .int 0]))) (hz : M.2 = 129) : wpm Ls xs 54 [.ref 128] M (fun r M1 c s => r = .inl none ∧ rt_is M1 rt_R0 0 0 (fun _ => hs_N) rt_T0 (tr_cl (fun _ => 0)) (fun _ => 0) mg_G0 ∧ c = 32 ∧ s = 9332) := by
  refine sg_wr 3 rfl ?_
  refine iw_new rfl hz (fun M1 a1 z1 g1 => ?_)
  have x1_h := (g1 128 (by omega)).trans h
  refine sg_wr 1 rfl ?_
  refine sg_r_callI rfl rfl rfl rfl (Nat.le_of_ble_eq_true rfl) (Nat.le_of_ble_eq_true rfl) (tr_it0 a1 (by omega) z1) ?_
  rintro _ M2 _ _ ⟨rfl, ⟨a2, z2, g2⟩, rfl, rfl⟩
  have x2_h := (g2 128 (by omega) (by omega)).trans x1_h
  refine sg_aft_c ?_
  refine iw_putf rfl x2_h (Nat.le_of_ble_eq_true rfl) rfl z2 (fun M3 a3 z3 g3 => ?_)
  have x3_a2 : tr_is M3 129 130 131 (tr_cl (fun _ => 0)) (fun _ => 0) := ⟨(g3 129 (by omega)).trans a2.1, (g3 130 (by omega)).trans a2.2.1, (g3 131 (by omega)).trans a2.2.2.1, a2.2.2.2⟩
  refine sg_wr 1 rfl ?_
  refine iw_new rfl z3 (fun M4 a4 z4 g4 => ?_)
  have x4_a3 := (g4 128 (by omega)).trans a3
  have x4_a2 : tr_is M4 129 130 131 (tr_cl (fun _ => 0)) (fun _ => 0) := ⟨(g4 129 (by omega)).trans x3_a2.1, (g4 130 (by omega)).trans x3_a2.2.1, (g4 131 (by omega)).trans x3_a2.2.2.1, x3_a2.2.2.2⟩
  refine sg_wr 1 rfl ?_
  refine sg_r_callI rfl rfl rfl rfl (Nat.le_of_ble_eq_true rfl) (Nat.le_of_ble_eq_true rfl) (hs_it0 a4 z4) ?_
  rintro _ M5 _ _ ⟨rfl, ⟨a5, b5, c5, d5, z5, g5⟩, rfl, rfl⟩
  have x5_a3 := (g5 128 (by omega)).trans x4_a3
  have x5_a2 : tr_is M5 129 130 131 (tr_cl (fun _ => 0)) (fun _ => 0) := ⟨(g5 129 (by omega)).trans x4_a2.1, (g5 130 (by omega)).trans x4_a2.2.1, (g5 131 (by omega)).trans x4_a2.2.2.1, x4_a2.2.2.2⟩
  refine sg_aft_c ?_
  refine iw_putf rfl x5_a3 (Nat.le_of_ble_eq_true rfl) rfl z5 (fun M6 a6 z6 g6 => ?_)
  have x6_a2 : tr_is M6 129 130 131 (tr_cl (fun _ => 0)) (fun _ => 0) := ⟨(g6 129 (by omega)).trans x5_a2.1, (g6 130 (by omega)).trans x5_a2.2.1, (g6 131 (by omega)).trans x5_a2.2.2.1, x5_a2.2.2.2⟩
  have x6_a5 := (g6 132 (by omega)).trans a5
  have x6_b5 := (g6 133 (by omega)).trans b5
  have x6_c5 := (g6 134 (by omega)).trans c5
  have x6_d5 : tr_is M6 135 136 137 (tr_cl (fun _ => 0)) (fun _ => 0) := ⟨(g6 135 (by omega)).trans d5.1, (g6 136 (by omega)).trans d5.2.1, (g6 137 (by omega)).trans d5.2.2.1, d5.2.2.2⟩
  refine sg_wr 2 rfl ?_
  refine iw_newa (n := 8) rfl (by decide) z6 (fun M7 a7 z7 g7 => ?_)
  have x7_a6 := (g7 128 (by omega)).trans a6
  have x7_a2 : tr_is M7 129 130 131 (tr_cl (fun _ => 0)) (fun _ => 0) := ⟨(g7 129 (by omega)).trans x6_a2.1, (g7 130 (by omega)).trans x6_a2.2.1, (g7 131 (by omega)).trans x6_a2.2.2.1, x6_a2.2.2.2⟩
  have x7_a5 := (g7 132 (by omega)).trans x6_a5
  have x7_b5 := (g7 133 (by omega)).trans x6_b5
  have x7_c5 := (g7 134 (by omega)).trans x6_c5
  have x7_d5 : tr_is M7 135 136 137 (tr_cl (fun _ => 0)) (fun _ => 0) := ⟨(g7 135 (by omega)).trans x6_d5.1, (g7 136 (by omega)).trans x6_d5.2.1, (g7 137 (by omega)).trans x6_d5.2.2.1, x6_d5.2.2.2⟩
  refine iw_putf rfl x7_a6 (Nat.le_of_ble_eq_true rfl) rfl z7 (fun M8 a8 z8 g8 => ?_)
  have x8_a2 : tr_is M8 129 130 131 (tr_cl (fun _ => 0)) (fun _ => 0) := ⟨(g8 129 (by omega)).trans x7_a2.1, (g8 130 (by omega)).trans x7_a2.2.1, (g8 131 (by omega)).trans x7_a2.2.2.1, x7_a2.2.2.2⟩
  have x8_a5 := (g8 132 (by omega)).trans x7_a5
  have x8_b5 := (g8 133 (by omega)).trans x7_b5
  have x8_c5 := (g8 134 (by omega)).trans x7_c5
  have x8_d5 : tr_is M8 135 136 137 (tr_cl (fun _ => 0)) (fun _ => 0) := ⟨(g8 135 (by omega)).trans x7_d5.1, (g8 136 (by omega)).trans x7_d5.2.1, (g8 137 (by omega)).trans x7_d5.2.2.1, x7_d5.2.2.2⟩
  have x8_a7 := (g8 138 (by omega)).trans a7
  refine sg_wr 2 rfl ?_
  refine iw_putf rfl a8 (Nat.le_of_ble_eq_true rfl) rfl z8 (fun M9 a9 z9 g9 => ?_)
  have x9_a2 : tr_is M9 129 130 131 (tr_cl (fun _ => 0)) (fun _ => 0) := ⟨(g9 129 (by omega)).trans x8_a2.1, (g9 130 (by omega)).trans x8_a2.2.1, (g9 131 (by omega)).trans x8_a2.2.2.1, x8_a2.2.2.2⟩
  have x9_a5 := (g9 132 (by omega)).trans x8_a5
  have x9_b5 := (g9 133 (by omega)).trans x8_b5
  have x9_c5 := (g9 134 (by omega)).trans x8_c5
  have x9_d5 : tr_is M9 135 136 137 (tr_cl (fun _ => 0)) (fun _ => 0) := ⟨(g9 135 (by omega)).trans x8_d5.1, (g9 136 (by omega)).trans x8_d5.2.1, (g9 137 (by omega)).trans x8_d5.2.2.1, x8_d5.2.2.2⟩
  have x9_a7 := (g9 138 (by omega)).trans x8_a7
  refine sg_wr 1 rfl ?_
  refine iw_new rfl z9 (fun M10 a10 z10 g10 => ?_)
  have x10_a9 := (g10 128 (by omega)).trans a9
  have x10_a2 : tr_is M10 129 130 131 (tr_cl (fun _ => 0)) (fun _ => 0) := ⟨(g10 129 (by omega)).trans x9_a2.1, (g10 130 (by omega)).trans x9_a2.2.1, (g10 131 (by omega)).trans x9_a2.2.2.1, x9_a2.2.2.2⟩
  have x10_a5 := (g10 132 (by omega)).trans x9_a5
  have x10_b5 := (g10 133 (by omega)).trans x9_b5
  have x10_c5 := (g10 134 (by omega)).trans x9_c5
  have x10_d5 : tr_is M10 135 136 137 (tr_cl (fun _ => 0)) (fun _ => 0) := ⟨(g10 135 (by omega)).trans x9_d5.1, (g10 136 (by omega)).trans x9_d5.2.1, (g10 137 (by omega)).trans x9_d5.2.2.1, x9_d5.2.2.2⟩
  have x10_a7 := (g10 138 (by omega)).trans x9_a7
  refine sg_wr 1 rfl ?_
  refine sg_r_callI rfl rfl rfl rfl (Nat.le_of_ble_eq_true rfl) (Nat.le_of_ble_eq_true rfl) (mt_it0 a10 (by omega) z10) ?_
  rintro _ M11 _ _ ⟨rfl, ⟨a11, b11, c11, d11, z11, g11⟩, rfl, rfl⟩
  have x11_a9 := (g11 128 (by omega) (by omega)).trans x10_a9
  have x11_a2 : tr_is M11 129 130 131 (tr_cl (fun _ => 0)) (fun _ => 0) := ⟨(g11 129 (by omega) (by omega)).trans x10_a2.1, (g11 130 (by omega) (by omega)).trans x10_a2.2.1, (g11 131 (by omega) (by omega)).trans x10_a2.2.2.1, x10_a2.2.2.2⟩
  have x11_a5 := (g11 132 (by omega) (by omega)).trans x10_a5
  have x11_b5 := (g11 133 (by omega) (by omega)).trans x10_b5
  have x11_c5 := (g11 134 (by omega) (by omega)).trans x10_c5
  have x11_d5 : tr_is M11 135 136 137 (tr_cl (fun _ => 0)) (fun _ => 0) := ⟨(g11 135 (by omega) (by omega)).trans x10_d5.1, (g11 136 (by omega) (by omega)).trans x10_d5.2.1, (g11 137 (by omega) (by omega)).trans x10_d5.2.2.1, x10_d5.2.2.2⟩
  have x11_a7 := (g11 138 (by omega) (by omega)).trans x10_a7
  refine sg_aft_c ?_
  refine iw_putf rfl x11_a9 (Nat.le_of_ble_eq_true rfl) rfl z11 (fun M12 a12 z12 g12 => ?_)
  have x12_a2 : tr_is M12 129 130 131 (tr_cl (fun _ => 0)) (fun _ => 0) := ⟨(g12 129 (by omega)).trans x11_a2.1, (g12 130 (by omega)).trans x11_a2.2.1, (g12 131 (by omega)).trans x11_a2.2.2.1, x11_a2.2.2.2⟩
  have x12_a5 := (g12 132 (by omega)).trans x11_a5
  have x12_b5 := (g12 133 (by omega)).trans x11_b5
  have x12_c5 := (g12 134 (by omega)).trans x11_c5
  have x12_d5 : tr_is M12 135 136 137 (tr_cl (fun _ => 0)) (fun _ => 0) := ⟨(g12 135 (by omega)).trans x11_d5.1, (g12 136 (by omega)).trans x11_d5.2.1, (g12 137 (by omega)).trans x11_d5.2.2.1, x11_d5.2.2.2⟩
  have x12_a7 := (g12 138 (by omega)).trans x11_a7
  have x12_a11 := (g12 139 (by omega)).trans a11
  have x12_b11 := (g12 140 (by omega)).trans b11
  have x12_c11 := (g12 141 (by omega)).trans c11
  have x12_d11 := (g12 142 (by omega)).trans d11
  refine sg_wr 1 rfl ?_
  refine iw_new rfl z12 (fun M13 a13 z13 g13 => ?_)
  have x13_a12 := (g13 128 (by omega)).trans a12
  have x13_a2 : tr_is M13 129 130 131 (tr_cl (fun _ => 0)) (fun _ => 0) := ⟨(g13 129 (by omega)).trans x12_a2.1, (g13 130 (by omega)).trans x12_a2.2.1, (g13 131 (by omega)).trans x12_a2.2.2.1, x12_a2.2.2.2⟩
  have x13_a5 := (g13 132 (by omega)).trans x12_a5
  have x13_b5 := (g13 133 (by omega)).trans x12_b5
  have x13_c5 := (g13 134 (by omega)).trans x12_c5
  have x13_d5 : tr_is M13 135 136 137 (tr_cl (fun _ => 0)) (fun _ => 0) := ⟨(g13 135 (by omega)).trans x12_d5.1, (g13 136 (by omega)).trans x12_d5.2.1, (g13 137 (by omega)).trans x12_d5.2.2.1, x12_d5.2.2.2⟩
  have x13_a7 := (g13 138 (by omega)).trans x12_a7
  have x13_a11 := (g13 139 (by omega)).trans x12_a11
  have x13_b11 := (g13 140 (by omega)).trans x12_b11
  have x13_c11 := (g13 141 (by omega)).trans x12_c11
  have x13_d11 := (g13 142 (by omega)).trans x12_d11
  refine sg_wr 1 rfl ?_
  refine sg_r_callI rfl rfl rfl rfl (Nat.le_of_ble_eq_true rfl) (Nat.le_of_ble_eq_true rfl) (mg_it0 a13 z13) ?_
  rintro _ M14 _ _ ⟨rfl, ⟨a14, z14, g14⟩, rfl, rfl⟩
  have x14_a12 := (g14 128 (by omega)).trans x13_a12
  have x14_a2 : tr_is M14 129 130 131 (tr_cl (fun _ => 0)) (fun _ => 0) := ⟨(g14 129 (by omega)).trans x13_a2.1, (g14 130 (by omega)).trans x13_a2.2.1, (g14 131 (by omega)).trans x13_a2.2.2.1, x13_a2.2.2.2⟩
  have x14_a5 := (g14 132 (by omega)).trans x13_a5
  have x14_b5 := (g14 133 (by omega)).trans x13_b5
  have x14_c5 := (g14 134 (by omega)).trans x13_c5
  have x14_d5 : tr_is M14 135 136 137 (tr_cl (fun _ => 0)) (fun _ => 0) := ⟨(g14 135 (by omega)).trans x13_d5.1, (g14 136 (by omega)).trans x13_d5.2.1, (g14 137 (by omega)).trans x13_d5.2.2.1, x13_d5.2.2.2⟩
  have x14_a7 := (g14 138 (by omega)).trans x13_a7
  have x14_a11 := (g14 139 (by omega)).trans x13_a11
  have x14_b11 := (g14 140 (by omega)).trans x13_b11
  have x14_c11 := (g14 141 (by omega)).trans x13_c11
  have x14_d11 := (g14 142 (by omega)).trans x13_d11
  refine sg_aft_c ?_
  refine iw_putf rfl x14_a12 (Nat.le_of_ble_eq_true rfl) rfl z14 (fun M15 a15 z15 g15 => ?_)
  have x15_a2 : tr_is M15 129 130 131 (tr_cl (fun _ => 0)) (fun _ => 0) := ⟨(g15 129 (by omega)).trans x14_a2.1, (g15 130 (by omega)).trans x14_a2.2.1, (g15 131 (by omega)).trans x14_a2.2.2.1, x14_a2.2.2.2⟩
  have x15_a5 := (g15 132 (by omega)).trans x14_a5
  have x15_b5 := (g15 133 (by omega)).trans x14_b5
  have x15_c5 := (g15 134 (by omega)).trans x14_c5
  have x15_d5 : tr_is M15 135 136 137 (tr_cl (fun _ => 0)) (fun _ => 0) := ⟨(g15 135 (by omega)).trans x14_d5.1, (g15 136 (by omega)).trans x14_d5.2.1, (g15 137 (by omega)).trans x14_d5.2.2.1, x14_d5.2.2.2⟩
  have x15_a7 := (g15 138 (by omega)).trans x14_a7
  have x15_a11 := (g15 139 (by omega)).trans x14_a11
  have x15_b11 := (g15 140 (by omega)).trans x14_b11
  have x15_c11 := (g15 141 (by omega)).trans x14_c11
  have x15_d11 := (g15 142 (by omega)).trans x14_d11
  have x15_G : mg_is M15 mg_G0 := mg_is.same (fun q h1 h2 => g15 q (by omega)) a14
  refine sg_wr 2 rfl ?_
  refine iw_putf rfl a15 (Nat.le_of_ble_eq_true rfl) rfl z15 (fun M16 a16 z16 g16 => ?_)
  have x16_a2 : tr_is M16 129 130 131 (tr_cl (fun _ => 0)) (fun _ => 0) := ⟨(g16 129 (by omega)).trans x15_a2.1, (g16 130 (by omega)).trans x15_a2.2.1, (g16 131 (by omega)).trans x15_a2.2.2.1, x15_a2.2.2.2⟩
  have x16_a5 := (g16 132 (by omega)).trans x15_a5
  have x16_b5 := (g16 133 (by omega)).trans x15_b5
  have x16_c5 := (g16 134 (by omega)).trans x15_c5
  have x16_d5 : tr_is M16 135 136 137 (tr_cl (fun _ => 0)) (fun _ => 0) := ⟨(g16 135 (by omega)).trans x15_d5.1, (g16 136 (by omega)).trans x15_d5.2.1, (g16 137 (by omega)).trans x15_d5.2.2.1, x15_d5.2.2.2⟩
  have x16_a7 := (g16 138 (by omega)).trans x15_a7
  have x16_a11 := (g16 139 (by omega)).trans x15_a11
  have x16_b11 := (g16 140 (by omega)).trans x15_b11
  have x16_c11 := (g16 141 (by omega)).trans x15_c11
  have x16_d11 := (g16 142 (by omega)).trans x15_d11
  have x16_G : mg_is M16 mg_G0 := mg_is.same (fun q h1 h2 => g16 q (by omega)) x15_G
  refine sg_wr 2 rfl ?_
  refine iw_putf rfl a16 (Nat.le_of_ble_eq_true rfl) rfl z16 (fun M17 a17 z17 g17 => ?_)
  have x17_a2 : tr_is M17 129 130 131 (tr_cl (fun _ => 0)) (fun _ => 0) := ⟨(g17 129 (by omega)).trans x16_a2.1, (g17 130 (by omega)).trans x16_a2.2.1, (g17 131 (by omega)).trans x16_a2.2.2.1, x16_a2.2.2.2⟩
  have x17_a5 := (g17 132 (by omega)).trans x16_a5
  have x17_b5 := (g17 133 (by omega)).trans x16_b5
  have x17_c5 := (g17 134 (by omega)).trans x16_c5
  have x17_d5 : tr_is M17 135 136 137 (tr_cl (fun _ => 0)) (fun _ => 0) := ⟨(g17 135 (by omega)).trans x16_d5.1, (g17 136 (by omega)).trans x16_d5.2.1, (g17 137 (by omega)).trans x16_d5.2.2.1, x16_d5.2.2.2⟩
  have x17_a7 := (g17 138 (by omega)).trans x16_a7
  have x17_a11 := (g17 139 (by omega)).trans x16_a11
  have x17_b11 := (g17 140 (by omega)).trans x16_b11
  have x17_c11 := (g17 141 (by omega)).trans x16_c11
  have x17_d11 := (g17 142 (by omega)).trans x16_d11
  have x17_G : mg_is M17 mg_G0 := mg_is.same (fun q h1 h2 => g17 q (by omega)) x16_G
  refine sg_wr 2 rfl ?_
  refine iw_putf rfl a17 (Nat.le_of_ble_eq_true rfl) rfl z17 (fun M18 a18 z18 g18 => ?_)
  have x18_a2 : tr_is M18 129 130 131 (tr_cl (fun _ => 0)) (fun _ => 0) := ⟨(g18 129 (by omega)).trans x17_a2.1, (g18 130 (by omega)).trans x17_a2.2.1, (g18 131 (by omega)).trans x17_a2.2.2.1, x17_a2.2.2.2⟩
  have x18_a5 := (g18 132 (by omega)).trans x17_a5
  have x18_b5 := (g18 133 (by omega)).trans x17_b5
  have x18_c5 := (g18 134 (by omega)).trans x17_c5
  have x18_d5 : tr_is M18 135 136 137 (tr_cl (fun _ => 0)) (fun _ => 0) := ⟨(g18 135 (by omega)).trans x17_d5.1, (g18 136 (by omega)).trans x17_d5.2.1, (g18 137 (by omega)).trans x17_d5.2.2.1, x17_d5.2.2.2⟩
  have x18_a7 := (g18 138 (by omega)).trans x17_a7
  have x18_a11 := (g18 139 (by omega)).trans x17_a11
  have x18_b11 := (g18 140 (by omega)).trans x17_b11
  have x18_c11 := (g18 141 (by omega)).trans x17_c11
  have x18_d11 := (g18 142 (by omega)).trans x17_d11
  have x18_G : mg_is M18 mg_G0 := mg_is.same (fun q h1 h2 => g18 q (by omega)) x17_G
  refine sg_wr 2 rfl ?_
  refine iw_putf rfl a18 (Nat.le_of_ble_eq_true rfl) rfl z18 (fun M19 a19 z19 g19 => ?_)
  have x19_a2 : tr_is M19 129 130 131 (tr_cl (fun _ => 0)) (fun _ => 0) := ⟨(g19 129 (by omega)).trans x18_a2.1, (g19 130 (by omega)).trans x18_a2.2.1, (g19 131 (by omega)).trans x18_a2.2.2.1, x18_a2.2.2.2⟩
  have x19_a5 := (g19 132 (by omega)).trans x18_a5
  have x19_b5 := (g19 133 (by omega)).trans x18_b5
  have x19_c5 := (g19 134 (by omega)).trans x18_c5
  have x19_d5 : tr_is M19 135 136 137 (tr_cl (fun _ => 0)) (fun _ => 0) := ⟨(g19 135 (by omega)).trans x18_d5.1, (g19 136 (by omega)).trans x18_d5.2.1, (g19 137 (by omega)).trans x18_d5.2.2.1, x18_d5.2.2.2⟩
  have x19_a7 := (g19 138 (by omega)).trans x18_a7
  have x19_a11 := (g19 139 (by omega)).trans x18_a11
  have x19_b11 := (g19 140 (by omega)).trans x18_b11
  have x19_c11 := (g19 141 (by omega)).trans x18_c11
  have x19_d11 := (g19 142 (by omega)).trans x18_d11
  have x19_G : mg_is M19 mg_G0 := mg_is.same (fun q h1 h2 => g19 q (by omega)) x18_G
  refine sg_wr 2 rfl ?_
  refine iw_putf rfl a19 (Nat.le_of_ble_eq_true rfl) rfl z19 (fun M20 a20 z20 g20 => ?_)
  have x20_a2 : tr_is M20 129 130 131 (tr_cl (fun _ => 0)) (fun _ => 0) := ⟨(g20 129 (by omega)).trans x19_a2.1, (g20 130 (by omega)).trans x19_a2.2.1, (g20 131 (by omega)).trans x19_a2.2.2.1, x19_a2.2.2.2⟩
  have x20_a5 := (g20 132 (by omega)).trans x19_a5
  have x20_b5 := (g20 133 (by omega)).trans x19_b5
  have x20_c5 := (g20 134 (by omega)).trans x19_c5
  have x20_d5 : tr_is M20 135 136 137 (tr_cl (fun _ => 0)) (fun _ => 0) := ⟨(g20 135 (by omega)).trans x19_d5.1, (g20 136 (by omega)).trans x19_d5.2.1, (g20 137 (by omega)).trans x19_d5.2.2.1, x19_d5.2.2.2⟩
  have x20_a7 := (g20 138 (by omega)).trans x19_a7
  have x20_a11 := (g20 139 (by omega)).trans x19_a11
  have x20_b11 := (g20 140 (by omega)).trans x19_b11
  have x20_c11 := (g20 141 (by omega)).trans x19_c11
  have x20_d11 := (g20 142 (by omega)).trans x19_d11
  have x20_G : mg_is M20 mg_G0 := mg_is.same (fun q h1 h2 => g20 q (by omega)) x19_G
  refine sg_wr 2 rfl ?_
  refine iw_putf rfl a20 (Nat.le_of_ble_eq_true rfl) rfl z20 (fun M21 a21 z21 g21 => ?_)
  have x21_a2 : tr_is M21 129 130 131 (tr_cl (fun _ => 0)) (fun _ => 0) := ⟨(g21 129 (by omega)).trans x20_a2.1, (g21 130 (by omega)).trans x20_a2.2.1, (g21 131 (by omega)).trans x20_a2.2.2.1, x20_a2.2.2.2⟩
  have x21_a5 := (g21 132 (by omega)).trans x20_a5
  have x21_b5 := (g21 133 (by omega)).trans x20_b5
  have x21_c5 := (g21 134 (by omega)).trans x20_c5
  have x21_d5 : tr_is M21 135 136 137 (tr_cl (fun _ => 0)) (fun _ => 0) := ⟨(g21 135 (by omega)).trans x20_d5.1, (g21 136 (by omega)).trans x20_d5.2.1, (g21 137 (by omega)).trans x20_d5.2.2.1, x20_d5.2.2.2⟩
  have x21_a7 := (g21 138 (by omega)).trans x20_a7
  have x21_a11 := (g21 139 (by omega)).trans x20_a11
  have x21_b11 := (g21 140 (by omega)).trans x20_b11
  have x21_c11 := (g21 141 (by omega)).trans x20_c11
  have x21_d11 := (g21 142 (by omega)).trans x20_d11
  have x21_G : mg_is M21 mg_G0 := mg_is.same (fun q h1 h2 => g21 q (by omega)) x20_G
  refine sg_wr 1 rfl ?_
  refine sg_r_getf rfl a21 rfl ?_
  refine sg_wr 1 rfl ?_
  refine sg_p_callS rfl rfl rfl rfl (Nat.le_of_ble_eq_true rfl) (Nat.le_of_ble_eq_true rfl) (jd_fill (by omega) (by decide) x21_a7) ?_
  obtain ⟨M22, a22, z22, g22⟩ : ∃ M22 : sg_M, M22 = (sg_up M21.1 138 (.inl (0, 8, .inl (sg_fl 8 ((-2)) (fun _ => 0)))), M21.2) ∧ M22.2 = 161 ∧ ∀ q, q ≠ 138 → M22.1 q = M21.1 q := ⟨_, rfl, z21, fun q hq => sg_upne hq⟩
  have b22 : M22.1 138 = some (.inl (0, 8, .inl (sg_fl 8 ((-2)) (fun _ => 0)))) := sg_upM a22
  rw [← a22]
  have x22_a21 := (g22 128 (by omega)).trans a21
  have x22_a2 : tr_is M22 129 130 131 (tr_cl (fun _ => 0)) (fun _ => 0) := ⟨(g22 129 (by omega)).trans x21_a2.1, (g22 130 (by omega)).trans x21_a2.2.1, (g22 131 (by omega)).trans x21_a2.2.2.1, x21_a2.2.2.2⟩
  have x22_a5 := (g22 132 (by omega)).trans x21_a5
  have x22_b5 := (g22 133 (by omega)).trans x21_b5
  have x22_c5 := (g22 134 (by omega)).trans x21_c5
  have x22_d5 : tr_is M22 135 136 137 (tr_cl (fun _ => 0)) (fun _ => 0) := ⟨(g22 135 (by omega)).trans x21_d5.1, (g22 136 (by omega)).trans x21_d5.2.1, (g22 137 (by omega)).trans x21_d5.2.2.1, x21_d5.2.2.2⟩
  have x22_a11 := (g22 139 (by omega)).trans x21_a11
  have x22_b11 := (g22 140 (by omega)).trans x21_b11
  have x22_c11 := (g22 141 (by omega)).trans x21_c11
  have x22_d11 := (g22 142 (by omega)).trans x21_d11
  have x22_G : mg_is M22 mg_G0 := mg_is.same (fun q h1 h2 => g22 q (by omega)) x21_G
  refine sg_wr 1 rfl ?_
  refine sg_r_getf rfl x22_a21 rfl ?_
  refine sg_wr 2 rfl ?_
  refine sg_r_iast rfl b22 rfl ?_
  obtain ⟨M23, a23, z23, g23⟩ : ∃ M23 : sg_M, M23 = (sg_up M22.1 138 (.inl (0, 8, .inl (upd (sg_fl 8 (-2) (fun _ => 0)) 0 (-1)))), M22.2) ∧ M23.2 = 161 ∧ ∀ q, q ≠ 138 → M23.1 q = M22.1 q := ⟨_, rfl, z22, fun q hq => sg_upne hq⟩
  have b23 : M23.1 138 = some (.inl (0, 8, .inl (upd (sg_fl 8 (-2) (fun _ => 0)) 0 (-1)))) := sg_upM a23
  refine (fun (hgo : wpa Ls xs 54 107 _ _ M23 _) => by rw [a23] at hgo; exact hgo) ?_
  have x23_a21 := (g23 128 (by omega)).trans x22_a21
  have x23_a2 : tr_is M23 129 130 131 (tr_cl (fun _ => 0)) (fun _ => 0) := ⟨(g23 129 (by omega)).trans x22_a2.1, (g23 130 (by omega)).trans x22_a2.2.1, (g23 131 (by omega)).trans x22_a2.2.2.1, x22_a2.2.2.2⟩
  have x23_a5 := (g23 132 (by omega)).trans x22_a5
  have x23_b5 := (g23 133 (by omega)).trans x22_b5
  have x23_c5 := (g23 134 (by omega)).trans x22_c5
  have x23_d5 : tr_is M23 135 136 137 (tr_cl (fun _ => 0)) (fun _ => 0) := ⟨(g23 135 (by omega)).trans x22_d5.1, (g23 136 (by omega)).trans x22_d5.2.1, (g23 137 (by omega)).trans x22_d5.2.2.1, x22_d5.2.2.2⟩
  have x23_a11 := (g23 139 (by omega)).trans x22_a11
  have x23_b11 := (g23 140 (by omega)).trans x22_b11
  have x23_c11 := (g23 141 (by omega)).trans x22_c11
  have x23_d11 := (g23 142 (by omega)).trans x22_d11
  have x23_G : mg_is M23 mg_G0 := mg_is.same (fun q h1 h2 => g23 q (by omega)) x22_G
  exact sg_we rfl rfl ⟨rfl, ⟨x23_a21, ⟨x23_a5, ⟨_, x23_b5, fun j hj => (if_neg (Nat.not_lt_zero j)).symm⟩, ⟨x23_c5, x23_d5⟩, by decide, by rw [z23]; decide, fun i hi => absurd hi (Nat.not_lt_zero i)⟩, x23_a2, b23, x23_G, _, _, _, _, x23_a11, x23_b11, x23_c11, x23_d11⟩, rfl, rfl⟩
end
end SGIN
