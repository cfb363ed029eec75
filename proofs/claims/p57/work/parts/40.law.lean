section SGLW
section
variable {tab : Nat → Nat → Option sg_F} {hd : Nat → Nat → Nat → Option (Option Nat)} {k pc : Nat} {L : sg_L} {r : List Value} {M : sg_M} {Q : Option Value ⊕ Nat → sg_M → Nat → Nat → Prop}
theorem sg_r_idiv {x y : Int32} (hf : tab k pc = some (sg_idiv pc)) (hy : ¬ y = 0) (h : sg_wp tab hd k (pc + 1) L (.int (x / y) :: r) M Q) : sg_wp tab hd k pc L (.int y :: .int x :: r) M Q :=
  sg_w0 hf (by unfold sg_idiv; simp only; rw [if_neg hy]; rfl) h
end
section
variable {Ls : Nat} {xs : Nat → Int32} {M : sg_M} {R : rt_R} {n : Nat} {g : Int64} {K : Nat → hs_K} {tp ds dc : Nat → Int32} {G : mg_C}
/-- the law answers 1; t turns are left, and n commits are made -/
abbrev lq (t n : Nat) : Option Value ⊕ Nat → sg_M → Nat → Nat → Prop := fun r M1 c s => r = .inl (some (.int 1)) ∧ c + 4 * n ≤ 240 + t ∧ s + 336 * n ≤ 20160 + 6 * t
/-- sixty commits: how the class's answers hang together -/
theorem lw_cf (h : rt_ok M R n g K tp ds dc G) : (R.wk = 0 ∧ rt_cf R G = 0) ∨ (¬ R.wk = 0 ∧ nI 0 < nI R.wk ∧ nI 0 < rt_cf R G) := by
  obtain ⟨h1, hb, hk, ⟨hh, ht⟩, hd, hg, hw, hwm, hin⟩ := id h
  by_cases z : R.wk = 0
  · refine Or.inl ⟨z, ?_⟩
    unfold rt_cf
    rw [z]
    rfl
  · have hwn : ¬ nI R.wk = 0 := fun y => z ((rt_wk_n h (k := 0) (by decide)).mp y)
    refine Or.inr ⟨z, nI_lt (Nat.pos_of_ne_zero z) (by omega), ?_⟩
    unfold rt_cf
    rw [if_pos hwn]
    exact nI_lt (hin z).2.1 (by have := hg.2.1; omega)
theorem lw_us (h : rt_ok M R n g K tp ds dc G) : rt_us R G ≤ rt_cf R G := by
  obtain ⟨h1, hb, hk, ⟨hh, ht⟩, hd, hg, hw, hwm, hin⟩ := id h
  unfold rt_us rt_cf
  by_cases z : ¬ nI R.wk = 0
  · rw [if_pos z, if_pos z]
    have := mg_op_le (G := G) G.cc 0 0
    exact nI_le (by omega) (by have := hg.2.1; omega)
  · rw [if_neg z, if_neg z]
    exact Int32.le_rfl
theorem lw_lf (h : rt_ok M R n g K tp ds dc G) : ¬ rt_lf R ≤ 0 → nI R.wk = 4 := by
  intro z
  refine Classical.byContradiction fun y => z ?_
  unfold rt_lf
  rw [if_pos y]
  exact Int32.le_rfl
/-- the look at all of it leaves the state as it was -/
theorem lw_sd (h : rt_ok M R n g K tp ds dc G) : wpm Ls xs 140 [.ref 128] M (fun r M1 c s => r = .inl (some (.int 1)) ∧ (∃ G1 : mg_C, rt_ok M1 R n g K tp ds dc G1 ∧ (R.wk = 0 ∨ G1 = G)) ∧ c = 0 ∧ s = 0) := by
  obtain ⟨h1, hb, hk, ⟨hh, ht⟩, hd, hg, hw, hwm, hin⟩ := id h
  refine (sd_all h1 hb hk hh ht hw hg).mono ?_
  rintro r M1 c s ⟨rfl, ⟨G1, q1, q2, q3⟩, rfl, rfl⟩
  refine ⟨rfl, ⟨G1, ⟨q1, hb, hk, ⟨hh, ht⟩, hd, q2, hw, hwm, fun z => ?_⟩, ?_⟩, rfl, rfl⟩
  · rcases q3 with y | ⟨rfl, o⟩
    · exact absurd y z
    · obtain ⟨i1, i2⟩ := hin z
      exact ⟨i1.m h1 o, i2⟩
  · rcases q3 with y | ⟨y, -⟩
    · exact Or.inl y
    · exact Or.inr y
theorem lw_loop (hL : Ls < 2 ^ 31) : ∀ (d t : Nat) (M : sg_M) (n : Nat) (T : sg_L), d = 100 - t → t ≤ 100 → iv M n → (T = [] ∨ ∃ x : Int64, T = [(3, .long x)]) → wpa Ls xs 144 10 ([(0, .ref 0), (1, .ref 128), (2, .int (nI t))] ++ T) [] M (lq d n) := by
  intro d
  induction d with
  | zero =>
    intro t M n T hd ht hi hT
    have e : t = 100 := by omega
    subst e
    have := hi.n60
    refine sg_wr 4 rfl ?_
    exact sg_we rfl rfl ⟨rfl, by omega, by omega⟩
  | succ d ih =>
    intro t M n T hd ht hi hT
    have hlt : t < 100 := by omega
    have k140 : ∀ (M1 : sg_M) (n1 : Nat) (T : sg_L), iv M1 n1 → (T = [] ∨ ∃ x : Int64, T = [(3, .long x)]) → wpa Ls xs 144 140 ([(0, .ref 0), (1, .ref 128), (2, .int (nI t))] ++ T) [] M1 (lq d n1) := by
      intro M1 n1 T hi1 hT
      have h9 := ih (t + 1) M1 n1 T (by omega) hlt hi1 hT
      rw [nI_succ] at h9
      rcases hT with rfl | ⟨x, rfl⟩
      · refine sg_wr 2 rfl ?_
        exact h9
      · refine sg_wr 2 rfl ?_
        exact h9
    have k122 : ∀ (M1 : sg_M) (n1 : Nat) (R : rt_R) (g : Int64) (K : Nat → hs_K) (tp ds dc : Nat → Int32) (G : mg_C) (b : Int32), rt_ok M1 R n1 g K tp ds dc G → ((b = 1 ∧ rt_cl R n1 K tp ds dc) ∨ (b = 0 ∧ ¬ rt_cl R n1 K tp ds dc)) → wpa Ls xs 144 122 ([(0, .ref 0), (1, .ref 128), (2, .int (nI t))] ++ [(3, .long (dg_v R n1 g K tp ds dc G b))]) [] M1 (lq d n1) := by
      intro M1 n1 R g K tp ds dc G b h hbb
      refine sg_wr 1 rfl ?_
      refine sg_r_callS rfl rfl rfl rfl (Nat.le_of_ble_eq_true rfl) (Nat.le_of_ble_eq_true rfl) (lw_sd h) ?_
      rintro _ M2 _ _ ⟨rfl, ⟨G1, q1, q2⟩, rfl, rfl⟩
      refine sg_a0 ?_
      have q128 := q1.1.1
      refine sg_wr 2 rfl ?_
      refine sg_p_callV rfl rfl rfl q128 rfl (Nat.le_of_ble_eq_true rfl) (Nat.le_of_ble_eq_true rfl) (rt_digest q1.1 q1.2.2.2.2.2.1.2.1 hbb) ?_
      have e : dg_v R n1 g K tp ds dc G1 b = dg_v R n1 g K tp ds dc G b := by
        rcases q2 with z | rfl
        · exact dg_same z
        · rfl
      rw [e]
      refine sg_wr 2 rfl ?_
      refine sg_wb rfl rfl (fun _ => ?_) (fun z => absurd ((lg_cmp0 _ _).mpr rfl) z)
      exact k140 M2 n1 _ ⟨R, g, K, tp, ds, dc, G1, q1⟩ (Or.inr ⟨_, rfl⟩)
    have k105 : ∀ (M1 : sg_M) (n1 : Nat) (T : sg_L), iv M1 n1 → (T = [] ∨ ∃ x : Int64, T = [(3, .long x)]) → wpa Ls xs 144 105 ([(0, .ref 0), (1, .ref 128), (2, .int (nI t))] ++ T) [] M1 (lq d n1) := by
      intro M1 n1 T hi1 hT
      refine sg_wr 2 rfl ?_
      refine sg_r_irem rfl (by decide) ?_
      refine sg_wr 1 rfl ?_
      refine sg_wb rfl rfl (fun _ => ?_) (fun _ => ?_)
      rotate_left
      · refine sg_wr 1 rfl ?_
        exact k140 M1 n1 T hi1 hT
      obtain ⟨R, g, K, tp, ds, dc, G, h⟩ := id hi1
      have q128 := h.1.1
      obtain ⟨b, hbb⟩ : ∃ b : Int32, (b = 1 ∧ rt_cl R n1 K tp ds dc) ∨ (b = 0 ∧ ¬ rt_cl R n1 K tp ds dc) := by
        by_cases z : rt_cl R n1 K tp ds dc
        · exact ⟨1, Or.inl ⟨rfl, z⟩⟩
        · exact ⟨0, Or.inr ⟨rfl, z⟩⟩
      have h9 := k122 M1 n1 R g K tp ds dc G b h hbb
      refine sg_wr 1 rfl ?_
      refine sg_p_callV rfl rfl rfl q128 rfl (Nat.le_of_ble_eq_true rfl) (Nat.le_of_ble_eq_true rfl) (rt_digest h.1 h.2.2.2.2.2.1.2.1 hbb) ?_
      rcases hT with rfl | ⟨x, rfl⟩
      · refine sg_wr 1 rfl ?_
        exact h9
      · refine sg_wr 1 rfl ?_
        exact h9
    have k36 : ∀ (M1 : sg_M) (n1 : Nat) (T : sg_L), iv M1 n1 → (T = [] ∨ ∃ x : Int64, T = [(3, .long x)]) → wpa Ls xs 144 36 ([(0, .ref 0), (1, .ref 128), (2, .int (nI t))] ++ T) [] M1 (lq d n1) := by
      intro M1 n1 T hi1 hT
      obtain ⟨R, g, K, tp, ds, dc, G, h⟩ := id hi1
      obtain ⟨h1, hb, hk, ⟨hh, ht⟩, hd, hg, hw, hwm, hin⟩ := id h
      have q128 := h1.1
      have k88 : wpa Ls xs 144 88 ([(0, .ref 0), (1, .ref 128), (2, .int (nI t))] ++ T) [] M1 (lq d n1) := by
        refine sg_wr 1 rfl ?_
        refine sg_p_callV rfl rfl rfl q128 rfl (Nat.le_of_ble_eq_true rfl) (Nat.le_of_ble_eq_true rfl) (rt_left h1) ?_
        refine sg_wb rfl rfl (fun _ => k105 M1 n1 T hi1 hT) (fun h92 => ?_)
        refine sg_wr 1 rfl ?_
        refine sg_p_callV rfl rfl rfl q128 rfl (Nat.le_of_ble_eq_true rfl) (Nat.le_of_ble_eq_true rfl) (rt_pending h1) ?_
        refine sg_wr 1 rfl ?_
        refine sg_wb rfl rfl (fun _ => k105 M1 n1 T hi1 hT) (fun z => absurd (lw_lf h h92) z)
      have k63 : wpa Ls xs 144 63 ([(0, .ref 0), (1, .ref 128), (2, .int (nI t))] ++ T) [] M1 (lq d n1) := by
        refine sg_wr 1 rfl ?_
        refine sg_p_callV rfl rfl rfl q128 rfl (Nat.le_of_ble_eq_true rfl) (Nat.le_of_ble_eq_true rfl) (rt_unsettled h1 hg.2.1) ?_
        refine sg_wr 1 rfl ?_
        refine sg_p_callV rfl rfl rfl q128 rfl (Nat.le_of_ble_eq_true rfl) (Nat.le_of_ble_eq_true rfl) (rt_conflicts h1) ?_
        refine sg_wb rfl rfl (fun z => absurd (lw_us h) (Int32.not_le.mpr z)) (fun _ => ?_)
        refine sg_wr 1 rfl ?_
        refine sg_p_callV rfl rfl rfl q128 rfl (Nat.le_of_ble_eq_true rfl) (Nat.le_of_ble_eq_true rfl) (rt_pending h1) ?_
        refine sg_wb rfl rfl (fun _ => k88) (fun h78 => ?_)
        refine sg_wr 1 rfl ?_
        refine sg_r_callV rfl rfl rfl q128 rfl (Nat.le_of_ble_eq_true rfl) (Nat.le_of_ble_eq_true rfl) (rt_isClean h1) ?_
        rintro _ M1 _ _ ⟨⟨v, rfl, hv⟩, rfl, rfl, rfl⟩
        refine sg_a0 ?_
        have hw0 : ¬ R.wk = 0 := fun z => h78 (by rw [z]; exact Int32.le_rfl)
        rcases hv with ⟨rfl, q⟩ | ⟨rfl, q⟩
        · refine sg_wr 1 rfl ?_
          exact k88
        · exact absurd (hin hw0).2.2.1 q
      refine sg_wr 1 rfl ?_
      refine sg_p_callV rfl rfl rfl q128 rfl (Nat.le_of_ble_eq_true rfl) (Nat.le_of_ble_eq_true rfl) (rt_pending h1) ?_
      rcases lw_cf h with ⟨z0, z1⟩ | ⟨z0, z1, z2⟩
      · refine sg_wb rfl rfl (fun _ => ?_) (fun z => absurd (by rw [z0]; exact Int32.le_rfl) z)
        refine sg_wr 2 rfl ?_
        refine sg_p_callV rfl rfl rfl q128 rfl (Nat.le_of_ble_eq_true rfl) (Nat.le_of_ble_eq_true rfl) (rt_conflicts h1) ?_
        rw [z1]
        refine sg_wr 3 rfl ?_
        exact k63
      · refine sg_wb rfl rfl (fun z => absurd z1 (Int32.not_lt.mpr z)) (fun _ => ?_)
        refine sg_wr 3 rfl ?_
        refine sg_p_callV rfl rfl rfl q128 rfl (Nat.le_of_ble_eq_true rfl) (Nat.le_of_ble_eq_true rfl) (rt_conflicts h1) ?_
        refine sg_wb rfl rfl (fun z => absurd z2 (Int32.not_lt.mpr z)) (fun _ => ?_)
        refine sg_wr 3 rfl ?_
        exact k63
    obtain ⟨R, g, K, tp, ds, dc, G, h⟩ := id hi
    have q128 := h.1.1
    refine sg_wr 2 rfl ?_
    refine sg_wb rfl rfl (fun z => absurd z (nI_ge (b := 100) hlt (by decide))) (fun _ => ?_)
    refine sg_wr 4 rfl ?_
    refine sg_r_irem rfl (by decide) ?_
    have er : nI t - nI t / 25 * 25 = nI (t % 25) := pk_rem (d := 25) (by omega) (by decide) (by decide)
    rw [er]
    refine sg_r_callS rfl rfl rfl rfl (Nat.le_of_ble_eq_true rfl) (Nat.le_of_ble_eq_true rfl) (lw_cell (Nat.mod_lt _ (by decide)) hL) ?_
    rintro _ M _ _ ⟨⟨v, rfl⟩, rfl, rfl, rfl⟩
    refine sg_a0 ?_
    refine sg_wr 2 rfl ?_
    refine sg_r_idiv rfl (by decide) ?_
    refine sg_wr 3 rfl ?_
    refine sg_r_callS rfl rfl rfl rfl (Nat.le_of_ble_eq_true rfl) (Nat.le_of_ble_eq_true rfl) (act_ok hi _) ?_
    rintro _ M1 c s ⟨rfl, n1, q1, q2, q3⟩
    exact (k36 M1 n1 T q1 hT).mono fun r M2 c2 s2 ⟨a, e1, e2⟩ => ⟨a, by omega, by omega⟩
end
end SGLW
