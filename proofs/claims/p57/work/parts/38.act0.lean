section SGA0
section
variable {Ls : Nat} {xs : Nat → Int32} {M : sg_M} {R : rt_R} {n : Nat} {g : Int64} {K : Nat → hs_K} {tp ds dc : Nat → Int32} {G : mg_C}

/-- an int below k -/
abbrev bq (k : Nat) (M : sg_M) : Option Value ⊕ Nat → sg_M → Nat → Nat → Prop := fun r M1 c s => (∃ j : Nat, j < k ∧ r = .inl (some (.int (nI j)))) ∧ M1 = M ∧ c = 0 ∧ s = 0
theorem lw_below {k : Nat} (h0 : 0 < k) (hk : k < 2 ^ 31) (v : Int32) : wpm Ls xs 138 [.int v, .int (nI k)] M (bq k M) := by
  refine sg_wr 4 rfl ?_
  refine sg_r_irem rfl (nI_ne0 h0 hk) ?_
  rw [pk_and v 31 (by decide), pk_rem (Nat.mod_lt _ (by decide)) h0 hk]
  exact sg_we rfl rfl ⟨⟨_, Nat.mod_lt _ h0, rfl⟩, rfl, rfl, rfl⟩
/-- the greater of 1 and another -/
theorem lw_max (y : Int32) : ∃ k : Nat, 0 < k ∧ k < 2 ^ 31 ∧ (if (1 : Int32) < y then y else 1) = nI k := by
  by_cases c : (1 : Int32) < y
  · rw [if_pos c]
    rcases sg_int y with z | ⟨j, hj, rfl⟩
    · exact absurd (Int32.lt_trans c z) (by decide)
    · exact ⟨j, Nat.pos_of_ne_zero (fun z => by rw [z] at c; exact absurd c (by decide)), hj, rfl⟩
  · rw [if_neg c]
    exact ⟨1, by decide, by decide, rfl⟩
theorem lw_cell {j : Nat} (hj : j < 25) (hL : Ls < 2 ^ 31) : wpm Ls xs 139 [.ref 0, .int (nI j)] M (sg_ai M) := by
  refine sg_wr 3 rfl ?_
  refine sg_wb rfl rfl (fun _ => ?_) (fun h3 => ?_)
  · refine sg_wr 5 rfl ?_
    exact sg_we rfl rfl ⟨⟨_, rfl⟩, rfl, rfl, rfl⟩
  · have hlt : j < Ls := sg_ltn h3 (by omega)
    refine sg_wr 2 rfl ?_
    refine sg_w0 rfl (show sg_iald Ls xs 8 _ [.int (nI j), .ref 0] M = some (.inl (9, _, [.int (xs j)], M, 0, 0)) from by
      unfold sg_iald
      simp only [if_true]
      rw [if_pos (sg_in_n hlt hL), nI_clamp (by omega)]
      rfl) ?_
    refine sg_wr 1 rfl ?_
    exact sg_we rfl rfl ⟨⟨_, rfl⟩, rfl, rfl, rfl⟩
/-- create, and that the file is there then -/
theorem rt_create2 (h : rt_ok M R n g K tp ds dc G) {f : Nat} (hf : f < 8) : wpm Ls xs 55 [.ref 128, .int (nI f)] M (fun r M1 c s => ((∃ E : Nat, E < 3 ∧ r = .inr E) ∧ M1 = M ∧ c = 1 ∧ s = 6) ∨ ((∃ v : Int32, r = .inl (some (.int v))) ∧ (∃ d1 : Nat → Int32, rt_ok M1 R n g K tp d1 dc G ∧ ¬ tr_size d1 (nI f) < 0) ∧ c = 0 ∧ s = 0)) := by
  obtain ⟨h1, hb, hk, ⟨hh, ht⟩, hd, hg, hw, hwm, hin⟩ := id h
  obtain ⟨r128, rH, rD, r138, rG, rM⟩ := id h1
  refine sg_wr 1 rfl ?_
  refine sg_n_callS rfl rfl rfl rfl (Nat.le_of_ble_eq_true rfl) (Nat.le_of_ble_eq_true rfl) (rt_needFile _) (fun _ => ?_) (fun _ E hE => Or.inl ⟨⟨E, hE, rfl⟩, rfl, rfl, rfl⟩)
  refine sg_wr 1 rfl ?_
  refine sg_n_callV rfl rfl rfl r128 rfl (Nat.le_of_ble_eq_true rfl) (Nat.le_of_ble_eq_true rfl) (rt_needNoWork h1) (fun h0 => ?_) (fun _ E hE => Or.inl ⟨⟨E, hE, rfl⟩, rfl, rfl, rfl⟩)
  have hw0 := ok_wk0 h h0
  refine sg_wr 1 rfl ?_
  refine sg_r_getf rfl r128 rfl ?_
  refine sg_wr 1 rfl ?_
  refine sg_p_callV rfl rfl rfl rD.1 rfl (Nat.le_of_ble_eq_true rfl) (Nat.le_of_ble_eq_true rfl) (tr_has rD _) ?_
  refine sg_wb rfl rfl (fun _ => ?_) (fun _ => ?_)
  rotate_left
  · exact sg_r_thr rfl (Nat.le_of_ble_eq_true rfl) (Or.inl ⟨⟨_, by decide, rfl⟩, rfl, rfl, rfl⟩)
  refine sg_wr 1 rfl ?_
  refine sg_r_getf rfl r128 rfl ?_
  refine sg_wr 1 rfl ?_
  refine sg_p_callV rfl rfl rfl rD.1 rfl (Nat.le_of_ble_eq_true rfl) (Nat.le_of_ble_eq_true rfl) (tr_putFile rD _) ?_
  have h2 := h1.d (tr_pf ds (nI f)) dc
  have x1 : ¬ nI f < 0 := nI_pos (by omega)
  have x2 : ¬ 8 ≤ nI f := nI_ge (b := 8) hf (by decide)
  have x3 := tr_pf_has (fs := ds) x1 x2
  refine sg_wr 1 rfl ?_
  refine sg_r_getf rfl h2.1 rfl ?_
  refine sg_r_callV rfl rfl rfl h2.2.2.1.1 rfl (Nat.le_of_ble_eq_true rfl) (Nat.le_of_ble_eq_true rfl) (tr_fileCount h2.2.2.1) ?_
  rintro _ _ _ _ ⟨⟨v, rfl⟩, rfl, rfl, rfl⟩
  refine sg_a0 ?_
  refine sg_we rfl rfl (Or.inr ⟨⟨_, rfl⟩, ⟨tr_pf ds (nI f), ⟨h2, hb, hk, ⟨hh, ht⟩, tr_pf_ti hd, hg, hw, hwm, fun z => absurd hw0 z⟩, ?_⟩, rfl, rfl⟩)
  unfold tr_size
  rw [if_neg x1, if_pos (Int32.not_le.mp x2)]
  exact Int32.not_lt.mpr x3
/-- what a step of the law's act leaves -/
abbrev aq (n : Nat) : Option Value ⊕ Nat → sg_M → Nat → Nat → Prop := fun r M1 c s => r = .inl none ∧ ∃ n1 : Nat, iv M1 n1 ∧ c + 4 * n ≤ 4 * n1 + 1 ∧ s + 336 * n ≤ 336 * n1 + 6
theorem aq_lift {n n1 c1 s1 : Nat} {k pc : Nat} {L : sg_L} {st : List Value} {M1 : sg_M} (hc : c1 + 4 * n = 4 * n1) (hs : s1 + 336 * n = 336 * n1) (h : wpa Ls xs k pc L st M1 (aq n1)) : wpa Ls xs k pc L st M1 (fun r M c s => aq n r M (c1 + c) (s1 + s)) :=
  h.mono fun r M c s ⟨a, n2, b, e1, e2⟩ => ⟨a, n2, b, by omega, by omega⟩
/-- a throw is caught -/
def act_p (pc : Nat) : Prop := sg_hd 143 pc 0 = some (some 523) ∧ sg_hd 143 pc 1 = some (some 526) ∧ sg_hd 143 pc 2 = some (some 529)
theorem act_h {pc : Nat} {L : sg_L} {rest : List Value} (hp : act_p pc) (hi : iv M n) {E : Nat} (hE : E < 3) : sg_aft (sg_tab Ls xs) sg_hd 143 pc L rest (aq n) (.inr E) M 1 6 := by
  have hi2 := hi.sk
  have fin : ∀ h : Nat, (h = 523 ∨ h = 526 ∨ h = 529) → sg_wp (sg_tab Ls xs) sg_hd 143 h L [.ref M.2] (M.1, M.2 + 1) (fun r M c s => aq n r M (1 + c) (6 + s)) := by
    rintro h (rfl | rfl | rfl)
    · refine sg_wr 1 rfl ?_
      exact sg_we rfl rfl ⟨rfl, n, hi2, by omega, by omega⟩
    · refine sg_wr 1 rfl ?_
      exact sg_we rfl rfl ⟨rfl, n, hi2, by omega, by omega⟩
    · refine sg_wr 1 rfl ?_
      exact sg_we rfl rfl ⟨rfl, n, hi2, by omega, by omega⟩
  unfold sg_aft
  have e : E = 0 ∨ E = 1 ∨ E = 2 := by omega
  rcases e with rfl | rfl | rfl
  · dsimp only
    rw [hp.1]
    exact fin _ (Or.inl rfl)
  · dsimp only
    rw [hp.2.1]
    exact fin _ (Or.inr (Or.inl rfl))
  · dsimp only
    rw [hp.2.2]
    exact fin _ (Or.inr (Or.inr rfl))
theorem act_m {j nn ci nL a pc : Nat} {fs As rest st : List Value} {L : sg_L} (hf : sg_tab Ls xs 143 pc = some (sg_callV j nn ci nL)) (hs : (st.take nn).reverse = .ref a :: As) (hr : st.drop nn = rest) (hM : M.1 a = some (.inr (ci, fs))) (h1 : As.length + 1 = nn) (h2 : sg_cs rest ≤ 8) (h3 : sg_cs (.ref a :: As) ≤ nL) (hm : wpm Ls xs j (.ref a :: As) M (mu M n)) (hi : iv M n) (hp : act_p pc) (h : ∀ (v : Int32) (M1 : sg_M) (n1 : Nat), iv M1 n1 → wpa Ls xs 143 (pc + 3) L (.int v :: rest) M1 (aq n1)) : wpa Ls xs 143 pc L st M (aq n) :=
  sg_r_callV hf hs hr hM h1 h2 h3 hm (by
    rintro r M1 c s (⟨⟨E, hE, rfl⟩, rfl, rfl, rfl⟩ | ⟨⟨v, rfl⟩, n1, q1, q2, q3⟩)
    · exact act_h hp hi hE
    · exact aq_lift q2 q3 (h v M1 n1 q1))
theorem act_b {k pc : Nat} {v : Int32} {rest st : List Value} {L : sg_L} {nL : Nat} {Q : Option Value ⊕ Nat → sg_M → Nat → Nat → Prop} (hf : sg_tab Ls xs 143 pc = some (sg_callS 138 2 nL)) (hs : (st.take 2).reverse = [.int v, .int (nI k)]) (hr : st.drop 2 = rest) (h1 : 2 = 2) (h2 : sg_cs rest ≤ 8) (h3 : sg_cs [.int v, .int (nI k)] ≤ nL) (h0 : 0 < k) (hk : k < 2 ^ 31) (h : ∀ j : Nat, j < k → wpa Ls xs 143 (pc + 3) L (.int (nI j) :: rest) M Q) : wpa Ls xs 143 pc L st M Q :=
  sg_r_callS hf hs hr rfl h2 h3 (lw_below h0 hk v) (by
    rintro r M1 c s ⟨⟨j, hj, rfl⟩, rfl, rfl, rfl⟩
    exact sg_a0 (h j hj))
theorem iv.root (h : iv M n) : ∃ fs : List Value, M.1 128 = some (.inr (5, fs)) := by
  obtain ⟨R, g, K, tp, ds, dc, G, h1, -⟩ := h
  exact ⟨_, h1.1⟩
end
end SGA0

