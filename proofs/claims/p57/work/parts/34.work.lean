section SGWK
section
variable {Ls : Nat} {xs : Nat → Int32} {M : sg_M} {R : rt_R} {n : Nat} {g : Int64} {K : Nat → hs_K} {tp ds dc : Nat → Int32} {G : mg_C}
/-- all that holds between two calls -/
def rt_ok (M : sg_M) (R : rt_R) (n : Nat) (g : Int64) (K : Nat → hs_K) (tp ds dc : Nat → Int32) (G : mg_C) : Prop := rt_is M R n g K tp ds dc G ∧ kb_ok n g tp ∧ kc_ok n g K ∧ (R.hd < 8 ∧ ¬ tp R.hd = -2) ∧ tr_ti ds ∧ mg_b G ∧ R.wk ≤ 4 ∧ (R.wm = 0 ∨ R.wm = 1) ∧ (¬ R.wk = 0 → mg_tr M G ∧ 0 < G.cc ∧ rt_cl R n K tp ds dc ∧ kt_is n g R.ws ∧ (R.wk = 1 → kt_is n g R.wc))
def iv (M : sg_M) (n : Nat) : Prop := ∃ (R : rt_R) (g : Int64) (K : Nat → hs_K) (tp ds dc : Nat → Int32) (G : mg_C), rt_ok M R n g K tp ds dc G
theorem iv.sk (h : iv M n) : iv (M.1, M.2 + 1) n := by
  obtain ⟨R, g, K, tp, ds, dc, G, h1, h2, h3, h4, h5, h6, h7, h8, h9⟩ := h
  exact ⟨R, g, K, tp, ds, dc, G, h1.sk, h2, h3, h4, h5, h6, h7, h8, h9⟩
theorem iv.n60 (h : iv M n) : n ≤ 60 := by
  obtain ⟨R, g, K, tp, ds, dc, G, h1, -⟩ := h
  exact h1.2.1.2.2.2.1
/-- an int, and all is well; what was made is paid for by the commits -/
abbrev iq (n : Nat) : Option Value ⊕ Nat → sg_M → Nat → Nat → Prop := fun r M1 c s => (∃ v : Int32, r = .inl (some (.int v))) ∧ ∃ n1 : Nat, iv M1 n1 ∧ c + 4 * n = 4 * n1 ∧ s + 336 * n = 336 * n1
/-- the same, or a throw ahead of any change -/
abbrev mu (M : sg_M) (n : Nat) : Option Value ⊕ Nat → sg_M → Nat → Nat → Prop := fun r M1 c s => ((∃ E : Nat, E < 3 ∧ r = .inr E) ∧ M1 = M ∧ c = 1 ∧ s = 6) ∨ iq n r M1 c s
theorem iq_lift {n n1 c1 s1 : Nat} {k pc : Nat} {L : sg_L} {st : List Value} {M1 : sg_M} (hc : c1 + 4 * n = 4 * n1) (hs : s1 + 336 * n = 336 * n1) (h : wpa Ls xs k pc L st M1 (iq n1)) : wpa Ls xs k pc L st M1 (fun r M c s => iq n r M (c1 + c) (s1 + s)) :=
  h.mono fun r M c s ⟨a, n2, b, e1, e2⟩ => ⟨a, n2, b, by omega, by omega⟩
theorem mu_of {n : Nat} {k pc : Nat} {L : sg_L} {st : List Value} {M0 M1 : sg_M} (h : wpa Ls xs k pc L st M1 (iq n)) : wpa Ls xs k pc L st M1 (mu M0 n) := h.mono fun r M c s q => Or.inr q
theorem rt_hc_kt (hb : kb_ok n g tp) (hh : R.hd < 8) (ht : ¬ tp R.hd = -2) : kt_is n g (rt_hc tp R) := by
  have e : rt_hc tp R = tp R.hd := rt_co_n hh
  rw [e]
  exact (hb R.hd hh).resolve_left ht
/-- a commit made, or none for want of room, and the head moved there -/
theorem rt_addmv (h : rt_is M R n g K tp ds dc G) (hb : kb_ok n g tp) (hk : kc_ok n g K) (hh : R.hd < 8) (ht : ¬ tp R.hd = -2) (hti : tr_ti G.fs) {w e : Int32} (he : kt_is n g e) {r : Option Value ⊕ Nat} {M1 : sg_M} {c s : Nat} (ha : hs_aq M n g K w (rt_hc tp R) e G.fs G.fc r M1 c s) : ∃ (v : Int32) (n1 : Nat), r = .inl (some (.int v)) ∧ c + 4 * n = 4 * n1 ∧ s + 336 * n = 336 * n1 ∧ (∃ fs : List Value, M1.1 128 = some (.inr (5, fs))) ∧ (∀ z, kt_is n g z → kt_is n1 g z) ∧ wpm Ls xs 128 [.ref 128, .int v] M1 (fun r M1 c s => r = .inl none ∧ rt_pl M1 R n1 g G ∧ c = 0 ∧ s = 0) := by
  rcases ha with ⟨a1, rfl, rfl, rfl, rfl⟩ | ⟨a1, rfl, a3, a4, rfl, rfl⟩
  · exact ⟨-1, n, rfl, by omega, by omega, ⟨_, h.1⟩, fun _ z => z, rt_moveHead h hb hk hh (Or.inl rfl)⟩
  · have h1 := h.h a3 a4
    have hc := rt_hc_kt hb hh ht
    have hk1 : kc_ok (n + 1) g (hs_up K n (hs_new M n K w (rt_hc tp R) e G.fs G.fc)) := kc_add hk a1 hc he rfl rfl rfl rfl (tr_ti_cpy hti)
    have hb1 : kb_ok (n + 1) g tp := fun b hb8 => by
      rcases hb b hb8 with z | z
      · exact Or.inl z
      · exact Or.inr (kt_add z)
    exact ⟨nI n, n + 1, rfl, by omega, by omega, ⟨_, h1.1⟩, fun _ z => kt_add z, rt_moveHead h1 hb1 hk1 hh (kt_new hk a1)⟩
theorem rt_keepMerge (h : rt_is M R n g K tp ds dc G) (hb : kb_ok n g tp) (hk : kc_ok n g K) (hh : R.hd < 8) (ht : ¬ tp R.hd = -2) (hti : tr_ti G.fs) {e : Int32} (he : kt_is n g e) : wpm Ls xs 133 [.ref 128, .int e] M (fun r M1 c s => r = .inl none ∧ ∃ n1 : Nat, rt_pl M1 R n1 g G ∧ c + 4 * n = 4 * n1 ∧ s + 336 * n = 336 * n1) := by
  obtain ⟨r128, rH, rD, r138, rG, rM⟩ := id h
  have hz := rH.2.2.2.2.1
  refine sg_wr 2 rfl ?_
  refine sg_r_getf rfl r128 rfl ?_
  refine sg_wr 1 rfl ?_
  refine sg_r_getf rfl r128 rfl ?_
  refine sg_r_getf rfl rG.1 rfl ?_
  refine sg_wr 2 rfl ?_
  refine sg_p_callV rfl rfl rfl r128 rfl (Nat.le_of_ble_eq_true rfl) (Nat.le_of_ble_eq_true rfl) (rt_headCommit h) ?_
  refine sg_wr 1 rfl ?_
  refine sg_r_callV rfl rfl rfl rH.1 rfl (Nat.le_of_ble_eq_true rfl) (Nat.le_of_ble_eq_true rfl) (hs_add rH rG.2.2.2.2.2.2.2.1 (by omega) (by omega) (by omega) _ _ _) ?_
  intro r M1 c s ha
  obtain ⟨v, n1, rfl, e1, e2, ⟨fs, e3⟩, -, e4⟩ := rt_addmv (Ls := Ls) (xs := xs) h hb hk hh ht hti he ha
  refine sg_r_callV rfl rfl rfl e3 rfl (Nat.le_of_ble_eq_true rfl) (Nat.le_of_ble_eq_true rfl) e4 ?_
  rintro _ M2 _ _ ⟨rfl, e5, rfl, rfl⟩
  refine sg_a0 ?_
  exact sg_we rfl rfl ⟨rfl, n1, e5, by omega, by omega⟩
theorem rt_keepIfOther (h : rt_pl M R n g G) (hh : R.hd < 8) (hti : tr_ti G.fs) (x : Int32) : wpm Ls xs 136 [.ref 128, .int x] M (fun r M1 c s => (∃ v : Int32, r = .inl (some (.int v)) ∧ (v = 0 ∨ v = 1)) ∧ ∃ n1 : Nat, rt_pl M1 R n1 g G ∧ c + 4 * n = 4 * n1 ∧ s + 336 * n = 336 * n1 ∧ ∀ z, kt_is n g z → kt_is n1 g z) := by
  obtain ⟨K, tp, ds, dc, h, hb, hk, ht, hd, hcl⟩ := h
  obtain ⟨r128, rH, rD, r138, rG, rM⟩ := id h
  have hz := rH.2.2.2.2.1
  have gR := rG.2.2.2.2.2.2.2.1
  refine sg_wr 1 rfl ?_
  refine sg_r_getf rfl r128 rfl ?_
  refine sg_r_getf rfl rG.1 rfl ?_
  refine sg_wr 2 rfl ?_
  refine sg_p_callV rfl rfl rfl r128 rfl (Nat.le_of_ble_eq_true rfl) (Nat.le_of_ble_eq_true rfl) (rt_headCommit h) ?_
  refine sg_p_callV rfl rfl rfl r128 rfl (Nat.le_of_ble_eq_true rfl) (Nat.le_of_ble_eq_true rfl) (rt_treeOf h _) ?_
  refine sg_r_callV rfl rfl rfl gR.1 rfl (Nat.le_of_ble_eq_true rfl) (Nat.le_of_ble_eq_true rfl) (tr_othersThan gR (hs_get rH _).2) ?_
  rintro _ M _ _ ⟨⟨v, rfl, hv, hz2⟩, rfl, rfl, rfl⟩
  refine sg_a0 ?_
  refine sg_wb rfl rfl (fun h18 => ?_) (fun h18 => ?_)
  rotate_left
  · refine sg_wr 1 rfl ?_
    exact sg_we rfl rfl ⟨⟨_, rfl, Or.inl rfl⟩, n, ⟨K, tp, ds, dc, h, hb, hk, ht, hd, hcl⟩, by omega, by omega, fun _ z => z⟩
  refine sg_wr 2 rfl ?_
  refine sg_r_getf rfl r128 rfl ?_
  refine sg_wr 1 rfl ?_
  refine sg_r_getf rfl r128 rfl ?_
  refine sg_r_getf rfl rG.1 rfl ?_
  refine sg_wr 1 rfl ?_
  refine sg_r_getf rfl r128 rfl ?_
  refine sg_wr 1 rfl ?_
  refine sg_p_callV rfl rfl rfl rH.1 rfl (Nat.le_of_ble_eq_true rfl) (Nat.le_of_ble_eq_true rfl) (hs_at rH x) ?_
  refine sg_r_getf rfl (hs_get rH x).1 rfl ?_
  refine sg_wr 1 rfl ?_
  refine sg_p_callV rfl rfl rfl r128 rfl (Nat.le_of_ble_eq_true rfl) (Nat.le_of_ble_eq_true rfl) (rt_headCommit h) ?_
  refine sg_wr 1 rfl ?_
  refine sg_r_callV rfl rfl rfl rH.1 rfl (Nat.le_of_ble_eq_true rfl) (Nat.le_of_ble_eq_true rfl) (hs_add rH gR (by omega) (by omega) (by omega) _ _ _) ?_
  intro r M1 c s ha
  obtain ⟨v, n1, rfl, e1, e2, ⟨fs, e3⟩, e6, e4⟩ := rt_addmv (Ls := Ls) (xs := xs) h hb hk hh ht hti (Or.inl rfl) ha
  refine sg_r_callV rfl rfl rfl e3 rfl (Nat.le_of_ble_eq_true rfl) (Nat.le_of_ble_eq_true rfl) e4 ?_
  rintro _ M2 _ _ ⟨rfl, e5, rfl, rfl⟩
  refine sg_a0 ?_
  refine sg_wr 1 rfl ?_
  exact sg_we rfl rfl ⟨⟨_, rfl, Or.inr rfl⟩, n1, e5, by omega, by omega, e6⟩
/-- work waits: what is written into the root -/
theorem rt_waitWith (h : rt_is M R n g K tp ds dc G) (k : Nat) (x : Int32) : wpm Ls xs 134 [.ref 128, .int (nI k), .int x] M (sg_eq none (sg_up M.1 128 (.inr (5, rt_fs (rt_mk R.hd R.su k (rt_hc tp R) x R.wq R.wm))), M.2)) := by
  obtain ⟨r128, rH, rD, r138, rG, rM⟩ := id h
  refine sg_wr 2 rfl ?_
  refine sg_r_putf rfl r128 (Nat.le_of_ble_eq_true rfl) rfl ?_
  have h1 := h.r (rt_mk R.hd R.su k R.ws R.wc R.wq R.wm)
  have q128 := h1.1
  refine sg_wr 2 rfl ?_
  refine sg_p_callV rfl rfl rfl q128 rfl (Nat.le_of_ble_eq_true rfl) (Nat.le_of_ble_eq_true rfl) (rt_headCommit h1) ?_
  refine sg_r_putf rfl q128 (Nat.le_of_ble_eq_true rfl) rfl ?_
  refine sg_wr 2 rfl ?_
  refine sg_r_putf rfl (h1.r (rt_mk R.hd R.su k (rt_hc tp R) R.wc R.wq R.wm)).1 (Nat.le_of_ble_eq_true rfl) rfl ?_
  dsimp only
  rw [sg_upup, sg_upup]
  exact sg_we rfl rfl ⟨rfl, rfl, rfl, rfl⟩
/-- a state without work -/
theorem iv_pl (h : rt_pl M R n g G) (hh : R.hd < 8) (hg : mg_b G) (hw : R.wk = 0) (hm : R.wm = 0 ∨ R.wm = 1) : iv M n := by
  obtain ⟨K, tp, ds, dc, h1, h2, h3, h4, h5, h6⟩ := h
  exact ⟨R, g, K, tp, ds, dc, G, h1, h2, h3, ⟨hh, h4⟩, h5, hg, by omega, hm, fun z => absurd hw z⟩
theorem rt_keepOrWait (h : rt_pl M R n g G) (hh : R.hd < 8) (hw : R.wk = 0) (hm : R.wm = 0 ∨ R.wm = 1) (hg : mg_ok M G) {k : Nat} (hk2 : k = 2 ∨ k = 3) (x : Int32) : wpm Ls xs 135 [.ref 128, .int (nI k), .int x] M (iq n) := by
  have hgb : mg_b G := ⟨hg.2.1, hg.2.2.1, hg.2.2.2⟩
  obtain ⟨K, tp, ds, dc, h1, hb, hk, ht, hd, hcl⟩ := id h
  obtain ⟨r128, rH, rD, r138, rG, rM⟩ := id h1
  refine sg_wr 1 rfl ?_
  refine sg_r_getf rfl r128 rfl ?_
  refine sg_p_callV rfl rfl rfl rG.1 rfl (Nat.le_of_ble_eq_true rfl) (Nat.le_of_ble_eq_true rfl) (mg_count rG) ?_
  refine sg_wb rfl rfl (fun h7 => ?_) (fun h7 => ?_)
  · refine sg_wr 2 rfl ?_
    refine sg_r_callV rfl rfl rfl r128 rfl (Nat.le_of_ble_eq_true rfl) (Nat.le_of_ble_eq_true rfl) (rt_keepIfOther h hh hg.2.2.2 x) ?_
    rintro _ M1 c s ⟨⟨v, rfl, hv⟩, n1, q1, q2, q3, -⟩
    have hi : iv M1 n1 := iv_pl q1 hh hgb hw hm
    rcases hv with rfl | rfl
    · refine sg_wr 2 rfl ?_
      exact sg_we rfl rfl ⟨⟨_, rfl⟩, n1, hi, by omega, by omega⟩
    · refine sg_wr 3 rfl ?_
      exact sg_we rfl rfl ⟨⟨_, rfl⟩, n1, hi, by omega, by omega⟩
  · refine sg_wr 3 rfl ?_
    refine sg_p_callV rfl rfl rfl r128 rfl (Nat.le_of_ble_eq_true rfl) (Nat.le_of_ble_eq_true rfl) (rt_waitWith h1 k x) ?_
    refine sg_wr 1 rfl ?_
    refine sg_we rfl rfl ⟨⟨_, rfl⟩, n, ⟨rt_mk R.hd R.su k (rt_hc tp R) x R.wq R.wm, g, K, tp, ds, dc, G, h1.r _, hb, hk, ⟨hh, ht⟩, hd, hgb, ?_, hm, fun _ => ⟨hg.1.r h1, ?_, hcl, rt_hc_kt hb hh ht, ?_⟩⟩, by omega, by omega⟩
    · show k ≤ 4
      omega
    · refine Nat.pos_of_ne_zero fun z => h7 ?_
      rw [z]
      exact Int32.le_rfl
    · intro z
      have z : k = 1 := z
      omega
end
end SGWK
