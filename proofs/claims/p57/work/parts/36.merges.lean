section SGMU
section
variable {Ls : Nat} {xs : Nat → Int32} {M : sg_M} {R : rt_R} {n : Nat} {g : Int64} {K : Nat → hs_K} {tp ds dc : Nat → Int32} {G : mg_C}

theorem co_kt (hb : kb_ok n g tp) {x : Int32} (h : ¬ rt_co tp x = -2) : kt_is n g (rt_co tp x) := by
  unfold rt_co at h ⊢
  by_cases c1 : x < 0
  · rw [if_pos c1] at h
    exact absurd rfl h
  · rw [if_neg c1] at h ⊢
    by_cases c2 : x < 8
    · rw [if_pos c2] at h ⊢
      obtain ⟨j, hj, rfl⟩ := nI_of c1
      have hj8 : j < 8 := (nI_ltI (b := 8) hj (by decide)).mp c2
      rw [nI_clamp hj] at h ⊢
      exact (hb j hj8).resolve_left h
    · rw [if_neg c2] at h
      exact absurd rfl h
theorem hs_kt (hn : n ≤ 60) {x : Int32} (h : hs_th n g x) : kt_is n g x := by
  obtain ⟨j, a, b, c⟩ := hs_th_n h hn
  exact Or.inr ⟨j, a, b, by rw [← b] at c ⊢; exact c⟩
theorem rdy_pl (h : rt_ok M R n g K tp ds dc G) (hr : rt_rdy R n K tp ds dc) : R.wk = 0 ∧ rt_pl M R n g G := by
  have e := (rt_wk_n h (k := 0) (by decide)).mp hr.1
  obtain ⟨h1, hb, hk, ⟨hh, ht⟩, hd, hg, hw, hwm, hin⟩ := h
  exact ⟨e, K, tp, ds, dc, h1, hb, hk, ht, hd, hr.2.2⟩
theorem rt_merge (h : rt_ok M R n g K tp ds dc G) (x : Int32) : wpm Ls xs 67 [.ref 128, .int x] M (mu M n) := by
  obtain ⟨h1, hb, hk, ⟨hh, ht⟩, hd, hg, hw, hwm, hin⟩ := id h
  obtain ⟨r128, rH, rD, r138, rG, rM⟩ := id h1
  refine sg_wr 2 rfl ?_
  refine sg_n_callV rfl rfl rfl r128 rfl (Nat.le_of_ble_eq_true rfl) (Nat.le_of_ble_eq_true rfl) (rt_needBranch h1 x) (fun hx => ?_) (fun _ E hE => Or.inl ⟨⟨E, hE, rfl⟩, rfl, rfl, rfl⟩)
  refine sg_wr 2 rfl ?_
  refine sg_n_callV rfl rfl rfl r128 rfl (Nat.le_of_ble_eq_true rfl) (Nat.le_of_ble_eq_true rfl) (rt_needReadyFor h1 x) (fun hr => ?_) (fun _ E hE => Or.inl ⟨⟨E, hE, rfl⟩, rfl, rfl, rfl⟩)
  refine sg_wr 2 rfl ?_
  refine sg_n_callV rfl rfl rfl r128 rfl (Nat.le_of_ble_eq_true rfl) (Nat.le_of_ble_eq_true rfl) (rt_needRoom h1 _) (fun _ => ?_) (fun _ E hE => Or.inl ⟨⟨E, hE, rfl⟩, rfl, rfl, rfl⟩)
  refine mu_of ?_
  obtain ⟨hw0, hp⟩ := rdy_pl h hr.1
  have hkt := co_kt hb hx
  refine sg_wr 2 rfl ?_
  refine sg_p_callV rfl rfl rfl r128 rfl (Nat.le_of_ble_eq_true rfl) (Nat.le_of_ble_eq_true rfl) (rt_commitOf h1 x) ?_
  refine sg_wr 3 rfl ?_
  refine sg_r_callV rfl rfl rfl r128 rfl (Nat.le_of_ble_eq_true rfl) (Nat.le_of_ble_eq_true rfl) (rt_tryMerge h1 hk (rt_co tp x)) ?_
  rintro _ M1 _ _ ⟨⟨v, G1, rfl, q1, q2, q3⟩, rfl, rfl⟩
  refine sg_a0 ?_
  have q128 := q1.1
  unfold rt_mP at q3
  rcases q3 with ⟨rfl, rfl, -⟩ | ⟨-, ⟨rfl, rfl, -⟩ | ⟨-, p3, ⟨rfl, p4⟩ | ⟨rfl, p4⟩⟩⟩
  · refine sg_wr 11 rfl ?_
    exact sg_we rfl rfl ⟨⟨_, rfl⟩, n, iv_pl ⟨K, tp, ds, dc, q1, hb, hk, ht, hd, hr.1.2.2⟩ hh hg hw0 hwm, by omega, by omega⟩
  · refine sg_wr 6 rfl ?_
    refine sg_r_callV rfl rfl rfl q128 rfl (Nat.le_of_ble_eq_true rfl) (Nat.le_of_ble_eq_true rfl) (rt_moveHead q1 hb hk hh hkt) ?_
    rintro _ M3 _ _ ⟨rfl, q, rfl, rfl⟩
    refine sg_a0 ?_
    refine sg_wr 2 rfl ?_
    exact sg_we rfl rfl ⟨⟨_, rfl⟩, n, iv_pl q hh hg hw0 hwm, by omega, by omega⟩
  · refine sg_wr 9 rfl ?_
    refine sg_r_callV rfl rfl rfl q128 rfl (Nat.le_of_ble_eq_true rfl) (Nat.le_of_ble_eq_true rfl) (rt_keepMerge q1 hb hk hh ht p3.2.2.2 hkt) ?_
    rintro _ M3 c s ⟨rfl, n1, u1, u2, u3⟩
    refine sg_wr 2 rfl ?_
    exact sg_we rfl rfl ⟨⟨_, rfl⟩, n1, iv_pl u1 hh ⟨p3.2.1, p3.2.2.1, p3.2.2.2⟩ hw0 hwm, by omega, by omega⟩
  · refine sg_wr 13 rfl ?_
    refine sg_p_callV rfl rfl rfl q128 rfl (Nat.le_of_ble_eq_true rfl) (Nat.le_of_ble_eq_true rfl) (rt_waitWith q1 1 (rt_co tp x)) ?_
    refine sg_wr 1 rfl ?_
    refine sg_we rfl rfl ⟨⟨_, rfl⟩, n, ⟨rt_mk R.hd R.su 1 (rt_hc tp R) (rt_co tp x) R.wq R.wm, g, K, tp, ds, dc, G1, q1.r _, hb, hk, ⟨hh, ht⟩, hd, ⟨p3.2.1, p3.2.2.1, p3.2.2.2⟩, ?_, hwm, fun _ => ⟨p3.1.r q1, p4, hr.1.2.2, rt_hc_kt hb hh ht, fun _ => hkt⟩⟩, by omega, by omega⟩
    show 1 ≤ 4
    omega
theorem rt_carry (h : rt_ok M R n g K tp ds dc G) (x : Int32) : wpm Ls xs 68 [.ref 128, .int x] M (mu M n) := by
  obtain ⟨h1, hb, hk, ⟨hh, ht⟩, hd, hg, hw, hwm, hin⟩ := id h
  obtain ⟨r128, rH, rD, r138, rG, rM⟩ := id h1
  refine sg_wr 2 rfl ?_
  refine sg_n_callV rfl rfl rfl r128 rfl (Nat.le_of_ble_eq_true rfl) (Nat.le_of_ble_eq_true rfl) (rt_needThere h1 x) (fun hx => ?_) (fun _ E hE => Or.inl ⟨⟨E, hE, rfl⟩, rfl, rfl, rfl⟩)
  refine sg_wr 1 rfl ?_
  refine sg_n_callV rfl rfl rfl r128 rfl (Nat.le_of_ble_eq_true rfl) (Nat.le_of_ble_eq_true rfl) (rt_needReady h1) (fun hr => ?_) (fun _ E hE => Or.inl ⟨⟨E, hE, rfl⟩, rfl, rfl, rfl⟩)
  refine sg_wr 2 rfl ?_
  refine sg_n_callV rfl rfl rfl r128 rfl (Nat.le_of_ble_eq_true rfl) (Nat.le_of_ble_eq_true rfl) (rt_needRoom h1 _) (fun _ => ?_) (fun _ E hE => Or.inl ⟨⟨E, hE, rfl⟩, rfl, rfl, rfl⟩)
  refine mu_of ?_
  obtain ⟨hw0, hp⟩ := rdy_pl h hr
  refine sg_wr 1 rfl ?_
  refine sg_r_getf rfl r128 rfl ?_
  refine sg_wr 2 rfl ?_
  refine sg_p_callV rfl rfl rfl r128 rfl (Nat.le_of_ble_eq_true rfl) (Nat.le_of_ble_eq_true rfl) (rt_parentTreeOf h1 _) ?_
  refine sg_wr 2 rfl ?_
  refine sg_p_callV rfl rfl rfl r128 rfl (Nat.le_of_ble_eq_true rfl) (Nat.le_of_ble_eq_true rfl) (rt_headCommit h1) ?_
  refine sg_p_callV rfl rfl rfl r128 rfl (Nat.le_of_ble_eq_true rfl) (Nat.le_of_ble_eq_true rfl) (rt_treeOf h1 _) ?_
  refine sg_wr 2 rfl ?_
  refine sg_p_callV rfl rfl rfl r128 rfl (Nat.le_of_ble_eq_true rfl) (Nat.le_of_ble_eq_true rfl) (rt_treeOf h1 _) ?_
  refine sg_r_callV rfl rfl rfl rG.1 rfl (Nat.le_of_ble_eq_true rfl) (Nat.le_of_ble_eq_true rfl) (mg_start rG (hs_mgt rH hk _) (hs_mgt rH hk _) (hs_mgt rH hk _)) ?_
  rintro _ M1 _ _ ⟨rfl, ⟨G1, q1, q2, q3, q4, q5, q6, q7, q8, q9, q10⟩, rfl, rfl⟩
  refine sg_a0 ?_
  have h2 := h1.mg q1 q2
  have q128 := h2.1
  refine sg_wr 3 rfl ?_
  refine sg_r_callV rfl rfl rfl q128 rfl (Nat.le_of_ble_eq_true rfl) (Nat.le_of_ble_eq_true rfl) (rt_keepOrWait (k := 2) (G := G1) (g := g) ⟨K, tp, ds, dc, h2, hb, hk, ht, hd, hr.2.2⟩ hh hw0 hwm ⟨q3, q7, q8, q9⟩ (by decide) x) ?_
  rintro _ M3 c s ⟨⟨v, rfl⟩, n1, u1, u2, u3⟩
  exact sg_we rfl rfl ⟨⟨_, rfl⟩, n1, u1, by omega, by omega⟩
theorem rt_takeBack (h : rt_ok M R n g K tp ds dc G) (x : Int32) : wpm Ls xs 69 [.ref 128, .int x] M (mu M n) := by
  obtain ⟨h1, hb, hk, ⟨hh, ht⟩, hd, hg, hw, hwm, hin⟩ := id h
  obtain ⟨r128, rH, rD, r138, rG, rM⟩ := id h1
  refine sg_wr 2 rfl ?_
  refine sg_n_callV rfl rfl rfl r128 rfl (Nat.le_of_ble_eq_true rfl) (Nat.le_of_ble_eq_true rfl) (rt_needThere h1 x) (fun hx => ?_) (fun _ E hE => Or.inl ⟨⟨E, hE, rfl⟩, rfl, rfl, rfl⟩)
  refine sg_wr 1 rfl ?_
  refine sg_n_callV rfl rfl rfl r128 rfl (Nat.le_of_ble_eq_true rfl) (Nat.le_of_ble_eq_true rfl) (rt_needReady h1) (fun hr => ?_) (fun _ E hE => Or.inl ⟨⟨E, hE, rfl⟩, rfl, rfl, rfl⟩)
  refine sg_wr 2 rfl ?_
  refine sg_n_callV rfl rfl rfl r128 rfl (Nat.le_of_ble_eq_true rfl) (Nat.le_of_ble_eq_true rfl) (rt_needRoom h1 _) (fun _ => ?_) (fun _ E hE => Or.inl ⟨⟨E, hE, rfl⟩, rfl, rfl, rfl⟩)
  refine mu_of ?_
  obtain ⟨hw0, hp⟩ := rdy_pl h hr
  refine sg_wr 1 rfl ?_
  refine sg_r_getf rfl r128 rfl ?_
  refine sg_wr 2 rfl ?_
  refine sg_p_callV rfl rfl rfl r128 rfl (Nat.le_of_ble_eq_true rfl) (Nat.le_of_ble_eq_true rfl) (rt_treeOf h1 _) ?_
  refine sg_wr 2 rfl ?_
  refine sg_p_callV rfl rfl rfl r128 rfl (Nat.le_of_ble_eq_true rfl) (Nat.le_of_ble_eq_true rfl) (rt_headCommit h1) ?_
  refine sg_p_callV rfl rfl rfl r128 rfl (Nat.le_of_ble_eq_true rfl) (Nat.le_of_ble_eq_true rfl) (rt_treeOf h1 _) ?_
  refine sg_wr 2 rfl ?_
  refine sg_p_callV rfl rfl rfl r128 rfl (Nat.le_of_ble_eq_true rfl) (Nat.le_of_ble_eq_true rfl) (rt_parentTreeOf h1 _) ?_
  refine sg_r_callV rfl rfl rfl rG.1 rfl (Nat.le_of_ble_eq_true rfl) (Nat.le_of_ble_eq_true rfl) (mg_start rG (hs_mgt rH hk _) (hs_mgt rH hk _) (hs_mgt rH hk _)) ?_
  rintro _ M1 _ _ ⟨rfl, ⟨G1, q1, q2, q3, q4, q5, q6, q7, q8, q9, q10⟩, rfl, rfl⟩
  refine sg_a0 ?_
  have h2 := h1.mg q1 q2
  have q128 := h2.1
  refine sg_wr 3 rfl ?_
  refine sg_r_callV rfl rfl rfl q128 rfl (Nat.le_of_ble_eq_true rfl) (Nat.le_of_ble_eq_true rfl) (rt_keepOrWait (k := 3) (G := G1) (g := g) ⟨K, tp, ds, dc, h2, hb, hk, ht, hd, hr.2.2⟩ hh hw0 hwm ⟨q3, q7, q8, q9⟩ (by decide) x) ?_
  rintro _ M3 c s ⟨⟨v, rfl⟩, n1, u1, u2, u3⟩
  exact sg_we rfl rfl ⟨⟨_, rfl⟩, n1, u1, by omega, by omega⟩
theorem rp_80 (h : rt_ok M R n g K tp ds dc G) (x : Int32) (hx : ¬ rt_co tp x = -2) (hw0 : R.wk = 0) (a b : Nat) (q : Int64) : wpa Ls xs 70 80 [(0, .ref 128), (1, .int x), (2, .ref a), (3, .ref b), (4, .long q)] [] M (iq n) := by
  obtain ⟨h1, hb, hk, ⟨hh, ht⟩, hd, hg, hw, hwm, hin⟩ := id h
  obtain ⟨r128, rH, rD, r138, rG, rM⟩ := id h1
  have hkt := co_kt hb hx
  have h2 := h1.r (rt_mk R.hd R.su R.wk (rt_hc tp R) R.wc q 0)
  have fin : ∀ M2 : sg_M, M2 = (sg_up M.1 128 (.inr (5, rt_fs (rt_mk R.hd R.su R.wk (rt_hc tp R) R.wc q 0))), M.2) → wpa Ls xs 70 99 [(0, .ref 128), (1, .int x), (2, .ref a), (3, .ref b), (4, .long q)] [] M2 (iq n) := by
    rintro M2 rfl
    have q128 := h2.1
    refine sg_wr 3 rfl ?_
    refine sg_p_callV rfl rfl rfl q128 rfl (Nat.le_of_ble_eq_true rfl) (Nat.le_of_ble_eq_true rfl) (rt_commitOf h2 x) ?_
    refine sg_r_callV rfl rfl rfl q128 rfl (Nat.le_of_ble_eq_true rfl) (Nat.le_of_ble_eq_true rfl) (rt_moveHead h2 hb hk hh hkt) ?_
    rintro _ M3 _ _ ⟨rfl, u, rfl, rfl⟩
    refine sg_a0 ?_
    obtain ⟨K3, tp3, ds3, dc3, h3, -⟩ := id u
    have s128 := h3.1
    refine sg_wr 1 rfl ?_
    refine sg_r_callV rfl rfl rfl s128 rfl (Nat.le_of_ble_eq_true rfl) (Nat.le_of_ble_eq_true rfl) (rt_carryQueue u hh hw0 (Or.inl rfl) hg (rt_hc_kt hb hh ht)) ?_
    rintro _ M4 c s ⟨⟨z, rfl⟩, n2, w1, w2, w3⟩
    exact sg_we rfl rfl ⟨⟨_, rfl⟩, n2, w1, by omega, by omega⟩
  have k94 : ∀ M2 : sg_M, M2 = (sg_up M.1 128 (.inr (5, rt_fs (rt_mk R.hd R.su R.wk (rt_hc tp R) R.wc q R.wm))), M.2) → wpa Ls xs 70 94 [(0, .ref 128), (1, .int x), (2, .ref a), (3, .ref b), (4, .long q)] [] M2 (iq n) := by
    rintro M2 rfl
    refine sg_wr 2 rfl ?_
    refine sg_r_putf rfl (h1.r (rt_mk R.hd R.su R.wk (rt_hc tp R) R.wc q R.wm)).1 (Nat.le_of_ble_eq_true rfl) rfl ?_
    rw [sg_upup]
    exact fin _ rfl
  have k88 : ∀ M2 : sg_M, M2 = (sg_up M.1 128 (.inr (5, rt_fs (rt_mk R.hd R.su R.wk (rt_hc tp R) R.wc R.wq R.wm))), M.2) → wpa Ls xs 70 88 [(0, .ref 128), (1, .int x), (2, .ref a), (3, .ref b), (4, .long q)] [] M2 (iq n) := by
    rintro M2 rfl
    refine sg_wr 2 rfl ?_
    refine sg_r_putf rfl (h1.r (rt_mk R.hd R.su R.wk (rt_hc tp R) R.wc R.wq R.wm)).1 (Nat.le_of_ble_eq_true rfl) rfl ?_
    rw [sg_upup]
    exact k94 _ rfl
  refine sg_wr 2 rfl ?_
  refine sg_p_callV rfl rfl rfl r128 rfl (Nat.le_of_ble_eq_true rfl) (Nat.le_of_ble_eq_true rfl) (rt_headCommit h1) ?_
  refine sg_r_putf rfl r128 (Nat.le_of_ble_eq_true rfl) rfl ?_
  exact k88 _ rfl
theorem rt_replay (h : rt_ok M R n g K tp ds dc G) (x : Int32) : wpm Ls xs 70 [.ref 128, .int x] M (mu M n) := by
  obtain ⟨h1, hb, hk, ⟨hh, ht⟩, hd, hg, hw, hwm, hin⟩ := id h
  obtain ⟨r128, rH, rD, r138, rG, rM⟩ := id h1
  refine sg_wr 2 rfl ?_
  refine sg_n_callV rfl rfl rfl r128 rfl (Nat.le_of_ble_eq_true rfl) (Nat.le_of_ble_eq_true rfl) (rt_needBranch h1 x) (fun hx => ?_) (fun _ E hE => Or.inl ⟨⟨E, hE, rfl⟩, rfl, rfl, rfl⟩)
  refine sg_wr 2 rfl ?_
  refine sg_n_callV rfl rfl rfl r128 rfl (Nat.le_of_ble_eq_true rfl) (Nat.le_of_ble_eq_true rfl) (rt_needReadyFor h1 x) (fun hr => ?_) (fun _ E hE => Or.inl ⟨⟨E, hE, rfl⟩, rfl, rfl, rfl⟩)
  obtain ⟨hw0, hp⟩ := rdy_pl h hr.1
  refine sg_wr 1 rfl ?_
  refine sg_r_getf rfl r128 rfl ?_
  refine sg_wr 1 rfl ?_
  refine sg_p_callV rfl rfl rfl r128 rfl (Nat.le_of_ble_eq_true rfl) (Nat.le_of_ble_eq_true rfl) (rt_headCommit h1) ?_
  have ga := (hs_get rH (rt_hc tp R)).1
  have gb := (hs_get rH (rt_co tp x)).1
  have hat := hs_at (Ls := Ls) (xs := xs) rH (rt_hc tp R)
  have hdc := cm_desc (Ls := Ls) (xs := xs) (hs_get rH (rt_hc tp R)) (rt_co tp x)
  generalize hs_D n K (rt_hc tp R) = ka at ga hat hdc
  refine sg_p_callV rfl rfl rfl rH.1 rfl (Nat.le_of_ble_eq_true rfl) (Nat.le_of_ble_eq_true rfl) hat ?_
  refine sg_wr 2 rfl ?_
  refine sg_r_getf rfl r128 rfl ?_
  refine sg_wr 2 rfl ?_
  refine sg_p_callV rfl rfl rfl r128 rfl (Nat.le_of_ble_eq_true rfl) (Nat.le_of_ble_eq_true rfl) (rt_commitOf h1 x) ?_
  have hbt := hs_at (Ls := Ls) (xs := xs) rH (rt_co tp x)
  generalize hs_D n K (rt_co tp x) = kb at gb hbt
  refine sg_p_callV rfl rfl rfl rH.1 rfl (Nat.le_of_ble_eq_true rfl) (Nat.le_of_ble_eq_true rfl) hbt ?_
  show wpa Ls xs 70 34 [(0, .ref 128), (1, .int x), (2, .ref (hs_q ka))] [.ref (hs_q kb)] M _
  refine sg_wr 4 rfl ?_
  refine sg_p_callV rfl rfl rfl r128 rfl (Nat.le_of_ble_eq_true rfl) (Nat.le_of_ble_eq_true rfl) (rt_commitOf h1 x) ?_
  refine sg_r_callV rfl rfl rfl ga rfl (Nat.le_of_ble_eq_true rfl) (Nat.le_of_ble_eq_true rfl) hdc ?_
  rintro _ M _ _ ⟨⟨v, rfl, hv⟩, rfl, rfl, rfl⟩
  refine sg_a0 ?_
  refine sg_wb rfl rfl (fun _ => ?_) (fun _ => ?_)
  rotate_left
  · refine mu_of ?_
    refine sg_wr 1 rfl ?_
    exact sg_we rfl rfl ⟨⟨_, rfl⟩, n, iv_pl hp hh hg hw0 hwm, by omega, by omega⟩
  refine sg_wr 1 rfl ?_
  refine sg_r_getf rfl r128 rfl ?_
  refine sg_wr 1 rfl ?_
  refine sg_r_getf rfl ga rfl ?_
  refine sg_wr 1 rfl ?_
  refine sg_r_getf rfl gb rfl ?_
  refine sg_wr 3 rfl ?_
  refine sg_r_callV rfl rfl rfl rH.1 rfl (Nat.le_of_ble_eq_true rfl) (Nat.le_of_ble_eq_true rfl) (hs_wm rH _) ?_
  rintro _ M _ _ ⟨⟨q, rfl⟩, rfl, rfl, rfl⟩
  refine sg_a0 ?_
  refine sg_wr 3 rfl ?_
  refine sg_p_callS rfl rfl rfl rfl (Nat.le_of_ble_eq_true rfl) (Nat.le_of_ble_eq_true rfl) (jd_bit q) ?_
  refine sg_n_callV rfl rfl rfl r128 rfl (Nat.le_of_ble_eq_true rfl) (Nat.le_of_ble_eq_true rfl) (rt_needRoom h1 _) (fun _ => ?_) (fun _ E hE => Or.inl ⟨⟨E, hE, rfl⟩, rfl, rfl, rfl⟩)
  exact mu_of (rp_80 h x hx hw0 _ _ q)
theorem ok_su (h : rt_ok M R n g K tp ds dc G) (su : Int64) : rt_ok (sg_up M.1 128 (.inr (5, rt_fs (rt_mk R.hd su R.wk R.ws R.wc R.wq R.wm))), M.2) (rt_mk R.hd su R.wk R.ws R.wc R.wq R.wm) n g K tp ds dc G := by
  obtain ⟨h1, hb, hk, ⟨hh, ht⟩, hd, hg, hw, hwm, hin⟩ := id h
  obtain ⟨r128, rH, rD, r138, rG, rM⟩ := id h1
  exact ⟨h1.r _, hb, hk, ⟨hh, ht⟩, hd, hg, hw, hwm, fun z => by
    obtain ⟨i1, i2⟩ := hin z
    exact ⟨i1.r h1, i2⟩⟩
theorem rt_seek (h : rt_ok M R n g K tp ds dc G) (x y : Int32) : wpm Ls xs 98 [.ref 128, .int x, .int y] M (mu M n) := by
  obtain ⟨h1, hb, hk, ⟨hh, ht⟩, hd, hg, hw, hwm, hin⟩ := id h
  obtain ⟨r128, rH, rD, r138, rG, rM⟩ := id h1
  refine sg_wr 3 rfl ?_
  refine sg_n_callV rfl rfl rfl r128 rfl (Nat.le_of_ble_eq_true rfl) (Nat.le_of_ble_eq_true rfl) (rt_needBoth h1 x y) (fun hx => ?_) (fun _ E hE => Or.inl ⟨⟨E, hE, rfl⟩, rfl, rfl, rfl⟩)
  refine sg_wr 1 rfl ?_
  refine sg_r_getf rfl r128 rfl ?_
  refine sg_wr 1 rfl ?_
  refine sg_p_callV rfl rfl rfl rH.1 rfl (Nat.le_of_ble_eq_true rfl) (Nat.le_of_ble_eq_true rfl) (hs_at rH x) ?_
  refine sg_wr 3 rfl ?_
  refine sg_r_callV rfl rfl rfl (hs_get rH _).1 rfl (Nat.le_of_ble_eq_true rfl) (Nat.le_of_ble_eq_true rfl) (cm_desc (hs_get rH x) y) ?_
  rintro _ M _ _ ⟨⟨v, rfl, hv⟩, rfl, rfl, rfl⟩
  refine sg_a0 ?_
  refine sg_wb rfl rfl (fun _ => ?_) (fun _ => ?_)
  rotate_left
  · exact sg_r_thr rfl (Nat.le_of_ble_eq_true rfl) (Or.inl ⟨⟨_, by decide, rfl⟩, rfl, rfl, rfl⟩)
  refine mu_of ?_
  refine sg_wr 2 rfl ?_
  refine sg_r_getf rfl r128 rfl ?_
  refine sg_wr 1 rfl ?_
  refine sg_p_callV rfl rfl rfl rH.1 rfl (Nat.le_of_ble_eq_true rfl) (Nat.le_of_ble_eq_true rfl) (hs_at rH y) ?_
  refine sg_r_getf rfl (hs_get rH y).1 rfl ?_
  refine sg_wr 1 rfl ?_
  refine sg_r_getf rfl (hs_get rH x).1 rfl ?_
  refine sg_wr 3 rfl ?_
  refine sg_r_putf rfl r128 (Nat.le_of_ble_eq_true rfl) rfl ?_
  have h2 := ok_su h (hs_a (hs_D n K y) &&& (hs_a (hs_D n K x) ^^^ (-1)))
  refine sg_wr 1 rfl ?_
  refine sg_r_getf rfl h2.1.1 rfl ?_
  refine sg_p_callS rfl rfl rfl rfl (Nat.le_of_ble_eq_true rfl) (Nat.le_of_ble_eq_true rfl) (jd_bit _) ?_
  exact sg_we rfl rfl ⟨⟨_, rfl⟩, n, ⟨_, g, K, tp, ds, dc, G, h2⟩, by omega, by omega⟩
theorem rt_tell (h : rt_ok M R n g K tp ds dc G) (x : Int32) : wpm Ls xs 100 [.ref 128, .int x] M (mu M n) := by
  obtain ⟨h1, hb, hk, ⟨hh, ht⟩, hd, hg, hw, hwm, hin⟩ := id h
  obtain ⟨r128, rH, rD, r138, rG, rM⟩ := id h1
  refine sg_wr 1 rfl ?_
  refine sg_p_callV rfl rfl rfl r128 rfl (Nat.le_of_ble_eq_true rfl) (Nat.le_of_ble_eq_true rfl) (rt_probe h1) ?_
  refine sg_wr 3 rfl ?_
  refine sg_wb rfl rfl (fun _ => ?_) (fun _ => ?_)
  rotate_left
  · exact sg_r_thr rfl (Nat.le_of_ble_eq_true rfl) (Or.inl ⟨⟨_, by decide, rfl⟩, rfl, rfl, rfl⟩)
  refine mu_of ?_
  refine sg_wr 1 rfl ?_
  refine sg_r_getf rfl r128 rfl ?_
  refine sg_wr 1 rfl ?_
  refine sg_p_callV rfl rfl rfl rH.1 rfl (Nat.le_of_ble_eq_true rfl) (Nat.le_of_ble_eq_true rfl) (hs_at rH _) ?_
  refine sg_r_getf rfl (hs_get rH _).1 rfl ?_
  have fin : ∀ (su : Int64) (M2 : sg_M) (L : sg_L), M2 = (sg_up M.1 128 (.inr (5, rt_fs (rt_mk R.hd su R.wk R.ws R.wc R.wq R.wm))), M.2) → sg_at L 0 = some (.ref 128) → wpa Ls xs 100 60 L [] M2 (iq n) := by
    rintro su M2 L rfl hL
    have h2 := ok_su h su
    refine sg_w0 rfl (show sg_aload 60 1 0 L [] _ = some (.inl (61, L, [.ref 128], _, 0, 0)) from by unfold sg_aload; rw [hL]; rfl) ?_
    refine sg_r_getf rfl h2.1.1 rfl ?_
    refine sg_p_callS rfl rfl rfl rfl (Nat.le_of_ble_eq_true rfl) (Nat.le_of_ble_eq_true rfl) (jd_bit _) ?_
    exact sg_we rfl rfl ⟨⟨_, rfl⟩, n, ⟨_, g, K, tp, ds, dc, G, h2⟩, by omega, by omega⟩
  refine sg_wr 3 rfl ?_
  refine sg_wb rfl rfl (fun _ => ?_) (fun _ => ?_)
  · refine sg_wr 1 rfl ?_
    refine sg_r_getf rfl r128 rfl ?_
    refine sg_wr 4 rfl ?_
    refine sg_r_putf rfl r128 (Nat.le_of_ble_eq_true rfl) rfl ?_
    exact fin (R.su &&& (hs_a (hs_D n K (pb_v n K R.su)) ^^^ (-1))) _ _ rfl rfl
  · refine sg_wr 1 rfl ?_
    refine sg_r_getf rfl r128 rfl ?_
    refine sg_wr 3 rfl ?_
    refine sg_r_putf rfl r128 (Nat.le_of_ble_eq_true rfl) rfl ?_
    exact fin (R.su &&& hs_a (hs_D n K (pb_v n K R.su))) _ _ rfl rfl
end
end SGMU
