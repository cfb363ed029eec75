section SGDK
section
variable {Ls : Nat} {xs : Nat → Int32} {M : sg_M} {R : rt_R} {n : Nat} {g : Int64} {K : Nat → hs_K} {tp ds dc : Nat → Int32} {G : mg_C}

theorem ok_wk0 (h : rt_ok M R n g K tp ds dc G) (h0 : nI R.wk = 0) : R.wk = 0 := (rt_wk_n h (k := 0) (by decide)).mp h0
/-- the desk is other, no work being pending -/
theorem ok_desk (h : rt_ok M R n g K tp ds dc G) (h0 : nI R.wk = 0) {gs gc : Nat → Int32} (ht : tr_ti gs) : iv (tr_st M 130 131 gs gc) n := by
  have hw0 := ok_wk0 h h0
  obtain ⟨h1, hb, hk, hh, hd, hg, hw, hwm, hin⟩ := h
  exact ⟨R, g, K, tp, gs, gc, G, h1.d gs gc, hb, hk, hh, ht, hg, hw, hwm, fun z => absurd hw0 z⟩
theorem rt_fileCount (h : rt_ok M R n g K tp ds dc G) (h0 : nI R.wk = 0) {gs gc : Nat → Int32} : wpm Ls xs 5 [.ref 129] (tr_st M 130 131 gs gc) (sg_ai (tr_st M 130 131 gs gc)) := tr_fileCount (h.1.d gs gc).2.2.1
theorem rt_create (h : rt_ok M R n g K tp ds dc G) (x : Int32) : wpm Ls xs 55 [.ref 128, .int x] M (mu M n) := by
  obtain ⟨h1, hb, hk, ⟨hh, ht⟩, hd, hg, hw, hwm, hin⟩ := id h
  obtain ⟨r128, rH, rD, r138, rG, rM⟩ := id h1
  refine sg_wr 1 rfl ?_
  refine sg_n_callS rfl rfl rfl rfl (Nat.le_of_ble_eq_true rfl) (Nat.le_of_ble_eq_true rfl) (rt_needFile x) (fun _ => ?_) (fun _ E hE => Or.inl ⟨⟨E, hE, rfl⟩, rfl, rfl, rfl⟩)
  refine sg_wr 1 rfl ?_
  refine sg_n_callV rfl rfl rfl r128 rfl (Nat.le_of_ble_eq_true rfl) (Nat.le_of_ble_eq_true rfl) (rt_needNoWork h1) (fun h0 => ?_) (fun _ E hE => Or.inl ⟨⟨E, hE, rfl⟩, rfl, rfl, rfl⟩)
  refine sg_wr 1 rfl ?_
  refine sg_r_getf rfl r128 rfl ?_
  refine sg_wr 1 rfl ?_
  refine sg_p_callV rfl rfl rfl rD.1 rfl (Nat.le_of_ble_eq_true rfl) (Nat.le_of_ble_eq_true rfl) (tr_has rD x) ?_
  refine sg_wb rfl rfl (fun _ => ?_) (fun _ => ?_)
  rotate_left
  · exact sg_r_thr rfl (Nat.le_of_ble_eq_true rfl) (Or.inl ⟨⟨_, by decide, rfl⟩, rfl, rfl, rfl⟩)
  refine mu_of ?_
  refine sg_wr 1 rfl ?_
  refine sg_r_getf rfl r128 rfl ?_
  refine sg_wr 1 rfl ?_
  refine sg_p_callV rfl rfl rfl rD.1 rfl (Nat.le_of_ble_eq_true rfl) (Nat.le_of_ble_eq_true rfl) (tr_putFile rD x) ?_
  have hi := ok_desk h h0 (gs := tr_pf ds x) (gc := dc) (tr_pf_ti hd)
  have h2 := h1.d (tr_pf ds x) dc
  refine sg_wr 1 rfl ?_
  refine sg_r_getf rfl h2.1 rfl ?_
  refine sg_r_callV rfl rfl rfl h2.2.2.1.1 rfl (Nat.le_of_ble_eq_true rfl) (Nat.le_of_ble_eq_true rfl) (tr_fileCount h2.2.2.1) ?_
  rintro _ _ _ _ ⟨⟨v, rfl⟩, rfl, rfl, rfl⟩
  refine sg_a0 ?_
  exact sg_we rfl rfl ⟨⟨_, rfl⟩, n, hi, by omega, by omega⟩
theorem rt_delete (h : rt_ok M R n g K tp ds dc G) (x : Int32) : wpm Ls xs 56 [.ref 128, .int x] M (mu M n) := by
  obtain ⟨h1, hb, hk, ⟨hh, ht⟩, hd, hg, hw, hwm, hin⟩ := id h
  obtain ⟨r128, rH, rD, r138, rG, rM⟩ := id h1
  refine sg_wr 1 rfl ?_
  refine sg_n_callS rfl rfl rfl rfl (Nat.le_of_ble_eq_true rfl) (Nat.le_of_ble_eq_true rfl) (rt_needFile x) (fun _ => ?_) (fun _ E hE => Or.inl ⟨⟨E, hE, rfl⟩, rfl, rfl, rfl⟩)
  refine sg_wr 1 rfl ?_
  refine sg_n_callV rfl rfl rfl r128 rfl (Nat.le_of_ble_eq_true rfl) (Nat.le_of_ble_eq_true rfl) (rt_needNoWork h1) (fun h0 => ?_) (fun _ E hE => Or.inl ⟨⟨E, hE, rfl⟩, rfl, rfl, rfl⟩)
  refine sg_wr 1 rfl ?_
  refine sg_r_getf rfl r128 rfl ?_
  refine sg_wr 1 rfl ?_
  refine sg_p_callV rfl rfl rfl rD.1 rfl (Nat.le_of_ble_eq_true rfl) (Nat.le_of_ble_eq_true rfl) (tr_sizeOf rD x) ?_
  refine sg_wr 2 rfl ?_
  refine sg_wb rfl rfl (fun _ => ?_) (fun _ => ?_)
  rotate_left
  · exact sg_r_thr rfl (Nat.le_of_ble_eq_true rfl) (Or.inl ⟨⟨_, by decide, rfl⟩, rfl, rfl, rfl⟩)
  refine mu_of ?_
  refine sg_wr 1 rfl ?_
  refine sg_r_getf rfl r128 rfl ?_
  refine sg_wr 1 rfl ?_
  refine sg_r_callV rfl rfl rfl rD.1 rfl (Nat.le_of_ble_eq_true rfl) (Nat.le_of_ble_eq_true rfl) (tr_takeFile rD x) ?_
  rintro _ _ _ _ ⟨rfl, ⟨gs, gc, rfl, hti⟩, rfl, rfl⟩
  refine sg_a0 ?_
  refine sg_wr 1 rfl ?_
  exact sg_we rfl rfl ⟨⟨_, rfl⟩, n, ok_desk h h0 (hti hd), by omega, by omega⟩
theorem rt_insert (h : rt_ok M R n g K tp ds dc G) (x y z : Int32) : wpm Ls xs 57 [.ref 128, .int x, .int y, .int z] M (mu M n) := by
  obtain ⟨h1, hb, hk, ⟨hh, ht⟩, hd, hg, hw, hwm, hin⟩ := id h
  obtain ⟨r128, rH, rD, r138, rG, rM⟩ := id h1
  refine sg_wr 1 rfl ?_
  refine sg_n_callS rfl rfl rfl rfl (Nat.le_of_ble_eq_true rfl) (Nat.le_of_ble_eq_true rfl) (rt_needFile x) (fun _ => ?_) (fun _ E hE => Or.inl ⟨⟨E, hE, rfl⟩, rfl, rfl, rfl⟩)
  refine sg_wr 1 rfl ?_
  refine sg_n_callS rfl rfl rfl rfl (Nat.le_of_ble_eq_true rfl) (Nat.le_of_ble_eq_true rfl) (rt_needNumber z) (fun _ => ?_) (fun _ E hE => Or.inl ⟨⟨E, hE, rfl⟩, rfl, rfl, rfl⟩)
  refine sg_wr 1 rfl ?_
  refine sg_n_callV rfl rfl rfl r128 rfl (Nat.le_of_ble_eq_true rfl) (Nat.le_of_ble_eq_true rfl) (rt_needNoWork h1) (fun h0 => ?_) (fun _ E hE => Or.inl ⟨⟨E, hE, rfl⟩, rfl, rfl, rfl⟩)
  refine sg_wr 1 rfl ?_
  refine sg_r_getf rfl r128 rfl ?_
  refine sg_wr 1 rfl ?_
  refine sg_p_callV rfl rfl rfl rD.1 rfl (Nat.le_of_ble_eq_true rfl) (Nat.le_of_ble_eq_true rfl) (tr_sizeOf rD x) ?_
  have k44 : wpa Ls xs 57 44 [(0, .ref 128), (1, .int x), (2, .int y), (3, .int z), (4, .int (tr_size ds x))] [] M (mu M n) := by
    exact sg_r_thr rfl (Nat.le_of_ble_eq_true rfl) (Or.inl ⟨⟨_, by decide, rfl⟩, rfl, rfl, rfl⟩)
  refine sg_wr 2 rfl ?_
  refine sg_wb rfl rfl (fun _ => k44) (fun _ => ?_)
  refine sg_wr 2 rfl ?_
  refine sg_wb rfl rfl (fun _ => k44) (fun _ => ?_)
  refine sg_wr 1 rfl ?_
  refine sg_wb rfl rfl (fun _ => k44) (fun _ => ?_)
  refine sg_wr 2 rfl ?_
  refine sg_wb rfl rfl (fun _ => ?_) (fun _ => k44)
  refine mu_of ?_
  refine sg_wr 1 rfl ?_
  refine sg_r_getf rfl r128 rfl ?_
  refine sg_wr 3 rfl ?_
  refine sg_r_callV rfl rfl rfl rD.1 rfl (Nat.le_of_ble_eq_true rfl) (Nat.le_of_ble_eq_true rfl) (tr_putLine rD x y z) ?_
  rintro _ _ _ _ ⟨rfl, ⟨gs, gc, rfl, hti⟩, rfl, rfl⟩
  refine sg_a0 ?_
  refine sg_wr 3 rfl ?_
  exact sg_we rfl rfl ⟨⟨_, rfl⟩, n, ok_desk h h0 (hti hd), by omega, by omega⟩
theorem rt_erase (h : rt_ok M R n g K tp ds dc G) (x y : Int32) : wpm Ls xs 58 [.ref 128, .int x, .int y] M (mu M n) := by
  obtain ⟨h1, hb, hk, ⟨hh, ht⟩, hd, hg, hw, hwm, hin⟩ := id h
  obtain ⟨r128, rH, rD, r138, rG, rM⟩ := id h1
  refine sg_wr 1 rfl ?_
  refine sg_n_callS rfl rfl rfl rfl (Nat.le_of_ble_eq_true rfl) (Nat.le_of_ble_eq_true rfl) (rt_needFile x) (fun _ => ?_) (fun _ E hE => Or.inl ⟨⟨E, hE, rfl⟩, rfl, rfl, rfl⟩)
  refine sg_wr 1 rfl ?_
  refine sg_n_callV rfl rfl rfl r128 rfl (Nat.le_of_ble_eq_true rfl) (Nat.le_of_ble_eq_true rfl) (rt_needNoWork h1) (fun h0 => ?_) (fun _ E hE => Or.inl ⟨⟨E, hE, rfl⟩, rfl, rfl, rfl⟩)
  refine sg_wr 3 rfl ?_
  refine sg_n_callV rfl rfl rfl r128 rfl (Nat.le_of_ble_eq_true rfl) (Nat.le_of_ble_eq_true rfl) (rt_needDesk h1 x y) (fun _ => ?_) (fun _ E hE => Or.inl ⟨⟨E, hE, rfl⟩, rfl, rfl, rfl⟩)
  refine mu_of ?_
  refine sg_wr 1 rfl ?_
  refine sg_r_getf rfl r128 rfl ?_
  refine sg_wr 2 rfl ?_
  refine sg_p_callV rfl rfl rfl rD.1 rfl (Nat.le_of_ble_eq_true rfl) (Nat.le_of_ble_eq_true rfl) (tr_lineOf rD x y) ?_
  refine sg_wr 2 rfl ?_
  refine sg_r_getf rfl r128 rfl ?_
  refine sg_wr 2 rfl ?_
  refine sg_r_callV rfl rfl rfl rD.1 rfl (Nat.le_of_ble_eq_true rfl) (Nat.le_of_ble_eq_true rfl) (tr_takeLine rD x y) ?_
  rintro _ _ _ _ ⟨rfl, ⟨gs, gc, rfl, hti⟩, rfl, rfl⟩
  refine sg_a0 ?_
  refine sg_wr 1 rfl ?_
  exact sg_we rfl rfl ⟨⟨_, rfl⟩, n, ok_desk h h0 (hti hd), by omega, by omega⟩
theorem rt_replace (h : rt_ok M R n g K tp ds dc G) (x y z : Int32) : wpm Ls xs 59 [.ref 128, .int x, .int y, .int z] M (mu M n) := by
  obtain ⟨h1, hb, hk, ⟨hh, ht⟩, hd, hg, hw, hwm, hin⟩ := id h
  obtain ⟨r128, rH, rD, r138, rG, rM⟩ := id h1
  refine sg_wr 1 rfl ?_
  refine sg_n_callS rfl rfl rfl rfl (Nat.le_of_ble_eq_true rfl) (Nat.le_of_ble_eq_true rfl) (rt_needFile x) (fun _ => ?_) (fun _ E hE => Or.inl ⟨⟨E, hE, rfl⟩, rfl, rfl, rfl⟩)
  refine sg_wr 1 rfl ?_
  refine sg_n_callS rfl rfl rfl rfl (Nat.le_of_ble_eq_true rfl) (Nat.le_of_ble_eq_true rfl) (rt_needNumber z) (fun _ => ?_) (fun _ E hE => Or.inl ⟨⟨E, hE, rfl⟩, rfl, rfl, rfl⟩)
  refine sg_wr 1 rfl ?_
  refine sg_n_callV rfl rfl rfl r128 rfl (Nat.le_of_ble_eq_true rfl) (Nat.le_of_ble_eq_true rfl) (rt_needNoWork h1) (fun h0 => ?_) (fun _ E hE => Or.inl ⟨⟨E, hE, rfl⟩, rfl, rfl, rfl⟩)
  refine sg_wr 3 rfl ?_
  refine sg_n_callV rfl rfl rfl r128 rfl (Nat.le_of_ble_eq_true rfl) (Nat.le_of_ble_eq_true rfl) (rt_needDesk h1 x y) (fun _ => ?_) (fun _ E hE => Or.inl ⟨⟨E, hE, rfl⟩, rfl, rfl, rfl⟩)
  refine mu_of ?_
  refine sg_wr 1 rfl ?_
  refine sg_r_getf rfl r128 rfl ?_
  refine sg_wr 2 rfl ?_
  refine sg_p_callV rfl rfl rfl rD.1 rfl (Nat.le_of_ble_eq_true rfl) (Nat.le_of_ble_eq_true rfl) (tr_lineOf rD x y) ?_
  refine sg_wr 2 rfl ?_
  refine sg_r_getf rfl r128 rfl ?_
  refine sg_wr 3 rfl ?_
  refine sg_r_callV rfl rfl rfl rD.1 rfl (Nat.le_of_ble_eq_true rfl) (Nat.le_of_ble_eq_true rfl) (tr_setLine rD x y z) ?_
  rintro _ _ _ _ ⟨rfl, ⟨gs, gc, rfl, hti⟩, rfl, rfl⟩
  refine sg_a0 ?_
  refine sg_wr 1 rfl ?_
  exact sg_we rfl rfl ⟨⟨_, rfl⟩, n, ok_desk h h0 (hti hd), by omega, by omega⟩
theorem rt_discard (h : rt_ok M R n g K tp ds dc G) : wpm Ls xs 60 [.ref 128] M (mu M n) := by
  obtain ⟨h1, hb, hk, ⟨hh, ht⟩, hd, hg, hw, hwm, hin⟩ := id h
  obtain ⟨r128, rH, rD, r138, rG, rM⟩ := id h1
  refine sg_wr 1 rfl ?_
  refine sg_n_callV rfl rfl rfl r128 rfl (Nat.le_of_ble_eq_true rfl) (Nat.le_of_ble_eq_true rfl) (rt_needNoWork h1) (fun h0 => ?_) (fun _ E hE => Or.inl ⟨⟨E, hE, rfl⟩, rfl, rfl, rfl⟩)
  refine mu_of ?_
  refine sg_wr 2 rfl ?_
  refine sg_p_callV rfl rfl rfl r128 rfl (Nat.le_of_ble_eq_true rfl) (Nat.le_of_ble_eq_true rfl) (rt_headCommit h1) ?_
  refine sg_p_callV rfl rfl rfl r128 rfl (Nat.le_of_ble_eq_true rfl) (Nat.le_of_ble_eq_true rfl) (rt_treeOf h1 _) ?_
  refine sg_wr 2 rfl ?_
  refine sg_r_getf rfl r128 rfl ?_
  refine sg_wr 1 rfl ?_
  refine sg_r_callV rfl rfl rfl rD.1 rfl (Nat.le_of_ble_eq_true rfl) (Nat.le_of_ble_eq_true rfl) (tr_othersThan rD (hs_get rH _).2) ?_
  rintro _ M _ _ ⟨⟨v, rfl, -⟩, rfl, rfl, rfl⟩
  refine sg_a0 ?_
  refine sg_wr 2 rfl ?_
  refine sg_r_getf rfl r128 rfl ?_
  refine sg_wr 1 rfl ?_
  refine sg_p_callV rfl rfl rfl rD.1 rfl (Nat.le_of_ble_eq_true rfl) (Nat.le_of_ble_eq_true rfl) (tr_become rD (hs_get rH _).2) ?_
  refine sg_wr 1 rfl ?_
  exact sg_we rfl rfl ⟨⟨_, rfl⟩, n, ok_desk h h0 (tr_ti_cpy (kd_ti hk _)), by omega, by omega⟩
theorem rt_commit (h : rt_ok M R n g K tp ds dc G) (x : Int32) : wpm Ls xs 61 [.ref 128, .int x] M (mu M n) := by
  obtain ⟨h1, hb, hk, ⟨hh, ht⟩, hd, hg, hw, hwm, hin⟩ := id h
  obtain ⟨r128, rH, rD, r138, rG, rM⟩ := id h1
  have hz := rH.2.2.2.2.1
  refine sg_wr 1 rfl ?_
  refine sg_n_callS rfl rfl rfl rfl (Nat.le_of_ble_eq_true rfl) (Nat.le_of_ble_eq_true rfl) (rt_needNumber x) (fun _ => ?_) (fun _ E hE => Or.inl ⟨⟨E, hE, rfl⟩, rfl, rfl, rfl⟩)
  refine sg_wr 1 rfl ?_
  refine sg_n_callV rfl rfl rfl r128 rfl (Nat.le_of_ble_eq_true rfl) (Nat.le_of_ble_eq_true rfl) (rt_needNoWork h1) (fun h0 => ?_) (fun _ E hE => Or.inl ⟨⟨E, hE, rfl⟩, rfl, rfl, rfl⟩)
  have hw0 := ok_wk0 h h0
  refine sg_wr 2 rfl ?_
  refine sg_n_callV rfl rfl rfl r128 rfl (Nat.le_of_ble_eq_true rfl) (Nat.le_of_ble_eq_true rfl) (rt_needRoom h1 _) (fun _ => ?_) (fun _ E hE => Or.inl ⟨⟨E, hE, rfl⟩, rfl, rfl, rfl⟩)
  refine sg_wr 1 rfl ?_
  refine sg_r_callV rfl rfl rfl r128 rfl (Nat.le_of_ble_eq_true rfl) (Nat.le_of_ble_eq_true rfl) (rt_isClean h1) ?_
  rintro _ M _ _ ⟨⟨v, rfl, hv⟩, rfl, rfl, rfl⟩
  refine sg_a0 ?_
  refine sg_wb rfl rfl (fun _ => ?_) (fun _ => ?_)
  rotate_left
  · exact sg_r_thr rfl (Nat.le_of_ble_eq_true rfl) (Or.inl ⟨⟨_, by decide, rfl⟩, rfl, rfl, rfl⟩)
  refine mu_of ?_
  refine sg_wr 1 rfl ?_
  refine sg_r_getf rfl r128 rfl ?_
  refine sg_wr 1 rfl ?_
  refine sg_r_getf rfl r128 rfl ?_
  refine sg_wr 2 rfl ?_
  refine sg_p_callV rfl rfl rfl r128 rfl (Nat.le_of_ble_eq_true rfl) (Nat.le_of_ble_eq_true rfl) (rt_headCommit h1) ?_
  refine sg_wr 1 rfl ?_
  refine sg_r_callV rfl rfl rfl rH.1 rfl (Nat.le_of_ble_eq_true rfl) (Nat.le_of_ble_eq_true rfl) (hs_add rH rD (by omega) (by omega) (by omega) _ _ _) ?_
  have hc := rt_hc_kt hb hh ht
  have tip : ∀ (M1 : sg_M) (n1 : Nat) (K1 : Nat → hs_K) (v : Int32), rt_is M1 R n1 g K1 tp ds dc G → kb_ok n1 g tp → kc_ok n1 g K1 → kt_is n1 g v → wpa Ls xs 61 47 [(0, .ref 128), (1, .int x)] [.int v] M1 (iq n1) := by
    intro M1 n1 K1 v h2 hb2 hk2 hv
    have q128 := h2.1
    have hn1 := h2.2.1.2.2.2.1
    refine sg_wr 3 rfl ?_
    refine sg_r_getf rfl q128 rfl ?_
    refine sg_wr 1 rfl ?_
    refine sg_p_callV rfl rfl rfl q128 rfl (Nat.le_of_ble_eq_true rfl) (Nat.le_of_ble_eq_true rfl) (rt_setTip h2 hh v) ?_
    refine sg_wr 1 rfl ?_
    refine sg_we rfl rfl ⟨⟨_, rfl⟩, n1, ⟨R, g, K1, upd tp R.hd v, ds, dc, G, h2.t _, fun b hb8 => ?_, hk2, ⟨hh, ?_⟩, hd, hg, hw, hwm, fun z => absurd hw0 z⟩, by omega, by omega⟩
    · show (if b = R.hd then v else tp b) = -2 ∨ kt_is n1 g (if b = R.hd then v else tp b)
      by_cases z : b = R.hd
      · rw [if_pos z]; exact Or.inr hv
      · rw [if_neg z]; exact hb2 b hb8
    · show ¬ (if R.hd = R.hd then v else tp R.hd) = -2
      rw [if_pos rfl]
      rcases hv with z | ⟨j, hj, z, -⟩
      · rw [z]; decide
      · rw [z]
        exact fun y => absurd (y ▸ (by decide : (-2 : Int32) < 0)) (nI_pos (by omega))
  rintro _ M1 _ _ (⟨a1, rfl, rfl, rfl, rfl⟩ | ⟨a1, rfl, a3, a4, rfl, rfl⟩)
  · refine sg_a0 ?_
    exact tip _ n K (-1) h1 hb hk (Or.inl rfl)
  · have h2 := h1.h a3 a4
    have hk1 : kc_ok (n + 1) g (hs_up K n (hs_new M n K x (rt_hc tp R) (-1) ds dc)) := kc_add hk a1 hc (Or.inl rfl) rfl rfl rfl rfl (tr_ti_cpy hd)
    have hb1 : kb_ok (n + 1) g tp := fun b hb8 => by
      rcases hb b hb8 with z | z
      · exact Or.inl z
      · exact Or.inr (kt_add z)
    exact iq_lift (n1 := n + 1) (by omega) (by omega) (tip M1 (n + 1) _ (nI n) h2 hb1 hk1 (kt_new hk a1))
theorem rt_branch (h : rt_ok M R n g K tp ds dc G) (x : Int32) : wpm Ls xs 62 [.ref 128, .int x] M (mu M n) := by
  obtain ⟨h1, hb, hk, ⟨hh, ht⟩, hd, hg, hw, hwm, hin⟩ := id h
  obtain ⟨r128, rH, rD, r138, rG, rM⟩ := id h1
  have k10 : wpa Ls xs 62 10 [(0, .ref 128), (1, .int x)] [] M (mu M n) := by
    exact sg_r_thr rfl (Nat.le_of_ble_eq_true rfl) (Or.inl ⟨⟨_, by decide, rfl⟩, rfl, rfl, rfl⟩)
  have k42 : wpa Ls xs 62 42 [(0, .ref 128), (1, .int x)] [] M (mu M n) := by
    exact sg_r_thr rfl (Nat.le_of_ble_eq_true rfl) (Or.inl ⟨⟨_, by decide, rfl⟩, rfl, rfl, rfl⟩)
  refine sg_wr 1 rfl ?_
  refine sg_wb rfl rfl (fun _ => k10) (fun x1 => ?_)
  refine sg_wr 2 rfl ?_
  refine sg_wb rfl rfl (fun x2 => ?_) (fun _ => k10)
  refine sg_wr 1 rfl ?_
  refine sg_n_callV rfl rfl rfl r128 rfl (Nat.le_of_ble_eq_true rfl) (Nat.le_of_ble_eq_true rfl) (rt_needNoWork h1) (fun h0 => ?_) (fun _ E hE => Or.inl ⟨⟨E, hE, rfl⟩, rfl, rfl, rfl⟩)
  have hw0 := ok_wk0 h h0
  refine sg_wr 2 rfl ?_
  refine sg_p_callV rfl rfl rfl r128 rfl (Nat.le_of_ble_eq_true rfl) (Nat.le_of_ble_eq_true rfl) (rt_commitOf h1 x) ?_
  refine sg_wr 1 rfl ?_
  refine sg_wb rfl rfl (fun _ => k42) (fun x3 => ?_)
  refine sg_wr 1 rfl ?_
  refine sg_p_callV rfl rfl rfl r128 rfl (Nat.le_of_ble_eq_true rfl) (Nat.le_of_ble_eq_true rfl) (rt_headCommit h1) ?_
  refine sg_wr 1 rfl ?_
  refine sg_wb rfl rfl (fun _ => ?_) (fun _ => k42)
  refine mu_of ?_
  refine sg_wr 3 rfl ?_
  refine sg_p_callV rfl rfl rfl r128 rfl (Nat.le_of_ble_eq_true rfl) (Nat.le_of_ble_eq_true rfl) (rt_headCommit h1) ?_
  obtain ⟨j, hj, rfl⟩ := nI_of x1
  have hj8 : j < 8 := (nI_ltI (b := 8) hj (by decide)).mp x2
  refine sg_p_callV rfl rfl rfl r128 rfl (Nat.le_of_ble_eq_true rfl) (Nat.le_of_ble_eq_true rfl) (rt_setTip h1 hj8 _) ?_
  have hc := rt_hc_kt hb hh ht
  have h2 := h1.t (upd tp j (rt_hc tp R))
  refine sg_wr 1 rfl ?_
  refine sg_r_callV rfl rfl rfl h2.1 rfl (Nat.le_of_ble_eq_true rfl) (Nat.le_of_ble_eq_true rfl) (rt_branchCount h2) ?_
  rintro _ _ _ _ ⟨⟨v, rfl⟩, rfl, rfl, rfl⟩
  refine sg_a0 ?_
  refine sg_we rfl rfl ⟨⟨_, rfl⟩, n, ⟨R, g, K, upd tp j (rt_hc tp R), ds, dc, G, h2, fun b hb8 => ?_, hk, ⟨hh, ?_⟩, hd, hg, hw, hwm, fun z => absurd hw0 z⟩, by omega, by omega⟩
  · show (if b = j then rt_hc tp R else tp b) = -2 ∨ kt_is n g (if b = j then rt_hc tp R else tp b)
    by_cases z : b = j
    · rw [if_pos z]; exact Or.inr hc
    · rw [if_neg z]; exact hb b hb8
  · show ¬ (if R.hd = j then rt_hc tp R else tp R.hd) = -2
    by_cases z : R.hd = j
    · rw [if_pos z, show rt_hc tp R = tp R.hd from rt_co_n hh]
      exact ht
    · rw [if_neg z]; exact ht
theorem rt_go (h : rt_ok M R n g K tp ds dc G) (x : Int32) : wpm Ls xs 63 [.ref 128, .int x] M (mu M n) := by
  obtain ⟨h1, hb, hk, ⟨hh, ht⟩, hd, hg, hw, hwm, hin⟩ := id h
  obtain ⟨r128, rH, rD, r138, rG, rM⟩ := id h1
  refine sg_wr 2 rfl ?_
  refine sg_n_callV rfl rfl rfl r128 rfl (Nat.le_of_ble_eq_true rfl) (Nat.le_of_ble_eq_true rfl) (rt_needBranch h1 x) (fun hx => ?_) (fun _ E hE => Or.inl ⟨⟨E, hE, rfl⟩, rfl, rfl, rfl⟩)
  refine sg_wr 1 rfl ?_
  refine sg_n_callV rfl rfl rfl r128 rfl (Nat.le_of_ble_eq_true rfl) (Nat.le_of_ble_eq_true rfl) (rt_needNoWork h1) (fun h0 => ?_) (fun _ E hE => Or.inl ⟨⟨E, hE, rfl⟩, rfl, rfl, rfl⟩)
  have hw0 := ok_wk0 h h0
  refine sg_wr 1 rfl ?_
  refine sg_r_callV rfl rfl rfl r128 rfl (Nat.le_of_ble_eq_true rfl) (Nat.le_of_ble_eq_true rfl) (rt_isClean h1) ?_
  rintro _ M _ _ ⟨⟨v, rfl, hv⟩, rfl, rfl, rfl⟩
  refine sg_a0 ?_
  refine sg_wb rfl rfl (fun _ => ?_) (fun _ => ?_)
  rotate_left
  · exact sg_r_thr rfl (Nat.le_of_ble_eq_true rfl) (Or.inl ⟨⟨_, by decide, rfl⟩, rfl, rfl, rfl⟩)
  refine mu_of ?_
  obtain ⟨j, hj8, rfl, hjt⟩ : ∃ j : Nat, j < 8 ∧ x = nI j ∧ ¬ tp j = -2 := by
    unfold rt_co at hx
    by_cases c1 : x < 0
    · rw [if_pos c1] at hx
      exact absurd rfl hx
    · rw [if_neg c1] at hx
      by_cases c2 : x < 8
      · rw [if_pos c2] at hx
        obtain ⟨j, hj, rfl⟩ := nI_of c1
        rw [nI_clamp hj] at hx
        exact ⟨j, (nI_ltI (b := 8) hj (by decide)).mp c2, rfl, hx⟩
      · rw [if_neg c2] at hx
        exact absurd rfl hx
  refine sg_wr 1 rfl ?_
  refine sg_r_getf rfl r128 rfl ?_
  refine sg_wr 3 rfl ?_
  refine sg_r_putf rfl r128 (Nat.le_of_ble_eq_true rfl) rfl ?_
  have h2 := h1.r (rt_mk j R.su R.wk R.ws R.wc R.wq R.wm)
  have fin : ∀ M2 : sg_M, M2 = (sg_up M.1 128 (.inr (5, rt_fs (rt_mk j R.su R.wk R.ws R.wc R.wq R.wm))), M.2) → wpa Ls xs 63 36 [(0, .ref 128), (1, .int (nI j)), (2, .int (nI R.hd))] [] M2 (iq n) := by
    rintro M2 rfl
    obtain ⟨q128, qH, qD, -⟩ := id h2
    refine sg_wr 1 rfl ?_
    refine sg_r_getf rfl q128 rfl ?_
    refine sg_wr 2 rfl ?_
    refine sg_p_callV rfl rfl rfl q128 rfl (Nat.le_of_ble_eq_true rfl) (Nat.le_of_ble_eq_true rfl) (rt_headCommit h2) ?_
    refine sg_p_callV rfl rfl rfl q128 rfl (Nat.le_of_ble_eq_true rfl) (Nat.le_of_ble_eq_true rfl) (rt_treeOf h2 _) ?_
    refine sg_p_callV rfl rfl rfl qD.1 rfl (Nat.le_of_ble_eq_true rfl) (Nat.le_of_ble_eq_true rfl) (tr_become qD (hs_get qH _).2) ?_
    refine sg_wr 1 rfl ?_
    exact sg_we rfl rfl ⟨⟨_, rfl⟩, n, ⟨_, g, K, tp, _, _, G, h2.d _ _, hb, hk, ⟨hj8, hjt⟩, tr_ti_cpy (kd_ti hk _), hg, hw, hwm, fun z => absurd hw0 z⟩, by omega, by omega⟩
  exact fin _ rfl
theorem rt_drop (h : rt_ok M R n g K tp ds dc G) (x : Int32) : wpm Ls xs 64 [.ref 128, .int x] M (mu M n) := by
  obtain ⟨h1, hb, hk, ⟨hh, ht⟩, hd, hg, hw, hwm, hin⟩ := id h
  obtain ⟨r128, rH, rD, r138, rG, rM⟩ := id h1
  refine sg_wr 2 rfl ?_
  refine sg_n_callV rfl rfl rfl r128 rfl (Nat.le_of_ble_eq_true rfl) (Nat.le_of_ble_eq_true rfl) (rt_needBranch h1 x) (fun hx => ?_) (fun _ E hE => Or.inl ⟨⟨E, hE, rfl⟩, rfl, rfl, rfl⟩)
  refine sg_wr 1 rfl ?_
  refine sg_n_callV rfl rfl rfl r128 rfl (Nat.le_of_ble_eq_true rfl) (Nat.le_of_ble_eq_true rfl) (rt_needNoWork h1) (fun h0 => ?_) (fun _ E hE => Or.inl ⟨⟨E, hE, rfl⟩, rfl, rfl, rfl⟩)
  have hw0 := ok_wk0 h h0
  refine sg_wr 2 rfl ?_
  refine sg_r_getf rfl r128 rfl ?_
  refine sg_wb rfl rfl (fun hne => ?_) (fun _ => ?_)
  rotate_left
  · exact sg_r_thr rfl (Nat.le_of_ble_eq_true rfl) (Or.inl ⟨⟨_, by decide, rfl⟩, rfl, rfl, rfl⟩)
  refine mu_of ?_
  obtain ⟨j, hj8, rfl⟩ : ∃ j : Nat, j < 8 ∧ x = nI j := by
    unfold rt_co at hx
    by_cases c1 : x < 0
    · rw [if_pos c1] at hx
      exact absurd rfl hx
    · rw [if_neg c1] at hx
      by_cases c2 : x < 8
      · obtain ⟨j, hj, rfl⟩ := nI_of c1
        exact ⟨j, (nI_ltI (b := 8) hj (by decide)).mp c2, rfl⟩
      · rw [if_neg c2] at hx
        exact absurd rfl hx
  have hjh : ¬ R.hd = j := fun z => hne (by rw [z])
  refine sg_wr 1 rfl ?_
  refine sg_p_callV rfl rfl rfl r128 rfl (Nat.le_of_ble_eq_true rfl) (Nat.le_of_ble_eq_true rfl) (rt_reached h1) ?_
  refine sg_wr 4 rfl ?_
  refine sg_p_callV rfl rfl rfl r128 rfl (Nat.le_of_ble_eq_true rfl) (Nat.le_of_ble_eq_true rfl) (rt_setTip h1 hj8 _) ?_
  have h2 := h1.t (upd tp j (-2))
  refine sg_wr 2 rfl ?_
  refine sg_p_callV rfl rfl rfl h2.1 rfl (Nat.le_of_ble_eq_true rfl) (Nat.le_of_ble_eq_true rfl) (rt_reached h2) ?_
  refine sg_wr 3 rfl ?_
  refine sg_p_callS rfl rfl rfl rfl (Nat.le_of_ble_eq_true rfl) (Nat.le_of_ble_eq_true rfl) (jd_bit _) ?_
  refine sg_we rfl rfl ⟨⟨_, rfl⟩, n, ⟨R, g, K, upd tp j (-2), ds, dc, G, h2, fun b hb8 => ?_, hk, ⟨hh, ?_⟩, hd, hg, hw, hwm, fun z => absurd hw0 z⟩, by omega, by omega⟩
  · show (if b = j then (-2 : Int32) else tp b) = -2 ∨ kt_is n g (if b = j then (-2 : Int32) else tp b)
    by_cases z : b = j
    · rw [if_pos z]; exact Or.inl rfl
    · rw [if_neg z]; exact hb b hb8
  · show ¬ (if R.hd = j then (-2 : Int32) else tp R.hd) = -2
    rw [if_neg hjh]
    exact ht
theorem rt_reset (h : rt_ok M R n g K tp ds dc G) (x : Int32) : wpm Ls xs 65 [.ref 128, .int x] M (mu M n) := by
  obtain ⟨h1, hb, hk, ⟨hh, ht⟩, hd, hg, hw, hwm, hin⟩ := id h
  obtain ⟨r128, rH, rD, r138, rG, rM⟩ := id h1
  refine sg_wr 2 rfl ?_
  refine sg_n_callV rfl rfl rfl r128 rfl (Nat.le_of_ble_eq_true rfl) (Nat.le_of_ble_eq_true rfl) (rt_needThere h1 x) (fun hx => ?_) (fun _ E hE => Or.inl ⟨⟨E, hE, rfl⟩, rfl, rfl, rfl⟩)
  refine sg_wr 1 rfl ?_
  refine sg_n_callV rfl rfl rfl r128 rfl (Nat.le_of_ble_eq_true rfl) (Nat.le_of_ble_eq_true rfl) (rt_needNoWork h1) (fun h0 => ?_) (fun _ E hE => Or.inl ⟨⟨E, hE, rfl⟩, rfl, rfl, rfl⟩)
  have hw0 := ok_wk0 h h0
  refine mu_of ?_
  refine sg_wr 1 rfl ?_
  refine sg_p_callV rfl rfl rfl r128 rfl (Nat.le_of_ble_eq_true rfl) (Nat.le_of_ble_eq_true rfl) (rt_headCommit h1) ?_
  refine sg_wr 3 rfl ?_
  refine sg_r_callV rfl rfl rfl r128 rfl (Nat.le_of_ble_eq_true rfl) (Nat.le_of_ble_eq_true rfl) (rt_moveHead h1 hb hk hh (hs_kt rH.2.2.2.1 hx)) ?_
  rintro _ M3 _ _ ⟨rfl, q, rfl, rfl⟩
  refine sg_a0 ?_
  refine sg_wr 1 rfl ?_
  exact sg_we rfl rfl ⟨⟨_, rfl⟩, n, iv_pl q hh hg hw0 hwm, by omega, by omega⟩
theorem rt_sweep (h : rt_ok M R n g K tp ds dc G) : wpm Ls xs 66 [.ref 128] M (mu M n) := by
  obtain ⟨h1, hb, hk, ⟨hh, ht⟩, hd, hg, hw, hwm, hin⟩ := id h
  obtain ⟨r128, rH, rD, r138, rG, rM⟩ := id h1
  refine sg_wr 1 rfl ?_
  refine sg_n_callV rfl rfl rfl r128 rfl (Nat.le_of_ble_eq_true rfl) (Nat.le_of_ble_eq_true rfl) (rt_needNoWork h1) (fun h0 => ?_) (fun _ E hE => Or.inl ⟨⟨E, hE, rfl⟩, rfl, rfl, rfl⟩)
  have hw0 := ok_wk0 h h0
  refine mu_of ?_
  refine sg_wr 2 rfl ?_
  refine sg_r_putf rfl r128 (Nat.le_of_ble_eq_true rfl) rfl ?_
  have h2 := h1.r (rt_mk R.hd 0 R.wk R.ws R.wc R.wq R.wm)
  have fin : ∀ M2 : sg_M, M2 = (sg_up M.1 128 (.inr (5, rt_fs (rt_mk R.hd 0 R.wk R.ws R.wc R.wq R.wm))), M.2) → wpa Ls xs 66 9 [(0, .ref 128)] [] M2 (iq n) := by
    rintro M2 rfl
    obtain ⟨q128, qH, qD, -⟩ := id h2
    have hn := qH.2.2.2.1
    have hsw := kc_sweep hk hn hb (rt_or_kr hn hb)
    have h3 := h2.h (hs_gone (g1 := g ||| hs_lost n g (rt_or n K tp 8)) qH) (k := 0) ⟨fun q _ hq => sg_upne (fun z => hq (by rw [z]; decide)), rfl⟩
    refine sg_wr 1 rfl ?_
    refine sg_r_getf rfl q128 rfl ?_
    refine sg_wr 1 rfl ?_
    refine sg_p_callV rfl rfl rfl q128 rfl (Nat.le_of_ble_eq_true rfl) (Nat.le_of_ble_eq_true rfl) (rt_reached h2) ?_
    refine sg_p_callV rfl rfl rfl qH.1 rfl (Nat.le_of_ble_eq_true rfl) (Nat.le_of_ble_eq_true rfl) (hs_keepOnly qH _) ?_
    exact sg_we rfl rfl ⟨⟨_, rfl⟩, n, ⟨_, _, K, tp, ds, dc, G, h3, hsw.2, hsw.1, ⟨hh, ht⟩, hd, hg, hw, hwm, fun z => absurd hw0 z⟩, by omega, by omega⟩
  exact fin _ rfl
end
end SGDK
