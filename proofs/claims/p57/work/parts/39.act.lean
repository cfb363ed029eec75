section SGA1
section
variable {Ls : Nat} {xs : Nat → Int32} {M : sg_M} {R : rt_R} {n : Nat} {g : Int64} {K : Nat → hs_K} {tp ds dc : Nat → Int32} {G : mg_C}


theorem ac_196 (hi : iv M n) (x : Int32) {f : Nat} (hf : f < 3) (b c : Nat) : wpa Ls xs 143 196 [(0, .ref 128), (1, .int x), (2, .int (nI f)), (3, .int (nI b)), (4, .int (nI c))] [] M (aq n) := by
  obtain ⟨R, g, K, tp, ds, dc, G, h⟩ := id hi
  obtain ⟨h1, hb, hk, ⟨hh, ht⟩, hd, hg, hw, hwm, hin⟩ := id h
  obtain ⟨r128, rH, rD, r138, rG, rM⟩ := id h1
  have hf8 : ¬ nI f < 0 ∧ nI f < 8 := ⟨nI_pos (by omega), nI_lt (b := 8) (by omega) (by decide)⟩
  refine sg_wr 2 rfl ?_
  refine act_m rfl rfl rfl r128 rfl (Nat.le_of_ble_eq_true rfl) (Nat.le_of_ble_eq_true rfl) (rt_create h _) hi ⟨rfl, rfl, rfl⟩ (fun v M1 n1 hi1 => ?_)
  refine sg_wr 3 rfl ?_
  exact sg_we rfl rfl ⟨rfl, _, hi1, by omega, by omega⟩
theorem ac_205 (hi : iv M n) (x : Int32) {f : Nat} (hf : f < 3) (b c : Nat) : wpa Ls xs 143 205 [(0, .ref 128), (1, .int x), (2, .int (nI f)), (3, .int (nI b)), (4, .int (nI c))] [] M (aq n) := by
  obtain ⟨R, g, K, tp, ds, dc, G, h⟩ := id hi
  obtain ⟨h1, hb, hk, ⟨hh, ht⟩, hd, hg, hw, hwm, hin⟩ := id h
  obtain ⟨r128, rH, rD, r138, rG, rM⟩ := id h1
  have hf8 : ¬ nI f < 0 ∧ nI f < 8 := ⟨nI_pos (by omega), nI_lt (b := 8) (by omega) (by decide)⟩
  refine sg_wr 4 rfl ?_
  refine act_b (k := 3) rfl rfl rfl rfl (Nat.le_of_ble_eq_true rfl) (Nat.le_of_ble_eq_true rfl) (by decide) (by decide) (fun j hj => ?_)
  refine sg_wb rfl rfl (fun _ => ?_) (fun _ => ?_)
  · refine sg_wr 1 rfl ?_
    refine act_m rfl rfl rfl r128 rfl (Nat.le_of_ble_eq_true rfl) (Nat.le_of_ble_eq_true rfl) (rt_discard h) hi ⟨rfl, rfl, rfl⟩ (fun v M1 n1 hi1 => ?_)
    refine sg_wr 3 rfl ?_
    exact sg_we rfl rfl ⟨rfl, _, hi1, by omega, by omega⟩
  · refine sg_wr 2 rfl ?_
    refine act_m rfl rfl rfl r128 rfl (Nat.le_of_ble_eq_true rfl) (Nat.le_of_ble_eq_true rfl) (rt_delete h _) hi ⟨rfl, rfl, rfl⟩ (fun v M1 n1 hi1 => ?_)
    refine sg_wr 3 rfl ?_
    exact sg_we rfl rfl ⟨rfl, _, hi1, by omega, by omega⟩
theorem ac_233 (hi : iv M n) (x : Int32) {f : Nat} (hf : f < 3) (b c : Nat) : wpa Ls xs 143 233 [(0, .ref 128), (1, .int x), (2, .int (nI f)), (3, .int (nI b)), (4, .int (nI c))] [] M (aq n) := by
  obtain ⟨R, g, K, tp, ds, dc, G, h⟩ := id hi
  obtain ⟨h1, hb, hk, ⟨hh, ht⟩, hd, hg, hw, hwm, hin⟩ := id h
  obtain ⟨r128, rH, rD, r138, rG, rM⟩ := id h1
  have hf8 : ¬ nI f < 0 ∧ nI f < 8 := ⟨nI_pos (by omega), nI_lt (b := 8) (by omega) (by decide)⟩
  refine sg_wr 8 rfl ?_
  refine sg_p_callV rfl rfl rfl r128 rfl (Nat.le_of_ble_eq_true rfl) (Nat.le_of_ble_eq_true rfl) (rt_deskLines h1 hf8) ?_
  refine sg_wr 1 rfl ?_
  obtain ⟨k, k0, k1, ek⟩ := lw_max (tr_size ds (nI f))
  rw [ek]
  refine act_b (k := k) rfl rfl rfl rfl (Nat.le_of_ble_eq_true rfl) (Nat.le_of_ble_eq_true rfl) k0 k1 (fun j hj => ?_)
  refine act_m rfl rfl rfl r128 rfl (Nat.le_of_ble_eq_true rfl) (Nat.le_of_ble_eq_true rfl) (rt_erase h _ _) hi ⟨rfl, rfl, rfl⟩ (fun v M1 n1 hi1 => ?_)
  refine sg_wr 3 rfl ?_
  exact sg_we rfl rfl ⟨rfl, _, hi1, by omega, by omega⟩
theorem ac_258 (hi : iv M n) (x : Int32) {f : Nat} (hf : f < 3) (b c : Nat) : wpa Ls xs 143 258 [(0, .ref 128), (1, .int x), (2, .int (nI f)), (3, .int (nI b)), (4, .int (nI c))] [] M (aq n) := by
  obtain ⟨R, g, K, tp, ds, dc, G, h⟩ := id hi
  obtain ⟨h1, hb, hk, ⟨hh, ht⟩, hd, hg, hw, hwm, hin⟩ := id h
  obtain ⟨r128, rH, rD, r138, rG, rM⟩ := id h1
  have hf8 : ¬ nI f < 0 ∧ nI f < 8 := ⟨nI_pos (by omega), nI_lt (b := 8) (by omega) (by decide)⟩
  refine sg_wr 8 rfl ?_
  refine sg_p_callV rfl rfl rfl r128 rfl (Nat.le_of_ble_eq_true rfl) (Nat.le_of_ble_eq_true rfl) (rt_deskLines h1 hf8) ?_
  refine sg_wr 1 rfl ?_
  obtain ⟨k, k0, k1, ek⟩ := lw_max (tr_size ds (nI f))
  rw [ek]
  refine act_b (k := k) rfl rfl rfl rfl (Nat.le_of_ble_eq_true rfl) (Nat.le_of_ble_eq_true rfl) k0 k1 (fun j hj => ?_)
  refine sg_wr 4 rfl ?_
  refine act_b (k := 9) rfl rfl rfl rfl (Nat.le_of_ble_eq_true rfl) (Nat.le_of_ble_eq_true rfl) (by decide) (by decide) (fun u hu => ?_)
  refine act_m rfl rfl rfl r128 rfl (Nat.le_of_ble_eq_true rfl) (Nat.le_of_ble_eq_true rfl) (rt_replace h _ _ _) hi ⟨rfl, rfl, rfl⟩ (fun v M1 n1 hi1 => ?_)
  refine sg_wr 3 rfl ?_
  exact sg_we rfl rfl ⟨rfl, _, hi1, by omega, by omega⟩
theorem ac_292 (hi : iv M n) (x : Int32) {f : Nat} (hf : f < 3) (b c : Nat) : wpa Ls xs 143 292 [(0, .ref 128), (1, .int x), (2, .int (nI f)), (3, .int (nI b)), (4, .int (nI c))] [] M (aq n) := by
  obtain ⟨R, g, K, tp, ds, dc, G, h⟩ := id hi
  obtain ⟨h1, hb, hk, ⟨hh, ht⟩, hd, hg, hw, hwm, hin⟩ := id h
  obtain ⟨r128, rH, rD, r138, rG, rM⟩ := id h1
  have hf8 : ¬ nI f < 0 ∧ nI f < 8 := ⟨nI_pos (by omega), nI_lt (b := 8) (by omega) (by decide)⟩
  refine sg_wr 2 rfl ?_
  refine act_m rfl rfl rfl r128 rfl (Nat.le_of_ble_eq_true rfl) (Nat.le_of_ble_eq_true rfl) (rt_branch h _) hi ⟨rfl, rfl, rfl⟩ (fun v M1 n1 hi1 => ?_)
  refine sg_wr 3 rfl ?_
  exact sg_we rfl rfl ⟨rfl, _, hi1, by omega, by omega⟩
theorem ac_301 (hi : iv M n) (x : Int32) {f : Nat} (hf : f < 3) (b c : Nat) : wpa Ls xs 143 301 [(0, .ref 128), (1, .int x), (2, .int (nI f)), (3, .int (nI b)), (4, .int (nI c))] [] M (aq n) := by
  obtain ⟨R, g, K, tp, ds, dc, G, h⟩ := id hi
  obtain ⟨h1, hb, hk, ⟨hh, ht⟩, hd, hg, hw, hwm, hin⟩ := id h
  obtain ⟨r128, rH, rD, r138, rG, rM⟩ := id h1
  have hf8 : ¬ nI f < 0 ∧ nI f < 8 := ⟨nI_pos (by omega), nI_lt (b := 8) (by omega) (by decide)⟩
  refine sg_wr 2 rfl ?_
  refine act_m rfl rfl rfl r128 rfl (Nat.le_of_ble_eq_true rfl) (Nat.le_of_ble_eq_true rfl) (rt_go h _) hi ⟨rfl, rfl, rfl⟩ (fun v M1 n1 hi1 => ?_)
  refine sg_wr 3 rfl ?_
  exact sg_we rfl rfl ⟨rfl, _, hi1, by omega, by omega⟩
theorem ac_310 (hi : iv M n) (x : Int32) {f : Nat} (hf : f < 3) (b c : Nat) : wpa Ls xs 143 310 [(0, .ref 128), (1, .int x), (2, .int (nI f)), (3, .int (nI b)), (4, .int (nI c))] [] M (aq n) := by
  obtain ⟨R, g, K, tp, ds, dc, G, h⟩ := id hi
  obtain ⟨h1, hb, hk, ⟨hh, ht⟩, hd, hg, hw, hwm, hin⟩ := id h
  obtain ⟨r128, rH, rD, r138, rG, rM⟩ := id h1
  have hf8 : ¬ nI f < 0 ∧ nI f < 8 := ⟨nI_pos (by omega), nI_lt (b := 8) (by omega) (by decide)⟩
  refine sg_wr 4 rfl ?_
  refine act_b (k := 4) rfl rfl rfl rfl (Nat.le_of_ble_eq_true rfl) (Nat.le_of_ble_eq_true rfl) (by decide) (by decide) (fun j hj => ?_)
  refine sg_wb rfl rfl (fun _ => ?_) (fun _ => ?_)
  · refine sg_wr 1 rfl ?_
    refine act_m rfl rfl rfl r128 rfl (Nat.le_of_ble_eq_true rfl) (Nat.le_of_ble_eq_true rfl) (rt_sweep h) hi ⟨rfl, rfl, rfl⟩ (fun v M1 n1 hi1 => ?_)
    refine sg_wr 3 rfl ?_
    exact sg_we rfl rfl ⟨rfl, _, hi1, by omega, by omega⟩
  · refine sg_wr 2 rfl ?_
    refine act_m rfl rfl rfl r128 rfl (Nat.le_of_ble_eq_true rfl) (Nat.le_of_ble_eq_true rfl) (rt_drop h _) hi ⟨rfl, rfl, rfl⟩ (fun v M1 n1 hi1 => ?_)
    refine sg_wr 3 rfl ?_
    exact sg_we rfl rfl ⟨rfl, _, hi1, by omega, by omega⟩
theorem ac_338 (hi : iv M n) (x : Int32) {f : Nat} (hf : f < 3) (b c : Nat) : wpa Ls xs 143 338 [(0, .ref 128), (1, .int x), (2, .int (nI f)), (3, .int (nI b)), (4, .int (nI c))] [] M (aq n) := by
  obtain ⟨R, g, K, tp, ds, dc, G, h⟩ := id hi
  obtain ⟨h1, hb, hk, ⟨hh, ht⟩, hd, hg, hw, hwm, hin⟩ := id h
  obtain ⟨r128, rH, rD, r138, rG, rM⟩ := id h1
  have hf8 : ¬ nI f < 0 ∧ nI f < 8 := ⟨nI_pos (by omega), nI_lt (b := 8) (by omega) (by decide)⟩
  refine sg_wr 2 rfl ?_
  refine act_m rfl rfl rfl r128 rfl (Nat.le_of_ble_eq_true rfl) (Nat.le_of_ble_eq_true rfl) (rt_reset h _) hi ⟨rfl, rfl, rfl⟩ (fun v M1 n1 hi1 => ?_)
  refine sg_wr 3 rfl ?_
  exact sg_we rfl rfl ⟨rfl, _, hi1, by omega, by omega⟩
theorem ac_348 (hi : iv M n) (x : Int32) {f : Nat} (hf : f < 3) (b c : Nat) : wpa Ls xs 143 348 [(0, .ref 128), (1, .int x), (2, .int (nI f)), (3, .int (nI b)), (4, .int (nI c))] [] M (aq n) := by
  obtain ⟨R, g, K, tp, ds, dc, G, h⟩ := id hi
  obtain ⟨h1, hb, hk, ⟨hh, ht⟩, hd, hg, hw, hwm, hin⟩ := id h
  obtain ⟨r128, rH, rD, r138, rG, rM⟩ := id h1
  have hf8 : ¬ nI f < 0 ∧ nI f < 8 := ⟨nI_pos (by omega), nI_lt (b := 8) (by omega) (by decide)⟩
  refine sg_wr 2 rfl ?_
  refine act_m rfl rfl rfl r128 rfl (Nat.le_of_ble_eq_true rfl) (Nat.le_of_ble_eq_true rfl) (rt_merge h _) hi ⟨rfl, rfl, rfl⟩ (fun v M1 n1 hi1 => ?_)
  refine sg_wr 3 rfl ?_
  exact sg_we rfl rfl ⟨rfl, _, hi1, by omega, by omega⟩
theorem ac_357 (hi : iv M n) (x : Int32) {f : Nat} (hf : f < 3) (b c : Nat) : wpa Ls xs 143 357 [(0, .ref 128), (1, .int x), (2, .int (nI f)), (3, .int (nI b)), (4, .int (nI c))] [] M (aq n) := by
  obtain ⟨R, g, K, tp, ds, dc, G, h⟩ := id hi
  obtain ⟨h1, hb, hk, ⟨hh, ht⟩, hd, hg, hw, hwm, hin⟩ := id h
  obtain ⟨r128, rH, rD, r138, rG, rM⟩ := id h1
  have hf8 : ¬ nI f < 0 ∧ nI f < 8 := ⟨nI_pos (by omega), nI_lt (b := 8) (by omega) (by decide)⟩
  refine sg_wr 2 rfl ?_
  refine act_m rfl rfl rfl r128 rfl (Nat.le_of_ble_eq_true rfl) (Nat.le_of_ble_eq_true rfl) (rt_carry h _) hi ⟨rfl, rfl, rfl⟩ (fun v M1 n1 hi1 => ?_)
  refine sg_wr 3 rfl ?_
  exact sg_we rfl rfl ⟨rfl, _, hi1, by omega, by omega⟩
theorem ac_367 (hi : iv M n) (x : Int32) {f : Nat} (hf : f < 3) (b c : Nat) : wpa Ls xs 143 367 [(0, .ref 128), (1, .int x), (2, .int (nI f)), (3, .int (nI b)), (4, .int (nI c))] [] M (aq n) := by
  obtain ⟨R, g, K, tp, ds, dc, G, h⟩ := id hi
  obtain ⟨h1, hb, hk, ⟨hh, ht⟩, hd, hg, hw, hwm, hin⟩ := id h
  obtain ⟨r128, rH, rD, r138, rG, rM⟩ := id h1
  have hf8 : ¬ nI f < 0 ∧ nI f < 8 := ⟨nI_pos (by omega), nI_lt (b := 8) (by omega) (by decide)⟩
  refine sg_wr 2 rfl ?_
  refine act_m rfl rfl rfl r128 rfl (Nat.le_of_ble_eq_true rfl) (Nat.le_of_ble_eq_true rfl) (rt_takeBack h _) hi ⟨rfl, rfl, rfl⟩ (fun v M1 n1 hi1 => ?_)
  refine sg_wr 3 rfl ?_
  exact sg_we rfl rfl ⟨rfl, _, hi1, by omega, by omega⟩
theorem ac_377 (hi : iv M n) (x : Int32) {f : Nat} (hf : f < 3) (b c : Nat) : wpa Ls xs 143 377 [(0, .ref 128), (1, .int x), (2, .int (nI f)), (3, .int (nI b)), (4, .int (nI c))] [] M (aq n) := by
  obtain ⟨R, g, K, tp, ds, dc, G, h⟩ := id hi
  obtain ⟨h1, hb, hk, ⟨hh, ht⟩, hd, hg, hw, hwm, hin⟩ := id h
  obtain ⟨r128, rH, rD, r138, rG, rM⟩ := id h1
  have hf8 : ¬ nI f < 0 ∧ nI f < 8 := ⟨nI_pos (by omega), nI_lt (b := 8) (by omega) (by decide)⟩
  refine sg_wr 2 rfl ?_
  refine act_m rfl rfl rfl r128 rfl (Nat.le_of_ble_eq_true rfl) (Nat.le_of_ble_eq_true rfl) (rt_replay h _) hi ⟨rfl, rfl, rfl⟩ (fun v M1 n1 hi1 => ?_)
  refine sg_wr 3 rfl ?_
  exact sg_we rfl rfl ⟨rfl, _, hi1, by omega, by omega⟩
theorem ac_386 (hi : iv M n) (x : Int32) {f : Nat} (hf : f < 3) (b c : Nat) : wpa Ls xs 143 386 [(0, .ref 128), (1, .int x), (2, .int (nI f)), (3, .int (nI b)), (4, .int (nI c))] [] M (aq n) := by
  obtain ⟨R, g, K, tp, ds, dc, G, h⟩ := id hi
  obtain ⟨h1, hb, hk, ⟨hh, ht⟩, hd, hg, hw, hwm, hin⟩ := id h
  obtain ⟨r128, rH, rD, r138, rG, rM⟩ := id h1
  have hf8 : ¬ nI f < 0 ∧ nI f < 8 := ⟨nI_pos (by omega), nI_lt (b := 8) (by omega) (by decide)⟩
  refine sg_wr 6 rfl ?_
  refine sg_p_callV rfl rfl rfl r128 rfl (Nat.le_of_ble_eq_true rfl) (Nat.le_of_ble_eq_true rfl) (rt_commits h1) ?_
  refine sg_wr 1 rfl ?_
  obtain ⟨k, k0, k1, ek⟩ := lw_max (nI n)
  rw [ek]
  refine act_b (k := k) rfl rfl rfl rfl (Nat.le_of_ble_eq_true rfl) (Nat.le_of_ble_eq_true rfl) k0 k1 (fun j hj => ?_)
  refine sg_wr 1 rfl ?_
  refine act_m rfl rfl rfl r128 rfl (Nat.le_of_ble_eq_true rfl) (Nat.le_of_ble_eq_true rfl) (rt_seek h _ _) hi ⟨rfl, rfl, rfl⟩ (fun v M1 n1 hi1 => ?_)
  refine sg_wr 3 rfl ?_
  exact sg_we rfl rfl ⟨rfl, _, hi1, by omega, by omega⟩
theorem ac_411 (hi : iv M n) (x : Int32) {f : Nat} (hf : f < 3) (b c : Nat) : wpa Ls xs 143 411 [(0, .ref 128), (1, .int x), (2, .int (nI f)), (3, .int (nI b)), (4, .int (nI c))] [] M (aq n) := by
  obtain ⟨R, g, K, tp, ds, dc, G, h⟩ := id hi
  obtain ⟨h1, hb, hk, ⟨hh, ht⟩, hd, hg, hw, hwm, hin⟩ := id h
  obtain ⟨r128, rH, rD, r138, rG, rM⟩ := id h1
  have hf8 : ¬ nI f < 0 ∧ nI f < 8 := ⟨nI_pos (by omega), nI_lt (b := 8) (by omega) (by decide)⟩
  refine sg_wr 5 rfl ?_
  refine act_b (k := 2) rfl rfl rfl rfl (Nat.le_of_ble_eq_true rfl) (Nat.le_of_ble_eq_true rfl) (by decide) (by decide) (fun j hj => ?_)
  refine sg_wb rfl rfl (fun _ => ?_) (fun _ => ?_)
  · refine sg_wr 1 rfl ?_
    refine act_m rfl rfl rfl r128 rfl (Nat.le_of_ble_eq_true rfl) (Nat.le_of_ble_eq_true rfl) (rt_tell h _) hi ⟨rfl, rfl, rfl⟩ (fun v M1 n1 hi1 => ?_)
    refine sg_wr 3 rfl ?_
    exact sg_we rfl rfl ⟨rfl, _, hi1, by omega, by omega⟩
  · refine sg_wr 2 rfl ?_
    refine act_m rfl rfl rfl r128 rfl (Nat.le_of_ble_eq_true rfl) (Nat.le_of_ble_eq_true rfl) (rt_tell h _) hi ⟨rfl, rfl, rfl⟩ (fun v M1 n1 hi1 => ?_)
    refine sg_wr 3 rfl ?_
    exact sg_we rfl rfl ⟨rfl, _, hi1, by omega, by omega⟩
theorem ac_435 (hi : iv M n) (x : Int32) {f : Nat} (hf : f < 3) (b c : Nat) : wpa Ls xs 143 435 [(0, .ref 128), (1, .int x), (2, .int (nI f)), (3, .int (nI b)), (4, .int (nI c))] [] M (aq n) := by
  obtain ⟨R, g, K, tp, ds, dc, G, h⟩ := id hi
  obtain ⟨h1, hb, hk, ⟨hh, ht⟩, hd, hg, hw, hwm, hin⟩ := id h
  obtain ⟨r128, rH, rD, r138, rG, rM⟩ := id h1
  have hf8 : ¬ nI f < 0 ∧ nI f < 8 := ⟨nI_pos (by omega), nI_lt (b := 8) (by omega) (by decide)⟩
  refine sg_wr 5 rfl ?_
  refine act_b (k := 1000) rfl rfl rfl rfl (Nat.le_of_ble_eq_true rfl) (Nat.le_of_ble_eq_true rfl) (by decide) (by decide) (fun j hj => ?_)
  refine act_m rfl rfl rfl r128 rfl (Nat.le_of_ble_eq_true rfl) (Nat.le_of_ble_eq_true rfl) (rt_commit h _) hi ⟨rfl, rfl, rfl⟩ (fun v M1 n1 hi1 => ?_)
  refine sg_wr 3 rfl ?_
  exact sg_we rfl rfl ⟨rfl, _, hi1, by omega, by omega⟩
theorem ac_466 {R : rt_R} {g : Int64} {K : Nat → hs_K} {tp ds dc : Nat → Int32} {G : mg_C} (h : rt_ok M R n g K tp ds dc G) (x : Int32) {f : Nat} (hf : f < 3) (hz : ¬ tr_size ds (nI f) < 0) (b c : Nat) : wpa Ls xs 143 466 [(0, .ref 128), (1, .int x), (2, .int (nI f)), (3, .int (nI b)), (4, .int (nI c))] [] M (aq n) := by
  have hi : iv M n := ⟨R, g, K, tp, ds, dc, G, h⟩
  obtain ⟨h1, hb, hk, ⟨hh, ht⟩, hd, hg, hw, hwm, hin⟩ := id h
  obtain ⟨r128, rH, rD, r138, rG, rM⟩ := id h1
  have hf8 : ¬ nI f < 0 ∧ nI f < 8 := ⟨nI_pos (by omega), nI_lt (b := 8) (by omega) (by decide)⟩
  obtain ⟨m, hm, em⟩ := nI_of hz
  have hm40 : m ≤ 40 := by
    have e := (hd f (by omega)).2
    have e2 : tr_size ds (nI f) = ds f := by
      unfold tr_size
      rw [if_neg hf8.1, if_pos hf8.2, nI_clamp (by omega)]
    rw [← e2, em] at e
    exact (nI_leI (b := 40) (by omega) (by decide)).mp e
  refine sg_wr 7 rfl ?_
  refine sg_p_callV rfl rfl rfl r128 rfl (Nat.le_of_ble_eq_true rfl) (Nat.le_of_ble_eq_true rfl) (rt_deskLines h1 hf8) ?_
  rw [em]
  refine sg_wr 2 rfl ?_
  rw [nI_1]
  refine act_b (k := m + 1) rfl rfl rfl rfl (Nat.le_of_ble_eq_true rfl) (Nat.le_of_ble_eq_true rfl) (by omega) (by omega) (fun j hj => ?_)
  refine sg_wr 4 rfl ?_
  refine act_b (k := 9) rfl rfl rfl rfl (Nat.le_of_ble_eq_true rfl) (Nat.le_of_ble_eq_true rfl) (by decide) (by decide) (fun u hu => ?_)
  refine act_m rfl rfl rfl r128 rfl (Nat.le_of_ble_eq_true rfl) (Nat.le_of_ble_eq_true rfl) (rt_insert h _ _ _) hi ⟨rfl, rfl, rfl⟩ (fun v M1 n1 hi1 => ?_)
  refine sg_wr 5 rfl ?_
  refine act_b (k := 2) rfl rfl rfl rfl (Nat.le_of_ble_eq_true rfl) (Nat.le_of_ble_eq_true rfl) (by decide) (by decide) (fun q hq => ?_)
  refine sg_wb rfl rfl (fun _ => ?_) (fun _ => ?_)
  · refine sg_wr 1 rfl ?_
    exact sg_we rfl rfl ⟨rfl, _, hi1, by omega, by omega⟩
  · obtain ⟨R1, g1, K1, tp1, ds1, dc1, G1, h2⟩ := id hi1
    have q128 := h2.1.1
    refine sg_wr 5 rfl ?_
    refine act_b (k := 1000) rfl rfl rfl rfl (Nat.le_of_ble_eq_true rfl) (Nat.le_of_ble_eq_true rfl) (by decide) (by decide) (fun p hp => ?_)
    refine act_m rfl rfl rfl q128 rfl (Nat.le_of_ble_eq_true rfl) (Nat.le_of_ble_eq_true rfl) (rt_commit h2 _) hi1 ⟨rfl, rfl, rfl⟩ (fun v M2 n2 hi2 => ?_)
    refine sg_wr 2 rfl ?_
    exact sg_we rfl rfl ⟨rfl, _, hi2, by omega, by omega⟩
theorem ac_452 (hi : iv M n) (x : Int32) {f : Nat} (hf : f < 3) (b c : Nat) : wpa Ls xs 143 452 [(0, .ref 128), (1, .int x), (2, .int (nI f)), (3, .int (nI b)), (4, .int (nI c))] [] M (aq n) := by
  obtain ⟨R, g, K, tp, ds, dc, G, h⟩ := id hi
  obtain ⟨h1, hb, hk, ⟨hh, ht⟩, hd, hg, hw, hwm, hin⟩ := id h
  obtain ⟨r128, rH, rD, r138, rG, rM⟩ := id h1
  have hf8 : ¬ nI f < 0 ∧ nI f < 8 := ⟨nI_pos (by omega), nI_lt (b := 8) (by omega) (by decide)⟩
  refine sg_wr 2 rfl ?_
  refine sg_p_callV rfl rfl rfl r128 rfl (Nat.le_of_ble_eq_true rfl) (Nat.le_of_ble_eq_true rfl) (rt_deskLines h1 hf8) ?_
  refine sg_wb rfl rfl (fun h457 => ?_) (fun h457 => ?_)
  · exact ac_466 h x hf (Int32.not_lt.mpr h457) b c
  · refine sg_wr 2 rfl ?_
    refine sg_r_callV rfl rfl rfl r128 rfl (Nat.le_of_ble_eq_true rfl) (Nat.le_of_ble_eq_true rfl) (rt_create2 h (f := f) (by omega)) ?_
    rintro _ M1 _ _ (⟨⟨E, hE, rfl⟩, rfl, rfl, rfl⟩ | ⟨⟨v, rfl⟩, ⟨d1, q1, q2⟩, rfl, rfl⟩)
    · exact act_h ⟨rfl, rfl, rfl⟩ hi hE
    · refine sg_a0 ?_
      refine sg_wr 1 rfl ?_
      exact ac_466 q1 x hf q2 b c
theorem ac_112 (hi : iv M n) (x : Int32) {f : Nat} (hf : f < 3) (b c : Nat) : wpa Ls xs 143 112 [(0, .ref 128), (1, .int x), (2, .int (nI f)), (3, .int (nI b)), (4, .int (nI c))] [] M (aq n) := by
  refine sg_wr 2 rfl ?_
  refine act_b (k := 18) rfl rfl rfl rfl (Nat.le_of_ble_eq_true rfl) (Nat.le_of_ble_eq_true rfl) (by decide) (by decide) (fun j hj => ?_)
  have e : j = 0 ∨ j = 1 ∨ j = 2 ∨ j = 3 ∨ j = 4 ∨ j = 5 ∨ j = 6 ∨ j = 7 ∨ j = 8 ∨ j = 9 ∨ j = 10 ∨ j = 11 ∨ j = 12 ∨ j = 13 ∨ j = 14 ∨ j = 15 ∨ j = 16 ∨ j = 17 := by omega
  rcases e with rfl | rfl | rfl | rfl | rfl | rfl | rfl | rfl | rfl | rfl | rfl | rfl | rfl | rfl | rfl | rfl | rfl | rfl
  · refine sg_wr 1 rfl ?_
    exact ac_196 hi x hf b c
  · refine sg_wr 1 rfl ?_
    exact ac_205 hi x hf b c
  · refine sg_wr 1 rfl ?_
    exact ac_233 hi x hf b c
  · refine sg_wr 1 rfl ?_
    exact ac_258 hi x hf b c
  · refine sg_wr 1 rfl ?_
    exact ac_292 hi x hf b c
  · refine sg_wr 1 rfl ?_
    exact ac_301 hi x hf b c
  · refine sg_wr 1 rfl ?_
    exact ac_310 hi x hf b c
  · refine sg_wr 1 rfl ?_
    exact ac_338 hi x hf b c
  · refine sg_wr 1 rfl ?_
    exact ac_348 hi x hf b c
  · refine sg_wr 1 rfl ?_
    exact ac_348 hi x hf b c
  · refine sg_wr 1 rfl ?_
    exact ac_357 hi x hf b c
  · refine sg_wr 1 rfl ?_
    exact ac_367 hi x hf b c
  · refine sg_wr 1 rfl ?_
    exact ac_377 hi x hf b c
  · refine sg_wr 1 rfl ?_
    exact ac_386 hi x hf b c
  · refine sg_wr 1 rfl ?_
    exact ac_411 hi x hf b c
  · refine sg_wr 1 rfl ?_
    exact ac_435 hi x hf b c
  · refine sg_wr 1 rfl ?_
    exact ac_452 hi x hf b c
  · refine sg_wr 1 rfl ?_
    exact ac_452 hi x hf b c
theorem act_ok (hi : iv M n) (x : Int32) : wpm Ls xs 143 [.ref 128, .int x] M (aq n) := by
  obtain ⟨R, g, K, tp, ds, dc, G, h⟩ := id hi
  obtain ⟨h1, hb, hk, ⟨hh, ht⟩, hd, hg, hw, hwm, hin⟩ := id h
  obtain ⟨r128, rH, rD, r138, rG, rM⟩ := id h1
  refine sg_wr 4 rfl ?_
  refine act_b (k := 3) rfl rfl rfl rfl (Nat.le_of_ble_eq_true rfl) (Nat.le_of_ble_eq_true rfl) (by decide) (by decide) (fun f hf => ?_)
  refine sg_wr 5 rfl ?_
  refine act_b (k := 4) rfl rfl rfl rfl (Nat.le_of_ble_eq_true rfl) (Nat.le_of_ble_eq_true rfl) (by decide) (by decide) (fun b hb => ?_)
  refine sg_wr 6 rfl ?_
  refine sg_p_callV rfl rfl rfl r128 rfl (Nat.le_of_ble_eq_true rfl) (Nat.le_of_ble_eq_true rfl) (rt_commits h1) ?_
  refine sg_wr 1 rfl ?_
  obtain ⟨k, k0, k1, ek⟩ := lw_max (nI n)
  rw [ek]
  refine act_b (k := k) rfl rfl rfl rfl (Nat.le_of_ble_eq_true rfl) (Nat.le_of_ble_eq_true rfl) k0 k1 (fun c hc => ?_)
  refine sg_wr 2 rfl ?_
  refine sg_p_callV rfl rfl rfl r128 rfl (Nat.le_of_ble_eq_true rfl) (Nat.le_of_ble_eq_true rfl) (rt_pending h1) ?_
  refine sg_wb rfl rfl (fun _ => ac_112 hi x hf b c) (fun h37 => ?_)
  have hw0 : ¬ R.wk = 0 := fun z => h37 (by rw [z]; exact Int32.le_rfl)
  have hwn : ¬ nI R.wk = 0 := fun z => hw0 ((rt_wk_n h (k := 0) (by decide)).mp z)
  obtain ⟨i1, i2, i3, i4, i5⟩ := hin hw0
  refine sg_wr 2 rfl ?_
  refine act_b (k := 8) rfl rfl rfl rfl (Nat.le_of_ble_eq_true rfl) (Nat.le_of_ble_eq_true rfl) (by decide) (by decide) (fun j hj => ?_)
  refine sg_wb rfl rfl (fun _ => ac_112 hi x hf b c) (fun _ => ?_)
  refine sg_wr 4 rfl ?_
  refine act_b (k := 9) rfl rfl rfl rfl (Nat.le_of_ble_eq_true rfl) (Nat.le_of_ble_eq_true rfl) (by decide) (by decide) (fun u hu => ?_)
  refine sg_wr 2 rfl ?_
  refine sg_wb rfl rfl (fun _ => ?_) (fun _ => ?_)
  rotate_left
  · refine sg_wr 1 rfl ?_
    refine act_m rfl rfl rfl r128 rfl (Nat.le_of_ble_eq_true rfl) (Nat.le_of_ble_eq_true rfl) (rt_giveUp h) hi ⟨rfl, rfl, rfl⟩ (fun v M1 n1 hi1 => ?_)
    refine sg_wr 2 rfl ?_
    exact sg_we rfl rfl ⟨rfl, _, hi1, by omega, by omega⟩
  refine sg_wr 1 rfl ?_
  refine sg_p_callV rfl rfl rfl r128 rfl (Nat.le_of_ble_eq_true rfl) (Nat.le_of_ble_eq_true rfl) (rt_unsettled h1 hg.2.1) ?_
  refine sg_wb rfl rfl (fun _ => ?_) (fun _ => ?_)
  rotate_left
  · refine sg_wr 1 rfl ?_
    refine act_m rfl rfl rfl r128 rfl (Nat.le_of_ble_eq_true rfl) (Nat.le_of_ble_eq_true rfl) (rt_goOn h) hi ⟨rfl, rfl, rfl⟩ (fun v M1 n1 hi1 => ?_)
    refine sg_wr 2 rfl ?_
    exact sg_we rfl rfl ⟨rfl, _, hi1, by omega, by omega⟩
  refine sg_wr 5 rfl ?_
  refine sg_p_callV rfl rfl rfl r128 rfl (Nat.le_of_ble_eq_true rfl) (Nat.le_of_ble_eq_true rfl) (rt_conflicts h1) ?_
  have ecf : rt_cf R G = nI G.cc := by
    unfold rt_cf
    rw [if_pos hwn]
  rw [ecf]
  refine act_b (k := G.cc) rfl rfl rfl rfl (Nat.le_of_ble_eq_true rfl) (Nat.le_of_ble_eq_true rfl) i2 (by have := hg.2.1; omega) (fun p hp => ?_)
  refine sg_wr 4 rfl ?_
  refine act_b (k := 4) rfl rfl rfl rfl (Nat.le_of_ble_eq_true rfl) (Nat.le_of_ble_eq_true rfl) (by decide) (by decide) (fun q hq => ?_)
  refine act_m rfl rfl rfl r128 rfl (Nat.le_of_ble_eq_true rfl) (Nat.le_of_ble_eq_true rfl) (rt_settle h _ _) hi ⟨rfl, rfl, rfl⟩ (fun v M1 n1 hi1 => ?_)
  refine sg_wr 1 rfl ?_
  exact sg_we rfl rfl ⟨rfl, _, hi1, by omega, by omega⟩
end
end SGA1
