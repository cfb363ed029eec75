section SGSE
section
variable {Ls : Nat} {xs : Nat → Int32} {M : sg_M} {R : rt_R} {n : Nat} {g : Int64} {K : Nat → hs_K} {tp ds dc : Nat → Int32} {G : mg_C}
theorem sd_pf (hk : kc_ok n g K) (hn : n ≤ 60) {i : Nat} (hi : i < n) (hg : bt g (nI i) = false) {s : Int32} (hs : hs_f (K i) = s ∨ hs_e (K i) = s) : s = -1 ∨ ∃ j : Nat, j < i ∧ s = nI j ∧ hs_th n g (nI j) ∧ bt (hs_a (K i)) (nI j) = true ∧ hs_d (K j) < hs_d (K i) := by
  obtain ⟨k1, ⟨dp, k2⟩, k3⟩ := hk
  obtain ⟨p1, p2, -, -, p5, p6, p7, p8⟩ := k3 i hi
  have key : kp_is s i := by
    rcases hs with rfl | rfl
    · exact p1
    · exact p2
  rcases key with z | ⟨j, hj, rfl⟩
  · exact Or.inl z
  · have hb := p6 j hj hs
    obtain ⟨d1, d2, d3, d4⟩ := k2 i hi
    obtain ⟨e1, e2, e3, -⟩ := k2 j (by omega)
    refine Or.inr ⟨j, hj, rfl, hs_n_th (by omega) hn (p8 hg j (by omega) hb), hb, ?_⟩
    rw [d1, e1]
    exact nI_lt (d4 j hj hs) (by omega)
theorem sd_p00 (h : rt_is M R n g K tp ds dc G) (hk : kc_ok n g K) {i : Nat} (hi : i < n) (hg : bt g (nI i) = false) (c : Int32)  {Q : Option Value ⊕ Nat → sg_M → Nat → Nat → Prop} (hQ : wpa Ls xs 140 111 [(0, .ref 128), (1, .int c), (2, .int (nI i)), (3, .int 1), (4, .int (hs_f (hs_D n K (nI i))))] [] M Q) : wpa Ls xs 140 111 [(0, .ref 128), (1, .int c), (2, .int (nI i)), (3, .int 0)] [] M Q := by
  obtain ⟨r128, rH, rD, r138, rG, rM⟩ := id h
  have hn := rH.2.2.2.1
  have hx : hs_th n g (nI i) := hs_n_th hi hn hg
  have hpf := sd_pf hk hn hi hg (s := hs_f (hs_D n K (nI i))) (by rw [hs_D_K hi hn]; exact Or.inl rfl)
  refine sg_wr 2 rfl ?_
  refine sg_wr 1 rfl ?_
  refine sg_wr 4 rfl ?_
  refine sg_wr 2 rfl ?_
  refine sg_p_callV rfl rfl rfl r128 rfl (Nat.le_of_ble_eq_true rfl) (Nat.le_of_ble_eq_true rfl) ((rt_parent h hx 0)) ?_
  refine sg_wr 1 rfl ?_
  rw [if_pos (show (0 : Int32) = 0 from rfl)]
  generalize hs_f (hs_D n K (nI i)) = s at hpf hQ ⊢
  rcases hpf with rfl | ⟨j, hj1, rfl, hj3, hj4, hj5⟩
  · refine sg_wr 2 rfl ?_
    refine sg_wb rfl rfl (fun h136 => absurd (Int32.lt_of_lt_of_le (by decide : (-1 : Int32) < 0) (Int32.not_lt.mp (nI_pos (n := i) (by omega)))) (Int32.not_lt.mpr h136)) (fun _ => ?_)
    refine sg_wr 3 rfl ?_
    refine sg_wr 2 rfl ?_
    refine sg_wr 2 rfl ?_
    exact hQ
  · have hanc : ¬ nI j < 0 ∧ nI j < 60 ∧ bt (hs_a (hs_D n K (nI i))) (nI j) = true := ⟨nI_pos (by omega), nI_lt (b := 60) (by omega) (by decide), by rw [hs_D_K hi hn]; exact hj4⟩
    refine sg_wr 2 rfl ?_
    refine sg_wb rfl rfl (fun h136 => absurd h136 (nI_ge hj1 (by omega))) (fun h136 => ?_)
    refine sg_wr 2 rfl ?_
    refine sg_wb rfl rfl (fun h142 => absurd h142 (Int32.not_lt.mpr (Int32.le_trans (b := nI 0) (by decide) (nI_le (by omega) (by omega))))) (fun h142 => ?_)
    refine sg_wr 1 rfl ?_
    refine sg_wb rfl rfl (fun h147 => absurd h147 (nI_pos (by omega))) (fun _ => ?_)
    refine sg_wr 2 rfl ?_
    refine sg_r_callV rfl rfl rfl r128 rfl (Nat.le_of_ble_eq_true rfl) (Nat.le_of_ble_eq_true rfl) (rt_isThere h _) ?_
    rintro _ _ _ _ ⟨⟨v, rfl, hv⟩, rfl, rfl, rfl⟩
    refine sg_a0 ?_
    rcases hv with ⟨rfl, q⟩ | ⟨rfl, q⟩
    rotate_left
    · exact absurd hj3 q
    refine sg_wr 1 rfl ?_
    refine sg_wr 3 rfl ?_
    refine sg_r_callV rfl rfl rfl r128 rfl (Nat.le_of_ble_eq_true rfl) (Nat.le_of_ble_eq_true rfl) (rt_isAncestor h hj3 hx) ?_
    rintro _ _ _ _ ⟨⟨v, rfl, hv⟩, rfl, rfl, rfl⟩
    refine sg_a0 ?_
    rcases hv with ⟨rfl, q⟩ | ⟨rfl, q⟩
    rotate_left
    · exact absurd hanc q
    refine sg_wr 1 rfl ?_
    refine sg_wr 2 rfl ?_
    refine sg_p_callV rfl rfl rfl r128 rfl (Nat.le_of_ble_eq_true rfl) (Nat.le_of_ble_eq_true rfl) (rt_depthOf h hx) ?_
    refine sg_wr 2 rfl ?_
    refine sg_p_callV rfl rfl rfl r128 rfl (Nat.le_of_ble_eq_true rfl) (Nat.le_of_ble_eq_true rfl) (rt_depthOf h hj3) ?_
    refine sg_wb rfl rfl (fun h180 => ?_) (fun h180 => absurd (by rw [hs_D_K hi hn, hs_D_K (by omega) hn]; exact hj5) h180)
    refine sg_wr 2 rfl ?_
    exact hQ
theorem sd_p01 (h : rt_is M R n g K tp ds dc G) (hk : kc_ok n g K) {i : Nat} (hi : i < n) (hg : bt g (nI i) = false) (c : Int32) (a : Int32) {Q : Option Value ⊕ Nat → sg_M → Nat → Nat → Prop} (hQ : wpa Ls xs 140 111 [(0, .ref 128), (1, .int c), (2, .int (nI i)), (3, .int 1), (4, .int (hs_f (hs_D n K (nI i))))] [] M Q) : wpa Ls xs 140 111 [(0, .ref 128), (1, .int c), (2, .int (nI i)), (3, .int 0), (4, .int a)] [] M Q := by
  obtain ⟨r128, rH, rD, r138, rG, rM⟩ := id h
  have hn := rH.2.2.2.1
  have hx : hs_th n g (nI i) := hs_n_th hi hn hg
  have hpf := sd_pf hk hn hi hg (s := hs_f (hs_D n K (nI i))) (by rw [hs_D_K hi hn]; exact Or.inl rfl)
  refine sg_wr 2 rfl ?_
  refine sg_wr 1 rfl ?_
  refine sg_wr 4 rfl ?_
  refine sg_wr 2 rfl ?_
  refine sg_p_callV rfl rfl rfl r128 rfl (Nat.le_of_ble_eq_true rfl) (Nat.le_of_ble_eq_true rfl) ((rt_parent h hx 0)) ?_
  refine sg_wr 1 rfl ?_
  rw [if_pos (show (0 : Int32) = 0 from rfl)]
  generalize hs_f (hs_D n K (nI i)) = s at hpf hQ ⊢
  rcases hpf with rfl | ⟨j, hj1, rfl, hj3, hj4, hj5⟩
  · refine sg_wr 2 rfl ?_
    refine sg_wb rfl rfl (fun h136 => absurd (Int32.lt_of_lt_of_le (by decide : (-1 : Int32) < 0) (Int32.not_lt.mp (nI_pos (n := i) (by omega)))) (Int32.not_lt.mpr h136)) (fun _ => ?_)
    refine sg_wr 3 rfl ?_
    refine sg_wr 2 rfl ?_
    refine sg_wr 2 rfl ?_
    exact hQ
  · have hanc : ¬ nI j < 0 ∧ nI j < 60 ∧ bt (hs_a (hs_D n K (nI i))) (nI j) = true := ⟨nI_pos (by omega), nI_lt (b := 60) (by omega) (by decide), by rw [hs_D_K hi hn]; exact hj4⟩
    refine sg_wr 2 rfl ?_
    refine sg_wb rfl rfl (fun h136 => absurd h136 (nI_ge hj1 (by omega))) (fun h136 => ?_)
    refine sg_wr 2 rfl ?_
    refine sg_wb rfl rfl (fun h142 => absurd h142 (Int32.not_lt.mpr (Int32.le_trans (b := nI 0) (by decide) (nI_le (by omega) (by omega))))) (fun h142 => ?_)
    refine sg_wr 1 rfl ?_
    refine sg_wb rfl rfl (fun h147 => absurd h147 (nI_pos (by omega))) (fun _ => ?_)
    refine sg_wr 2 rfl ?_
    refine sg_r_callV rfl rfl rfl r128 rfl (Nat.le_of_ble_eq_true rfl) (Nat.le_of_ble_eq_true rfl) (rt_isThere h _) ?_
    rintro _ _ _ _ ⟨⟨v, rfl, hv⟩, rfl, rfl, rfl⟩
    refine sg_a0 ?_
    rcases hv with ⟨rfl, q⟩ | ⟨rfl, q⟩
    rotate_left
    · exact absurd hj3 q
    refine sg_wr 1 rfl ?_
    refine sg_wr 3 rfl ?_
    refine sg_r_callV rfl rfl rfl r128 rfl (Nat.le_of_ble_eq_true rfl) (Nat.le_of_ble_eq_true rfl) (rt_isAncestor h hj3 hx) ?_
    rintro _ _ _ _ ⟨⟨v, rfl, hv⟩, rfl, rfl, rfl⟩
    refine sg_a0 ?_
    rcases hv with ⟨rfl, q⟩ | ⟨rfl, q⟩
    rotate_left
    · exact absurd hanc q
    refine sg_wr 1 rfl ?_
    refine sg_wr 2 rfl ?_
    refine sg_p_callV rfl rfl rfl r128 rfl (Nat.le_of_ble_eq_true rfl) (Nat.le_of_ble_eq_true rfl) (rt_depthOf h hx) ?_
    refine sg_wr 2 rfl ?_
    refine sg_p_callV rfl rfl rfl r128 rfl (Nat.le_of_ble_eq_true rfl) (Nat.le_of_ble_eq_true rfl) (rt_depthOf h hj3) ?_
    refine sg_wb rfl rfl (fun h180 => ?_) (fun h180 => absurd (by rw [hs_D_K hi hn, hs_D_K (by omega) hn]; exact hj5) h180)
    refine sg_wr 2 rfl ?_
    exact hQ
theorem sd_p02 (h : rt_is M R n g K tp ds dc G) (hk : kc_ok n g K) {i : Nat} (hi : i < n) (hg : bt g (nI i) = false) (c : Int32) (a b : Int32) {Q : Option Value ⊕ Nat → sg_M → Nat → Nat → Prop} (hQ : wpa Ls xs 140 111 [(0, .ref 128), (1, .int c), (2, .int (nI i)), (3, .int 1), (4, .int (hs_f (hs_D n K (nI i)))), (5, .int b)] [] M Q) : wpa Ls xs 140 111 [(0, .ref 128), (1, .int c), (2, .int (nI i)), (3, .int 0), (4, .int a), (5, .int b)] [] M Q := by
  obtain ⟨r128, rH, rD, r138, rG, rM⟩ := id h
  have hn := rH.2.2.2.1
  have hx : hs_th n g (nI i) := hs_n_th hi hn hg
  have hpf := sd_pf hk hn hi hg (s := hs_f (hs_D n K (nI i))) (by rw [hs_D_K hi hn]; exact Or.inl rfl)
  refine sg_wr 2 rfl ?_
  refine sg_wr 1 rfl ?_
  refine sg_wr 4 rfl ?_
  refine sg_wr 2 rfl ?_
  refine sg_p_callV rfl rfl rfl r128 rfl (Nat.le_of_ble_eq_true rfl) (Nat.le_of_ble_eq_true rfl) ((rt_parent h hx 0)) ?_
  refine sg_wr 1 rfl ?_
  rw [if_pos (show (0 : Int32) = 0 from rfl)]
  generalize hs_f (hs_D n K (nI i)) = s at hpf hQ ⊢
  rcases hpf with rfl | ⟨j, hj1, rfl, hj3, hj4, hj5⟩
  · refine sg_wr 2 rfl ?_
    refine sg_wb rfl rfl (fun h136 => absurd (Int32.lt_of_lt_of_le (by decide : (-1 : Int32) < 0) (Int32.not_lt.mp (nI_pos (n := i) (by omega)))) (Int32.not_lt.mpr h136)) (fun _ => ?_)
    refine sg_wr 3 rfl ?_
    refine sg_wr 2 rfl ?_
    refine sg_wr 2 rfl ?_
    exact hQ
  · have hanc : ¬ nI j < 0 ∧ nI j < 60 ∧ bt (hs_a (hs_D n K (nI i))) (nI j) = true := ⟨nI_pos (by omega), nI_lt (b := 60) (by omega) (by decide), by rw [hs_D_K hi hn]; exact hj4⟩
    refine sg_wr 2 rfl ?_
    refine sg_wb rfl rfl (fun h136 => absurd h136 (nI_ge hj1 (by omega))) (fun h136 => ?_)
    refine sg_wr 2 rfl ?_
    refine sg_wb rfl rfl (fun h142 => absurd h142 (Int32.not_lt.mpr (Int32.le_trans (b := nI 0) (by decide) (nI_le (by omega) (by omega))))) (fun h142 => ?_)
    refine sg_wr 1 rfl ?_
    refine sg_wb rfl rfl (fun h147 => absurd h147 (nI_pos (by omega))) (fun _ => ?_)
    refine sg_wr 2 rfl ?_
    refine sg_r_callV rfl rfl rfl r128 rfl (Nat.le_of_ble_eq_true rfl) (Nat.le_of_ble_eq_true rfl) (rt_isThere h _) ?_
    rintro _ _ _ _ ⟨⟨v, rfl, hv⟩, rfl, rfl, rfl⟩
    refine sg_a0 ?_
    rcases hv with ⟨rfl, q⟩ | ⟨rfl, q⟩
    rotate_left
    · exact absurd hj3 q
    refine sg_wr 1 rfl ?_
    refine sg_wr 3 rfl ?_
    refine sg_r_callV rfl rfl rfl r128 rfl (Nat.le_of_ble_eq_true rfl) (Nat.le_of_ble_eq_true rfl) (rt_isAncestor h hj3 hx) ?_
    rintro _ _ _ _ ⟨⟨v, rfl, hv⟩, rfl, rfl, rfl⟩
    refine sg_a0 ?_
    rcases hv with ⟨rfl, q⟩ | ⟨rfl, q⟩
    rotate_left
    · exact absurd hanc q
    refine sg_wr 1 rfl ?_
    refine sg_wr 2 rfl ?_
    refine sg_p_callV rfl rfl rfl r128 rfl (Nat.le_of_ble_eq_true rfl) (Nat.le_of_ble_eq_true rfl) (rt_depthOf h hx) ?_
    refine sg_wr 2 rfl ?_
    refine sg_p_callV rfl rfl rfl r128 rfl (Nat.le_of_ble_eq_true rfl) (Nat.le_of_ble_eq_true rfl) (rt_depthOf h hj3) ?_
    refine sg_wb rfl rfl (fun h180 => ?_) (fun h180 => absurd (by rw [hs_D_K hi hn, hs_D_K (by omega) hn]; exact hj5) h180)
    refine sg_wr 2 rfl ?_
    exact hQ
theorem sd_p10 (h : rt_is M R n g K tp ds dc G) (hk : kc_ok n g K) {i : Nat} (hi : i < n) (hg : bt g (nI i) = false) (c : Int32)  {Q : Option Value ⊕ Nat → sg_M → Nat → Nat → Prop} (hQ : wpa Ls xs 140 111 [(0, .ref 128), (1, .int c), (2, .int (nI i)), (3, .int 2), (4, .int (hs_e (hs_D n K (nI i))))] [] M Q) : wpa Ls xs 140 111 [(0, .ref 128), (1, .int c), (2, .int (nI i)), (3, .int 1)] [] M Q := by
  obtain ⟨r128, rH, rD, r138, rG, rM⟩ := id h
  have hn := rH.2.2.2.1
  have hx : hs_th n g (nI i) := hs_n_th hi hn hg
  have hpf := sd_pf hk hn hi hg (s := hs_e (hs_D n K (nI i))) (by rw [hs_D_K hi hn]; exact Or.inr rfl)
  refine sg_wr 2 rfl ?_
  refine sg_wr 1 rfl ?_
  refine sg_wr 4 rfl ?_
  refine sg_wr 3 rfl ?_
  refine sg_p_callV rfl rfl rfl r128 rfl (Nat.le_of_ble_eq_true rfl) (Nat.le_of_ble_eq_true rfl) ((rt_parent h hx 1)) ?_
  refine sg_wr 1 rfl ?_
  rw [if_neg (show ¬ (1 : Int32) = 0 by decide)]
  generalize hs_e (hs_D n K (nI i)) = s at hpf hQ ⊢
  rcases hpf with rfl | ⟨j, hj1, rfl, hj3, hj4, hj5⟩
  · refine sg_wr 2 rfl ?_
    refine sg_wb rfl rfl (fun h136 => absurd (Int32.lt_of_lt_of_le (by decide : (-1 : Int32) < 0) (Int32.not_lt.mp (nI_pos (n := i) (by omega)))) (Int32.not_lt.mpr h136)) (fun _ => ?_)
    refine sg_wr 3 rfl ?_
    refine sg_wr 2 rfl ?_
    refine sg_wr 2 rfl ?_
    exact hQ
  · have hanc : ¬ nI j < 0 ∧ nI j < 60 ∧ bt (hs_a (hs_D n K (nI i))) (nI j) = true := ⟨nI_pos (by omega), nI_lt (b := 60) (by omega) (by decide), by rw [hs_D_K hi hn]; exact hj4⟩
    refine sg_wr 2 rfl ?_
    refine sg_wb rfl rfl (fun h136 => absurd h136 (nI_ge hj1 (by omega))) (fun h136 => ?_)
    refine sg_wr 2 rfl ?_
    refine sg_wb rfl rfl (fun h142 => absurd h142 (Int32.not_lt.mpr (Int32.le_trans (b := nI 0) (by decide) (nI_le (by omega) (by omega))))) (fun h142 => ?_)
    refine sg_wr 1 rfl ?_
    refine sg_wb rfl rfl (fun h147 => absurd h147 (nI_pos (by omega))) (fun _ => ?_)
    refine sg_wr 2 rfl ?_
    refine sg_r_callV rfl rfl rfl r128 rfl (Nat.le_of_ble_eq_true rfl) (Nat.le_of_ble_eq_true rfl) (rt_isThere h _) ?_
    rintro _ _ _ _ ⟨⟨v, rfl, hv⟩, rfl, rfl, rfl⟩
    refine sg_a0 ?_
    rcases hv with ⟨rfl, q⟩ | ⟨rfl, q⟩
    rotate_left
    · exact absurd hj3 q
    refine sg_wr 1 rfl ?_
    refine sg_wr 3 rfl ?_
    refine sg_r_callV rfl rfl rfl r128 rfl (Nat.le_of_ble_eq_true rfl) (Nat.le_of_ble_eq_true rfl) (rt_isAncestor h hj3 hx) ?_
    rintro _ _ _ _ ⟨⟨v, rfl, hv⟩, rfl, rfl, rfl⟩
    refine sg_a0 ?_
    rcases hv with ⟨rfl, q⟩ | ⟨rfl, q⟩
    rotate_left
    · exact absurd hanc q
    refine sg_wr 1 rfl ?_
    refine sg_wr 2 rfl ?_
    refine sg_p_callV rfl rfl rfl r128 rfl (Nat.le_of_ble_eq_true rfl) (Nat.le_of_ble_eq_true rfl) (rt_depthOf h hx) ?_
    refine sg_wr 2 rfl ?_
    refine sg_p_callV rfl rfl rfl r128 rfl (Nat.le_of_ble_eq_true rfl) (Nat.le_of_ble_eq_true rfl) (rt_depthOf h hj3) ?_
    refine sg_wb rfl rfl (fun h180 => ?_) (fun h180 => absurd (by rw [hs_D_K hi hn, hs_D_K (by omega) hn]; exact hj5) h180)
    refine sg_wr 2 rfl ?_
    exact hQ
theorem sd_p11 (h : rt_is M R n g K tp ds dc G) (hk : kc_ok n g K) {i : Nat} (hi : i < n) (hg : bt g (nI i) = false) (c : Int32) (a : Int32) {Q : Option Value ⊕ Nat → sg_M → Nat → Nat → Prop} (hQ : wpa Ls xs 140 111 [(0, .ref 128), (1, .int c), (2, .int (nI i)), (3, .int 2), (4, .int (hs_e (hs_D n K (nI i))))] [] M Q) : wpa Ls xs 140 111 [(0, .ref 128), (1, .int c), (2, .int (nI i)), (3, .int 1), (4, .int a)] [] M Q := by
  obtain ⟨r128, rH, rD, r138, rG, rM⟩ := id h
  have hn := rH.2.2.2.1
  have hx : hs_th n g (nI i) := hs_n_th hi hn hg
  have hpf := sd_pf hk hn hi hg (s := hs_e (hs_D n K (nI i))) (by rw [hs_D_K hi hn]; exact Or.inr rfl)
  refine sg_wr 2 rfl ?_
  refine sg_wr 1 rfl ?_
  refine sg_wr 4 rfl ?_
  refine sg_wr 3 rfl ?_
  refine sg_p_callV rfl rfl rfl r128 rfl (Nat.le_of_ble_eq_true rfl) (Nat.le_of_ble_eq_true rfl) ((rt_parent h hx 1)) ?_
  refine sg_wr 1 rfl ?_
  rw [if_neg (show ¬ (1 : Int32) = 0 by decide)]
  generalize hs_e (hs_D n K (nI i)) = s at hpf hQ ⊢
  rcases hpf with rfl | ⟨j, hj1, rfl, hj3, hj4, hj5⟩
  · refine sg_wr 2 rfl ?_
    refine sg_wb rfl rfl (fun h136 => absurd (Int32.lt_of_lt_of_le (by decide : (-1 : Int32) < 0) (Int32.not_lt.mp (nI_pos (n := i) (by omega)))) (Int32.not_lt.mpr h136)) (fun _ => ?_)
    refine sg_wr 3 rfl ?_
    refine sg_wr 2 rfl ?_
    refine sg_wr 2 rfl ?_
    exact hQ
  · have hanc : ¬ nI j < 0 ∧ nI j < 60 ∧ bt (hs_a (hs_D n K (nI i))) (nI j) = true := ⟨nI_pos (by omega), nI_lt (b := 60) (by omega) (by decide), by rw [hs_D_K hi hn]; exact hj4⟩
    refine sg_wr 2 rfl ?_
    refine sg_wb rfl rfl (fun h136 => absurd h136 (nI_ge hj1 (by omega))) (fun h136 => ?_)
    refine sg_wr 2 rfl ?_
    refine sg_wb rfl rfl (fun h142 => absurd h142 (Int32.not_lt.mpr (Int32.le_trans (b := nI 0) (by decide) (nI_le (by omega) (by omega))))) (fun h142 => ?_)
    refine sg_wr 1 rfl ?_
    refine sg_wb rfl rfl (fun h147 => absurd h147 (nI_pos (by omega))) (fun _ => ?_)
    refine sg_wr 2 rfl ?_
    refine sg_r_callV rfl rfl rfl r128 rfl (Nat.le_of_ble_eq_true rfl) (Nat.le_of_ble_eq_true rfl) (rt_isThere h _) ?_
    rintro _ _ _ _ ⟨⟨v, rfl, hv⟩, rfl, rfl, rfl⟩
    refine sg_a0 ?_
    rcases hv with ⟨rfl, q⟩ | ⟨rfl, q⟩
    rotate_left
    · exact absurd hj3 q
    refine sg_wr 1 rfl ?_
    refine sg_wr 3 rfl ?_
    refine sg_r_callV rfl rfl rfl r128 rfl (Nat.le_of_ble_eq_true rfl) (Nat.le_of_ble_eq_true rfl) (rt_isAncestor h hj3 hx) ?_
    rintro _ _ _ _ ⟨⟨v, rfl, hv⟩, rfl, rfl, rfl⟩
    refine sg_a0 ?_
    rcases hv with ⟨rfl, q⟩ | ⟨rfl, q⟩
    rotate_left
    · exact absurd hanc q
    refine sg_wr 1 rfl ?_
    refine sg_wr 2 rfl ?_
    refine sg_p_callV rfl rfl rfl r128 rfl (Nat.le_of_ble_eq_true rfl) (Nat.le_of_ble_eq_true rfl) (rt_depthOf h hx) ?_
    refine sg_wr 2 rfl ?_
    refine sg_p_callV rfl rfl rfl r128 rfl (Nat.le_of_ble_eq_true rfl) (Nat.le_of_ble_eq_true rfl) (rt_depthOf h hj3) ?_
    refine sg_wb rfl rfl (fun h180 => ?_) (fun h180 => absurd (by rw [hs_D_K hi hn, hs_D_K (by omega) hn]; exact hj5) h180)
    refine sg_wr 2 rfl ?_
    exact hQ
theorem sd_p12 (h : rt_is M R n g K tp ds dc G) (hk : kc_ok n g K) {i : Nat} (hi : i < n) (hg : bt g (nI i) = false) (c : Int32) (a b : Int32) {Q : Option Value ⊕ Nat → sg_M → Nat → Nat → Prop} (hQ : wpa Ls xs 140 111 [(0, .ref 128), (1, .int c), (2, .int (nI i)), (3, .int 2), (4, .int (hs_e (hs_D n K (nI i)))), (5, .int b)] [] M Q) : wpa Ls xs 140 111 [(0, .ref 128), (1, .int c), (2, .int (nI i)), (3, .int 1), (4, .int a), (5, .int b)] [] M Q := by
  obtain ⟨r128, rH, rD, r138, rG, rM⟩ := id h
  have hn := rH.2.2.2.1
  have hx : hs_th n g (nI i) := hs_n_th hi hn hg
  have hpf := sd_pf hk hn hi hg (s := hs_e (hs_D n K (nI i))) (by rw [hs_D_K hi hn]; exact Or.inr rfl)
  refine sg_wr 2 rfl ?_
  refine sg_wr 1 rfl ?_
  refine sg_wr 4 rfl ?_
  refine sg_wr 3 rfl ?_
  refine sg_p_callV rfl rfl rfl r128 rfl (Nat.le_of_ble_eq_true rfl) (Nat.le_of_ble_eq_true rfl) ((rt_parent h hx 1)) ?_
  refine sg_wr 1 rfl ?_
  rw [if_neg (show ¬ (1 : Int32) = 0 by decide)]
  generalize hs_e (hs_D n K (nI i)) = s at hpf hQ ⊢
  rcases hpf with rfl | ⟨j, hj1, rfl, hj3, hj4, hj5⟩
  · refine sg_wr 2 rfl ?_
    refine sg_wb rfl rfl (fun h136 => absurd (Int32.lt_of_lt_of_le (by decide : (-1 : Int32) < 0) (Int32.not_lt.mp (nI_pos (n := i) (by omega)))) (Int32.not_lt.mpr h136)) (fun _ => ?_)
    refine sg_wr 3 rfl ?_
    refine sg_wr 2 rfl ?_
    refine sg_wr 2 rfl ?_
    exact hQ
  · have hanc : ¬ nI j < 0 ∧ nI j < 60 ∧ bt (hs_a (hs_D n K (nI i))) (nI j) = true := ⟨nI_pos (by omega), nI_lt (b := 60) (by omega) (by decide), by rw [hs_D_K hi hn]; exact hj4⟩
    refine sg_wr 2 rfl ?_
    refine sg_wb rfl rfl (fun h136 => absurd h136 (nI_ge hj1 (by omega))) (fun h136 => ?_)
    refine sg_wr 2 rfl ?_
    refine sg_wb rfl rfl (fun h142 => absurd h142 (Int32.not_lt.mpr (Int32.le_trans (b := nI 0) (by decide) (nI_le (by omega) (by omega))))) (fun h142 => ?_)
    refine sg_wr 1 rfl ?_
    refine sg_wb rfl rfl (fun h147 => absurd h147 (nI_pos (by omega))) (fun _ => ?_)
    refine sg_wr 2 rfl ?_
    refine sg_r_callV rfl rfl rfl r128 rfl (Nat.le_of_ble_eq_true rfl) (Nat.le_of_ble_eq_true rfl) (rt_isThere h _) ?_
    rintro _ _ _ _ ⟨⟨v, rfl, hv⟩, rfl, rfl, rfl⟩
    refine sg_a0 ?_
    rcases hv with ⟨rfl, q⟩ | ⟨rfl, q⟩
    rotate_left
    · exact absurd hj3 q
    refine sg_wr 1 rfl ?_
    refine sg_wr 3 rfl ?_
    refine sg_r_callV rfl rfl rfl r128 rfl (Nat.le_of_ble_eq_true rfl) (Nat.le_of_ble_eq_true rfl) (rt_isAncestor h hj3 hx) ?_
    rintro _ _ _ _ ⟨⟨v, rfl, hv⟩, rfl, rfl, rfl⟩
    refine sg_a0 ?_
    rcases hv with ⟨rfl, q⟩ | ⟨rfl, q⟩
    rotate_left
    · exact absurd hanc q
    refine sg_wr 1 rfl ?_
    refine sg_wr 2 rfl ?_
    refine sg_p_callV rfl rfl rfl r128 rfl (Nat.le_of_ble_eq_true rfl) (Nat.le_of_ble_eq_true rfl) (rt_depthOf h hx) ?_
    refine sg_wr 2 rfl ?_
    refine sg_p_callV rfl rfl rfl r128 rfl (Nat.le_of_ble_eq_true rfl) (Nat.le_of_ble_eq_true rfl) (rt_depthOf h hj3) ?_
    refine sg_wb rfl rfl (fun h180 => ?_) (fun h180 => absurd (by rw [hs_D_K hi hn, hs_D_K (by omega) hn]; exact hj5) h180)
    refine sg_wr 2 rfl ?_
    exact hQ
end
end SGSE
