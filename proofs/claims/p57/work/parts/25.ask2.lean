section SGAL
section
variable {Ls : Nat} {xs : Nat → Int32} {M : sg_M} {R : rt_R} {n : Nat} {g : Int64} {K : Nat → hs_K} {tp ds dc : Nat → Int32} {G : mg_C}
theorem hs_th_n {x : Int32} (h : hs_th n g x) (hn : n ≤ 60) : ∃ j : Nat, j < n ∧ x = nI j ∧ bt g (nI j) = false := by
  obtain ⟨j, hj, rfl⟩ := nI_of h.1
  exact ⟨j, sg_ltn h.2.1 hj, rfl, h.2.2⟩
theorem hs_n_th {j : Nat} (hj : j < n) (hn : n ≤ 60) (hb : bt g (nI j) = false) : hs_th n g (nI j) := ⟨nI_pos (by omega), nI_ge hj (by omega), hb⟩
theorem tr_cnt_N {z : Int32} : tr_cnt (hs_fs hs_N) z = 0 := by
  unfold tr_cnt
  split
  · rfl
  · rename_i c1
    split
    · rename_i c2
      obtain ⟨j, hj, rfl⟩ := nI_of c1
      have e : hs_fs hs_N (nI j).toNatClampNeg = -1 := by
        rw [nI_clamp hj]
        exact if_pos ((nI_ltI (b := 8) hj (by decide)).mp c2)
      rw [e]
      rfl
    · rfl
theorem tr_cnt_sz {fs : Nat → Int32} {z : Int32} {na i : Nat} (hz : ¬ z < 0 ∧ z < 8) (ha : tr_cnt fs z = nI na) (ka : na ≤ 40) (hi : i < na) : nI i < tr_size fs z := by
  unfold tr_cnt at ha
  unfold tr_size
  rw [if_neg hz.1, if_pos hz.2] at ha ⊢
  by_cases c : fs z.toNatClampNeg < 0
  · rw [if_pos c] at ha
    have := (nI_eq (a := 0) (by decide) (by omega)).mp ha
    omega
  · rw [if_neg c] at ha
    rw [ha]
    exact nI_lt hi (by omega)
theorem tr_sz1 {a s : Int32} (h : ¬ a < 0 ∧ a < s) : 1 ≤ s := by
  obtain ⟨i, hi, rfl⟩ := nI_of h.1
  rcases sg_int s with c | ⟨j, hj, rfl⟩
  · exact absurd (Int32.lt_trans h.2 c) h.1
  · have := (nI_ltI hi hj).mp h.2
    exact nI_le (a := 1) (by omega) hj
/-- a parent that a line is from is there, and an ancestor too -/
theorem kc_par (hk : kc_ok n g K) (hn : n ≤ 60) {x w s z : Int32} {na i : Nat} (hx : hs_th n g x) (hw : hs_th n g w) (hb : bt (hs_a (hs_D n K x)) w = true) (hs : s = hs_f (hs_D n K w) ∨ s = hs_e (hs_D n K w)) (hz : ¬ z < 0 ∧ z < 8) (ha : tr_cnt (hs_fs (hs_D n K s)) z = nI na) (ka : na ≤ 40) (hi : i < na) : hs_th n g s ∧ bt (hs_a (hs_D n K x)) s = true ∧ ¬ nI i < 0 ∧ nI i < tr_size (hs_fs (hs_D n K s)) z := by
  refine (fun q => ⟨q.1, q.2, nI_pos (by omega), tr_cnt_sz hz ha ka hi⟩ : (hs_th n g s ∧ bt (hs_a (hs_D n K x)) s = true) → _) ?_
  obtain ⟨a, ha1, rfl, ha2⟩ := hs_th_n hx hn
  obtain ⟨j, hj1, rfl, hj2⟩ := hs_th_n hw hn
  rw [hs_D_K ha1 hn] at hb ⊢
  rw [hs_D_K hj1 hn] at hs
  obtain ⟨p1, p2, -, -, p5, p6, p7, p8⟩ := hk.2.2 j hj1
  have hja := (hk.2.2 a ha1).2.2.2.2.1 j (by omega) hb
  have key : kp_is s j ∧ (∀ q : Nat, q < j → s = nI q → bt (hs_a (K j)) (nI q) = true) := by
    rcases hs with rfl | rfl
    · exact ⟨p1, fun q hq e => p6 q hq (Or.inl e)⟩
    · exact ⟨p2, fun q hq e => p6 q hq (Or.inr e)⟩
  obtain ⟨k1 | ⟨q, k1, k2⟩, k3⟩ := key
  · rw [k1, hs_D_m1, tr_cnt_N] at ha
    have := (nI_eq (a := 0) (by decide) (by omega)).mp ha
    omega
  · have hq := k3 q k1 k2
    subst k2
    exact ⟨hs_n_th (by omega) hn (p8 hj2 q (by omega) hq), (hk.2.2 a ha1).2.2.2.2.2.2.1 j hja hb q (by omega) hq⟩
def rt_bP (n : Nat) (g : Int64) (K : Nat → hs_K) (x z w : Int32) : Prop := hs_th n g w ∧ bt (hs_a (hs_D n K x)) w = true ∧ 1 ≤ tr_size (hs_fs (hs_D n K w)) z
theorem rt_vq_tr {P : Int32 → Prop} {M1 : sg_M} {k pc : Nat} {L : sg_L} {st : List Value} (h : wpa Ls xs k pc L st M1 (rt_vq M1 R n g K tp ds dc G P)) (o1 : sg_out [139, 140, 141, 142] M M1) : wpa Ls xs k pc L st M1 (rt_vq M R n g K tp ds dc G P) :=
  h.mono fun r M2 c s ⟨e1, ⟨q1, q2⟩, e2, e3⟩ => ⟨e1, ⟨q1, o1.tr q2 (fun _ z => z)⟩, e2, e3⟩
theorem rt_bl_loop (hk : kc_ok n g K) {x z p : Int32} (hx : hs_th n g x) (hz : ¬ z < 0 ∧ z < 8) : ∀ (d i : Nat) (M : sg_M) (w u : Int32) (T : sg_L), rt_is M R n g K tp ds dc G → hs_th n g w → bt (hs_a (hs_D n K x)) w = true → (¬ u < 0 ∧ u < tr_size (hs_fs (hs_D n K w)) z) → d = 60 - i → i ≤ 60 → (T = [] ∨ ∃ (q : Nat) (a b : Int32), T = [(7, .ref q), (8, .int a), (9, .int b)]) → wpa Ls xs 96 16 ([(0, .ref 128), (1, .int x), (2, .int z), (3, .int p), (4, .int w), (5, .int u), (6, .int (nI i))] ++ T) [] M (rt_vq M R n g K tp ds dc G (rt_bP n g K x z)) := by
  intro d
  induction d with
  | zero =>
    intro i M w u T h hw hb hu hd hi hT
    have e : i = 60 := by omega
    subst e
    rcases hT with rfl | ⟨q, a, b, rfl⟩ <;> (refine sg_wr 4 rfl ?_; exact sg_we rfl rfl ⟨⟨_, rfl, hw, hb, tr_sz1 hu⟩, ⟨h, sg_out.rf⟩, rfl, rfl⟩)
  | succ d ih =>
    intro i M w u T h hw hb hu hd hi hT
    obtain ⟨r128, rH, rD, r138, rG, rM⟩ := id h
    have hn := rH.2.2.2.1
    have hlt : i < 60 := by omega
    have k80 : ∀ (M1 : sg_M) (q : Nat) (s v : Int32), rt_is M1 R n g K tp ds dc G → sg_out [139, 140, 141, 142] M M1 → (s = hs_f (hs_D n K w) ∨ s = hs_e (hs_D n K w)) → (v = -1 ∨ ∃ na i : Nat, i < na ∧ na ≤ 40 ∧ tr_cnt (hs_fs (hs_D n K s)) z = nI na ∧ v = nI i) → wpa Ls xs 96 80 [(0, .ref 128), (1, .int x), (2, .int z), (3, .int p), (4, .int w), (5, .int u), (6, .int (nI i)), (7, .ref q), (8, .int s), (9, .int v)] [] M1 (rt_vq M R n g K tp ds dc G (rt_bP n g K x z)) := by
      intro M1 q s v h1 o1 hs hv
      refine sg_wr 2 rfl ?_
      refine sg_wb rfl rfl (fun h83 => ?_) (fun h83 => ?_)
      · refine sg_wr 6 rfl ?_
        rcases hv with rfl | ⟨na, i1, c1, c2, c3, rfl⟩
        · exact absurd rfl h83
        · obtain ⟨e1, e2, e3⟩ := kc_par hk hn hx hw hb hs hz c3 c2 c1
          have h9 := ih (i + 1) M1 s (nI i1) [(7, .ref q), (8, .int s), (9, .int (nI i1))] h1 e1 e2 e3 (by omega) hlt (Or.inr ⟨_, _, _, rfl⟩)
          rw [nI_succ] at h9
          exact rt_vq_tr h9 o1
      · refine sg_wr 1 rfl ?_
        exact sg_we rfl rfl ⟨⟨_, rfl, hw, hb, tr_sz1 hu⟩, ⟨h1, o1⟩, rfl, rfl⟩
    rcases hT with rfl | ⟨q, a, b, rfl⟩
    · refine sg_wr 2 rfl ?_
      refine sg_wb rfl rfl (fun h20 => absurd h20 (nI_ge (b := 60) hlt (by decide))) (fun h20 => ?_)
      refine sg_wr 1 rfl ?_
      refine sg_r_getf rfl r128 rfl ?_
      refine sg_wr 1 rfl ?_
      refine sg_p_callV rfl rfl rfl rH.1 rfl (Nat.le_of_ble_eq_true rfl) (Nat.le_of_ble_eq_true rfl) (hs_at rH w) ?_
      refine sg_wr 2 rfl ?_
      refine sg_r_getf rfl (hs_get rH w).1 rfl ?_
      refine sg_wr 6 rfl ?_
      refine sg_r_callV rfl rfl rfl h.1 rfl (Nat.le_of_ble_eq_true rfl) (Nat.le_of_ble_eq_true rfl) (rt_placeBefore h hk _ w z u) ?_
      rintro _ M1 _ _ ⟨⟨v1, rfl, hv1⟩, ⟨h1_, o1⟩, rfl, rfl⟩
      refine sg_a0 ?_
      refine sg_wr 3 rfl ?_
      refine sg_wb rfl rfl (fun h57 => ?_) (fun h57 => ?_)
      · exact k80 M1 _ _ v1 h1_ o1 (Or.inl rfl) hv1
      · refine sg_wr 1 rfl ?_
        refine sg_r_getf rfl (hs_get h1_.2.1 w).1 rfl ?_
        refine sg_wr 6 rfl ?_
        refine sg_r_callV rfl rfl rfl h1_.1 rfl (Nat.le_of_ble_eq_true rfl) (Nat.le_of_ble_eq_true rfl) (rt_placeBefore h1_ hk _ w z u) ?_
        rintro _ M2 _ _ ⟨⟨v2, rfl, hv2⟩, ⟨h2_, o2⟩, rfl, rfl⟩
        refine sg_a0 ?_
        refine sg_wr 1 rfl ?_
        exact k80 M2 _ _ v2 h2_ (o1.tr o2 (fun _ z => z)) (Or.inr rfl) hv2
    · refine sg_wr 2 rfl ?_
      refine sg_wb rfl rfl (fun h20 => absurd h20 (nI_ge (b := 60) hlt (by decide))) (fun h20 => ?_)
      refine sg_wr 1 rfl ?_
      refine sg_r_getf rfl r128 rfl ?_
      refine sg_wr 1 rfl ?_
      refine sg_p_callV rfl rfl rfl rH.1 rfl (Nat.le_of_ble_eq_true rfl) (Nat.le_of_ble_eq_true rfl) (hs_at rH w) ?_
      refine sg_wr 2 rfl ?_
      refine sg_r_getf rfl (hs_get rH w).1 rfl ?_
      refine sg_wr 6 rfl ?_
      refine sg_r_callV rfl rfl rfl h.1 rfl (Nat.le_of_ble_eq_true rfl) (Nat.le_of_ble_eq_true rfl) (rt_placeBefore h hk _ w z u) ?_
      rintro _ M1 _ _ ⟨⟨v1, rfl, hv1⟩, ⟨h1_, o1⟩, rfl, rfl⟩
      refine sg_a0 ?_
      refine sg_wr 3 rfl ?_
      refine sg_wb rfl rfl (fun h57 => ?_) (fun h57 => ?_)
      · exact k80 M1 _ _ v1 h1_ o1 (Or.inl rfl) hv1
      · refine sg_wr 1 rfl ?_
        refine sg_r_getf rfl (hs_get h1_.2.1 w).1 rfl ?_
        refine sg_wr 6 rfl ?_
        refine sg_r_callV rfl rfl rfl h1_.1 rfl (Nat.le_of_ble_eq_true rfl) (Nat.le_of_ble_eq_true rfl) (rt_placeBefore h1_ hk _ w z u) ?_
        rintro _ M2 _ _ ⟨⟨v2, rfl, hv2⟩, ⟨h2_, o2⟩, rfl, rfl⟩
        refine sg_a0 ?_
        refine sg_wr 1 rfl ?_
        exact k80 M2 _ _ v2 h2_ (o1.tr o2 (fun _ z => z)) (Or.inr rfl) hv2

theorem rt_blame (h : rt_is M R n g K tp ds dc G) (hk : kc_ok n g K) {x z p : Int32} (hx : hs_th n g x) (hz : ¬ z < 0 ∧ z < 8) (hp : ¬ p < 0 ∧ p < tr_size (hs_fs (hs_D n K x)) z) : wpm Ls xs 96 [.ref 128, .int x, .int z, .int p] M (rt_vq M R n g K tp ds dc G (rt_bP n g K x z)) := by
  obtain ⟨r128, rH, rD, r138, rG, rM⟩ := id h
  have hn := rH.2.2.2.1
  have hself : bt (hs_a (hs_D n K x)) x = true := by
    obtain ⟨a, a1, rfl, -⟩ := hs_th_n hx hn
    rw [hs_D_K a1 hn]
    exact (hk.2.2 a a1).2.2.2.1
  refine sg_wr 4 rfl ?_
  refine sg_p_callV rfl rfl rfl r128 rfl (Nat.le_of_ble_eq_true rfl) (Nat.le_of_ble_eq_true rfl) (rt_needLine h hx hz hp) ?_
  refine sg_wr 6 rfl ?_
  exact rt_bl_loop hk hx hz 60 0 M x p [] h hx hself hp rfl (by decide) (Or.inl rfl)
theorem rt_is.mg (h : rt_is M R n g K tp ds dc G) {M1 : sg_M} {G1 : mg_C} (h1 : mg_is M1 G1) (ho : sg_out mg_F M M1) : rt_is M1 R n g K tp ds dc G1 := by
  obtain ⟨r128, rH, rD, r138, rG, l, b, a, p, m1, m2, m3, m4⟩ := h
  exact ⟨(ho.1 _ (by decide)).trans r128, rH.out ho (fun q hq => by
    simp only [List.mem_cons, List.not_mem_nil, or_false] at hq
    omega), rD.out ho (by decide) (by decide) (by decide), (ho.1 _ (by decide)).trans r138, h1, l, b, a, p, (ho.1 _ (by decide)).trans m1, (ho.1 _ (by decide)).trans m2, (ho.1 _ (by decide)).trans m3, (ho.1 _ (by decide)).trans m4⟩
def rt_rdy (R : rt_R) (n : Nat) (K : Nat → hs_K) (tp ds dc : Nat → Int32) : Prop := nI R.wk = 0 ∧ ¬ rt_hc tp R = -1 ∧ rt_cl R n K tp ds dc
theorem rt_needReady (h : rt_is M R n g K tp ds dc G) : wpm Ls xs 121 [.ref 128] M (sg_nq (rt_rdy R n K tp ds dc) M) := by
  obtain ⟨r128, rH, rD, r138, rG, rM⟩ := id h
  refine sg_wr 1 rfl ?_
  refine sg_n_callV rfl rfl rfl r128 rfl (Nat.le_of_ble_eq_true rfl) (Nat.le_of_ble_eq_true rfl) (rt_needNoWork h) (fun hw => ?_) (fun hp E hE => Or.inr ⟨fun q => hp q.1, ⟨E, hE, rfl⟩, rfl, rfl, rfl⟩)
  refine sg_wr 1 rfl ?_
  refine sg_p_callV rfl rfl rfl r128 rfl (Nat.le_of_ble_eq_true rfl) (Nat.le_of_ble_eq_true rfl) (rt_headCommit h) ?_
  refine sg_wr 1 rfl ?_
  refine sg_wb rfl rfl (fun h9 => ?_) (fun h9 => ?_)
  · exact sg_r_thr rfl (Nat.le_of_ble_eq_true rfl) (Or.inr ⟨fun q => q.2.1 h9, ⟨_, by decide, rfl⟩, rfl, rfl, rfl⟩)
  · refine sg_wr 1 rfl ?_
    refine sg_r_callV rfl rfl rfl r128 rfl (Nat.le_of_ble_eq_true rfl) (Nat.le_of_ble_eq_true rfl) (rt_isClean h) ?_
    rintro _ _ _ _ ⟨⟨v, rfl, hv⟩, rfl, rfl, rfl⟩
    refine sg_a0 ?_
    refine sg_wb rfl rfl (fun h16 => ?_) (fun h16 => ?_)
    · exact sg_we rfl rfl (by
          rcases hv with ⟨rfl, q⟩ | ⟨rfl, q⟩
          · exact Or.inl ⟨⟨hw, h9, q⟩, rfl, rfl, rfl, rfl⟩
          · exact absurd rfl h16)
    · exact sg_r_thr rfl (Nat.le_of_ble_eq_true rfl) (by
          rcases hv with ⟨rfl, q⟩ | ⟨rfl, q⟩
          · exact absurd (by decide) h16
          · exact Or.inr ⟨fun z => q z.2.2, ⟨_, by decide, rfl⟩, rfl, rfl, rfl⟩)
theorem rt_needReadyFor (h : rt_is M R n g K tp ds dc G) (x : Int32) : wpm Ls xs 122 [.ref 128, .int x] M (sg_nq (rt_rdy R n K tp ds dc ∧ ¬ rt_co tp x = -1) M) := by
  obtain ⟨r128, rH, rD, r138, rG, rM⟩ := id h
  refine sg_wr 1 rfl ?_
  refine sg_n_callV rfl rfl rfl r128 rfl (Nat.le_of_ble_eq_true rfl) (Nat.le_of_ble_eq_true rfl) (rt_needReady h) (fun hw => ?_) (fun hp E hE => Or.inr ⟨fun q => hp q.1, ⟨E, hE, rfl⟩, rfl, rfl, rfl⟩)
  refine sg_wr 2 rfl ?_
  refine sg_p_callV rfl rfl rfl r128 rfl (Nat.le_of_ble_eq_true rfl) (Nat.le_of_ble_eq_true rfl) (rt_commitOf h _) ?_
  refine sg_wr 1 rfl ?_
  refine sg_wb rfl rfl (fun h10 => ?_) (fun h10 => ?_)
  · exact sg_we rfl rfl (Or.inl ⟨⟨hw, h10⟩, rfl, rfl, rfl, rfl⟩)
  · exact sg_r_thr rfl (Nat.le_of_ble_eq_true rfl) (Or.inr ⟨fun q => h10 q.2, ⟨_, by decide, rfl⟩, rfl, rfl, rfl⟩)
/-- merging is of three trees of commits -/
def mg_ok (M : sg_M) (G : mg_C) : Prop := mg_tr M G ∧ G.pc ≤ 328 ∧ G.cc ≤ 328 ∧ tr_ti G.fs
theorem rt_wouldConflict (h : rt_is M R n g K tp ds dc G) (hk : kc_ok n g K) {x : Int32} (hx : hs_th n g x) (hr : rt_rdy R n K tp ds dc) : wpm Ls xs 103 [.ref 128, .int x] M (fun r M1 c s => (∃ G1 : mg_C, r = .inl (some (.int (nI G1.cc))) ∧ rt_is M1 R n g K tp ds dc G1 ∧ sg_out mg_F M M1 ∧ mg_ok M1 G1 ∧ (x = rt_hc tp R → G1.cc = 0)) ∧ c = 0 ∧ s = 0) := by
  obtain ⟨r128, rH, rD, r138, rG, rM⟩ := id h
  refine sg_wr 2 rfl ?_
  refine sg_n_callV rfl rfl rfl r128 rfl (Nat.le_of_ble_eq_true rfl) (Nat.le_of_ble_eq_true rfl) (rt_needThere h x) (fun _ => ?_) (fun hp => absurd hx hp)
  refine sg_wr 1 rfl ?_
  refine sg_n_callV rfl rfl rfl r128 rfl (Nat.le_of_ble_eq_true rfl) (Nat.le_of_ble_eq_true rfl) (rt_needReady h) (fun _ => ?_) (fun hp => absurd hr hp)
  refine sg_wr 1 rfl ?_
  refine sg_r_getf rfl r128 rfl ?_
  refine sg_wr 2 rfl ?_
  refine sg_p_callV rfl rfl rfl r128 rfl (Nat.le_of_ble_eq_true rfl) (Nat.le_of_ble_eq_true rfl) (rt_parentTreeOf h x) ?_
  refine sg_wr 2 rfl ?_
  refine sg_p_callV rfl rfl rfl r128 rfl (Nat.le_of_ble_eq_true rfl) (Nat.le_of_ble_eq_true rfl) (rt_headCommit h) ?_
  refine sg_p_callV rfl rfl rfl r128 rfl (Nat.le_of_ble_eq_true rfl) (Nat.le_of_ble_eq_true rfl) (rt_treeOf h _) ?_
  refine sg_wr 2 rfl ?_
  refine sg_p_callV rfl rfl rfl r128 rfl (Nat.le_of_ble_eq_true rfl) (Nat.le_of_ble_eq_true rfl) (rt_treeOf h x) ?_
  refine sg_r_callV rfl rfl rfl rG.1 rfl (Nat.le_of_ble_eq_true rfl) (Nat.le_of_ble_eq_true rfl) (mg_start rG (hs_mgt rH hk _) (hs_mgt rH hk _) (hs_mgt rH hk _)) ?_
  rintro _ M1 _ _ ⟨rfl, ⟨G1, q1, q2, q3, q4, q5, q6, q7, q8, q9, q10⟩, rfl, rfl⟩
  refine sg_a0 ?_
  have h1 := h.mg q1 q2
  refine sg_wr 1 rfl ?_
  refine sg_r_getf rfl h1.1 rfl ?_
  refine sg_p_callV rfl rfl rfl q1.1 rfl (Nat.le_of_ble_eq_true rfl) (Nat.le_of_ble_eq_true rfl) (mg_count q1) ?_
  exact sg_we rfl rfl ⟨⟨G1, rfl, h1, q2, ⟨q3, q7, q8, q9⟩, fun z => q10 (by rw [z])⟩, rfl, rfl⟩
/-- what a merge would answer -/
def rt_mP (M1 : sg_M) (n : Nat) (K : Nat → hs_K) (c b v : Int32) (G G1 : mg_C) : Prop := (v = 0 ∧ G1 = G ∧ (¬ b < 0 ∧ b < 60 ∧ bt (hs_a (hs_D n K c)) b = true)) ∨ (¬ (¬ b < 0 ∧ b < 60 ∧ bt (hs_a (hs_D n K c)) b = true) ∧ ((v = 1 ∧ G1 = G ∧ (¬ c < 0 ∧ c < 60 ∧ bt (hs_a (hs_D n K b)) c = true)) ∨ (¬ (¬ c < 0 ∧ c < 60 ∧ bt (hs_a (hs_D n K b)) c = true) ∧ mg_ok M1 G1 ∧ ((v = 2 ∧ G1.cc = 0) ∨ (v = 3 ∧ 0 < G1.cc)))))
abbrev rt_mq (M : sg_M) (R : rt_R) (n : Nat) (g : Int64) (K : Nat → hs_K) (tp ds dc : Nat → Int32) (G : mg_C) (b : Int32) : Option Value ⊕ Nat → sg_M → Nat → Nat → Prop := fun r M1 c s => (∃ (v : Int32) (G1 : mg_C), r = .inl (some (.int v)) ∧ rt_is M1 R n g K tp ds dc G1 ∧ sg_out mg_F M M1 ∧ rt_mP M1 n K (rt_hc tp R) b v G G1) ∧ c = 0 ∧ s = 0
theorem rt_tryMerge (h : rt_is M R n g K tp ds dc G) (hk : kc_ok n g K) (b : Int32) : wpm Ls xs 132 [.ref 128, .int b] M (rt_mq M R n g K tp ds dc G b) := by
  obtain ⟨r128, rH, rD, r138, rG, rM⟩ := id h
  refine sg_wr 1 rfl ?_
  refine sg_p_callV rfl rfl rfl r128 rfl (Nat.le_of_ble_eq_true rfl) (Nat.le_of_ble_eq_true rfl) (rt_headCommit h) ?_
  refine sg_wr 2 rfl ?_
  refine sg_r_getf rfl r128 rfl ?_
  refine sg_wr 1 rfl ?_
  refine sg_p_callV rfl rfl rfl rH.1 rfl (Nat.le_of_ble_eq_true rfl) (Nat.le_of_ble_eq_true rfl) (hs_at rH _) ?_
  refine sg_wr 1 rfl ?_
  refine sg_r_callV rfl rfl rfl (hs_get rH _).1 rfl (Nat.le_of_ble_eq_true rfl) (Nat.le_of_ble_eq_true rfl) (cm_desc (hs_get rH _) b) ?_
  rintro _ _ _ _ ⟨⟨v, rfl, hv⟩, rfl, rfl, rfl⟩
  refine sg_a0 ?_
  refine sg_wb rfl rfl (fun h17 => ?_) (fun h17 => ?_)
  · refine sg_wr 1 rfl ?_
    refine sg_r_getf rfl r128 rfl ?_
    refine sg_wr 1 rfl ?_
    refine sg_p_callV rfl rfl rfl rH.1 rfl (Nat.le_of_ble_eq_true rfl) (Nat.le_of_ble_eq_true rfl) (hs_at rH _) ?_
    refine sg_wr 1 rfl ?_
    refine sg_r_callV rfl rfl rfl (hs_get rH _).1 rfl (Nat.le_of_ble_eq_true rfl) (Nat.le_of_ble_eq_true rfl) (cm_desc (hs_get rH _) (rt_hc tp R)) ?_
    rintro _ _ _ _ ⟨⟨v2, rfl, hv2⟩, rfl, rfl, rfl⟩
    refine sg_a0 ?_
    refine sg_wb rfl rfl (fun h34 => ?_) (fun h34 => ?_)
    · refine sg_wr 1 rfl ?_
      refine sg_r_getf rfl r128 rfl ?_
      refine sg_wr 2 rfl ?_
      refine sg_r_getf rfl r128 rfl ?_
      refine sg_wr 2 rfl ?_
      refine sg_p_callV rfl rfl rfl rH.1 rfl (Nat.le_of_ble_eq_true rfl) (Nat.le_of_ble_eq_true rfl) (hs_base rH _ _) ?_
      refine sg_p_callV rfl rfl rfl r128 rfl (Nat.le_of_ble_eq_true rfl) (Nat.le_of_ble_eq_true rfl) (rt_treeOf h _) ?_
      refine sg_wr 2 rfl ?_
      refine sg_p_callV rfl rfl rfl r128 rfl (Nat.le_of_ble_eq_true rfl) (Nat.le_of_ble_eq_true rfl) (rt_treeOf h _) ?_
      refine sg_wr 2 rfl ?_
      refine sg_p_callV rfl rfl rfl r128 rfl (Nat.le_of_ble_eq_true rfl) (Nat.le_of_ble_eq_true rfl) (rt_treeOf h _) ?_
      refine sg_r_callV rfl rfl rfl rG.1 rfl (Nat.le_of_ble_eq_true rfl) (Nat.le_of_ble_eq_true rfl) (mg_start rG (hs_mgt rH hk _) (hs_mgt rH hk _) (hs_mgt rH hk _)) ?_
      rintro _ M1 _ _ ⟨rfl, ⟨G1, q1, q2, q3, q4, q5, q6, q7, q8, q9, q10⟩, rfl, rfl⟩
      refine sg_a0 ?_
      have h1 := h.mg q1 q2
      refine sg_wr 1 rfl ?_
      refine sg_r_getf rfl h1.1 rfl ?_
      refine sg_p_callV rfl rfl rfl q1.1 rfl (Nat.le_of_ble_eq_true rfl) (Nat.le_of_ble_eq_true rfl) (mg_count q1) ?_
      refine sg_wb rfl rfl (fun h76 => ?_) (fun h76 => ?_)
      · refine sg_wr 1 rfl ?_
        exact sg_we rfl rfl (by
              rcases hv with ⟨rfl, q⟩ | ⟨rfl, q⟩
              · exact absurd h17 (by decide)
              · rcases hv2 with ⟨rfl, qq⟩ | ⟨rfl, qq⟩
                · exact absurd h34 (by decide)
                · exact ⟨⟨_, G1, rfl, h1, q2, Or.inr ⟨q, Or.inr ⟨qq, ⟨q3, q7, q8, q9⟩, Or.inl ⟨rfl, Nat.le_zero.mp ((nI_leI (b := 0) (by omega) (by decide)).mp h76)⟩⟩⟩⟩, rfl, rfl⟩)
      · refine sg_wr 2 rfl ?_
        exact sg_we rfl rfl (by
              rcases hv with ⟨rfl, q⟩ | ⟨rfl, q⟩
              · exact absurd h17 (by decide)
              · rcases hv2 with ⟨rfl, qq⟩ | ⟨rfl, qq⟩
                · exact absurd h34 (by decide)
                · exact ⟨⟨_, G1, rfl, h1, q2, Or.inr ⟨q, Or.inr ⟨qq, ⟨q3, q7, q8, q9⟩, Or.inr ⟨rfl, Nat.pos_of_ne_zero (fun z => h76 (by rw [z]; exact Int32.le_rfl))⟩⟩⟩⟩, rfl, rfl⟩)
    · refine sg_wr 1 rfl ?_
      exact sg_we rfl rfl (by
              rcases hv with ⟨rfl, q⟩ | ⟨rfl, q⟩
              · exact absurd h17 (by decide)
              · rcases hv2 with ⟨rfl, q2⟩ | ⟨rfl, q2⟩
                · exact ⟨⟨_, G, rfl, h, sg_out.rf, Or.inr ⟨q, Or.inl ⟨rfl, rfl, q2⟩⟩⟩, rfl, rfl⟩
                · exact absurd rfl h34)
  · refine sg_wr 1 rfl ?_
    exact sg_we rfl rfl (by
              rcases hv with ⟨rfl, q⟩ | ⟨rfl, q⟩
              · exact ⟨⟨_, G, rfl, h, sg_out.rf, Or.inl ⟨rfl, rfl, q⟩⟩, rfl, rfl⟩
              · exact absurd rfl h17)
theorem rt_wouldMerge (h : rt_is M R n g K tp ds dc G) (hk : kc_ok n g K) {x : Int32} (hb : ¬ rt_co tp x = -2) (hb1 : ¬ rt_co tp x = -1) (hr : rt_rdy R n K tp ds dc) : wpm Ls xs 102 [.ref 128, .int x] M (rt_mq M R n g K tp ds dc G (rt_co tp x)) := by
  obtain ⟨r128, rH, rD, r138, rG, rM⟩ := id h
  refine sg_wr 2 rfl ?_
  refine sg_n_callV rfl rfl rfl r128 rfl (Nat.le_of_ble_eq_true rfl) (Nat.le_of_ble_eq_true rfl) (rt_needBranch h x) (fun _ => ?_) (fun hp => absurd hb hp)
  refine sg_wr 2 rfl ?_
  refine sg_n_callV rfl rfl rfl r128 rfl (Nat.le_of_ble_eq_true rfl) (Nat.le_of_ble_eq_true rfl) (rt_needReadyFor h x) (fun _ => ?_) (fun hp => absurd ⟨hr, hb1⟩ hp)
  refine sg_wr 3 rfl ?_
  refine sg_p_callV rfl rfl rfl r128 rfl (Nat.le_of_ble_eq_true rfl) (Nat.le_of_ble_eq_true rfl) (rt_commitOf h x) ?_
  refine sg_r_callV rfl rfl rfl r128 rfl (Nat.le_of_ble_eq_true rfl) (Nat.le_of_ble_eq_true rfl) (rt_tryMerge h hk _) ?_
  rintro _ M1 _ _ ⟨⟨v, G1, rfl, q⟩, rfl, rfl⟩
  refine sg_a0 ?_
  exact sg_we rfl rfl ⟨⟨v, G1, rfl, q⟩, rfl, rfl⟩
end
end SGAL
