section SGQU
section
variable {Ls : Nat} {xs : Nat → Int32} {M : sg_M} {R : rt_R} {n : Nat} {g : Int64} {K : Nat → hs_K} {tp ds dc : Nat → Int32} {G : mg_C}
theorem rt_cq_loop : ∀ (m i : Nat) (M : sg_M) (R : rt_R) (n : Nat) (G : mg_C) (T : sg_L), m = 60 - i → i ≤ 60 → rt_pl M R n g G → R.hd < 8 → R.wk = 0 → (R.wm = 0 ∨ R.wm = 1) → mg_b G → kt_is n g R.ws → (T = [] ∨ ∃ x : Int64, T = [(2, .long x)]) → wpa Ls xs 137 2 ([(0, .ref 128), (1, .int (nI i))] ++ T) [] M (iq n) := by
  intro m
  induction m with
  | zero =>
    intro i M R n G T hm hi h hh hw hwm hg hws hT
    have e : i = 60 := by omega
    subst e
    have hiv : iv M n := iv_pl h hh hg hw hwm
    obtain ⟨K, tp, ds, dc, h1, -⟩ := h
    have r128 := h1.1
    refine sg_wr 4 rfl ?_
    refine sg_r_getf rfl r128 rfl ?_
    rcases hwm with z | z
    · rw [z]
      refine sg_wr 2 rfl ?_
      exact sg_we rfl rfl ⟨⟨_, rfl⟩, n, hiv, by omega, by omega⟩
    · rw [z]
      refine sg_wr 3 rfl ?_
      exact sg_we rfl rfl ⟨⟨_, rfl⟩, n, hiv, by omega, by omega⟩
  | succ m ih =>
    intro i M R n G T hm hi h hh hw hwm hg hws hT
    have hlt : i < 60 := by omega
    have k108 : ∀ (M1 : sg_M) (R1 : rt_R) (n1 : Nat) (G1 : mg_C) (x : Int64), rt_pl M1 R1 n1 g G1 → R1.hd < 8 → R1.wk = 0 → (R1.wm = 0 ∨ R1.wm = 1) → mg_b G1 → kt_is n1 g R1.ws → wpa Ls xs 137 108 [(0, .ref 128), (1, .int (nI i)), (2, .long x)] [] M1 (iq n1) := by
      intro M1 R1 n1 G1 x a1 a2 a3 a4 a5 a6
      refine sg_wr 2 rfl ?_
      have h9 := ih (i + 1) M1 R1 n1 G1 [(2, .long x)] (by omega) hlt a1 a2 a3 a4 a5 a6 (Or.inr ⟨x, rfl⟩)
      rw [nI_succ] at h9
      exact h9
    have k105 : ∀ (M1 : sg_M) (R1 : rt_R) (n1 : Nat) (G1 : mg_C) (x : Int64) (b : Int32), rt_pl M1 R1 n1 g G1 → R1.hd < 8 → R1.wk = 0 → (b = 0 ∨ b = 1) → mg_b G1 → kt_is n1 g R1.ws → wpa Ls xs 137 105 [(0, .ref 128), (1, .int (nI i)), (2, .long x)] [.int b, .ref 128] M1 (iq n1) := by
      intro M1 R1 n1 G1 x b a1 a2 a3 a4 a5 a6
      obtain ⟨K, tp, ds, dc, h1, hb, hk, ht, hd, hcl⟩ := a1
      have r128 := h1.1
      have hp : rt_pl (sg_up M1.1 128 (.inr (5, rt_fs (rt_mk R1.hd R1.su R1.wk R1.ws R1.wc R1.wq b))), M1.2) (rt_mk R1.hd R1.su R1.wk R1.ws R1.wc R1.wq b) n1 g G1 := ⟨K, tp, ds, dc, h1.r _, hb, hk, ht, hd, hcl⟩
      rcases a4 with rfl | rfl
      · refine sg_r_putf rfl r128 (Nat.le_of_ble_eq_true rfl) rfl ?_
        exact k108 _ _ n1 G1 x hp a2 a3 (Or.inl rfl) a5 a6
      · refine sg_r_putf rfl r128 (Nat.le_of_ble_eq_true rfl) rfl ?_
        exact k108 _ _ n1 G1 x hp a2 a3 (Or.inr rfl) a5 a6
    have k37 : ∀ (M : sg_M) (R : rt_R) (x : Int64), rt_pl M R n g G → R.hd < 8 → R.wk = 0 → (R.wm = 0 ∨ R.wm = 1) → kt_is n g R.ws → wpa Ls xs 137 37 [(0, .ref 128), (1, .int (nI i)), (2, .long x)] [] M (iq n) := by
      intro M R x h hh hw hwm hws
      obtain ⟨K, tp, ds, dc, h1, hb, hk, ht, hd, hcl⟩ := id h
      obtain ⟨r128, rH, rD, r138, rG, rM⟩ := id h1
      refine sg_wr 1 rfl ?_
      refine sg_r_getf rfl r128 rfl ?_
      refine sg_wr 2 rfl ?_
      refine sg_p_callV rfl rfl rfl r128 rfl (Nat.le_of_ble_eq_true rfl) (Nat.le_of_ble_eq_true rfl) (rt_parentTreeOf h1 _) ?_
      refine sg_wr 2 rfl ?_
      refine sg_p_callV rfl rfl rfl r128 rfl (Nat.le_of_ble_eq_true rfl) (Nat.le_of_ble_eq_true rfl) (rt_headCommit h1) ?_
      refine sg_p_callV rfl rfl rfl r128 rfl (Nat.le_of_ble_eq_true rfl) (Nat.le_of_ble_eq_true rfl) (rt_treeOf h1 _) ?_
      refine sg_wr 2 rfl ?_
      refine sg_p_callV rfl rfl rfl r128 rfl (Nat.le_of_ble_eq_true rfl) (Nat.le_of_ble_eq_true rfl) (rt_treeOf h1 _) ?_
      refine sg_r_callV rfl rfl rfl rG.1 rfl (Nat.le_of_ble_eq_true rfl) (Nat.le_of_ble_eq_true rfl) (mg_start rG (hs_mgt rH hk _) (hs_mgt rH hk _) (hs_mgt rH hk _)) ?_
      rintro _ M1 _ _ ⟨rfl, ⟨G1, q1, q2, q3, q4, q5, q6, q7, q8, q9, q10⟩, rfl, rfl⟩
      refine sg_a0 ?_
      have h2 := h1.mg q1 q2
      have s128 := h2.1
      have hgb : mg_b G1 := ⟨q7, q8, q9⟩
      have hp : rt_pl M1 R n g G1 := ⟨K, tp, ds, dc, h2, hb, hk, ht, hd, hcl⟩
      refine sg_wr 1 rfl ?_
      refine sg_r_getf rfl s128 rfl ?_
      refine sg_p_callV rfl rfl rfl q1.1 rfl (Nat.le_of_ble_eq_true rfl) (Nat.le_of_ble_eq_true rfl) (mg_count q1) ?_
      refine sg_wb rfl rfl (fun h69 => ?_) (fun h69 => ?_)
      · refine sg_wr 3 rfl ?_
        refine sg_r_callV rfl rfl rfl s128 rfl (Nat.le_of_ble_eq_true rfl) (Nat.le_of_ble_eq_true rfl) (rt_keepIfOther hp hh q9 (nI i)) ?_
        rintro _ M2 c s ⟨⟨v, rfl, hv⟩, n1, u1, u2, u3, u4⟩
        have hx := iq_lift (Ls := Ls) (xs := xs) u2 u3 (k105 M2 R n1 G1 x 1 u1 hh hw (Or.inr rfl) hgb (u4 _ hws))
        have hx0 := iq_lift (Ls := Ls) (xs := xs) u2 u3 (k105 M2 R n1 G1 x 0 u1 hh hw (Or.inl rfl) hgb (u4 _ hws))
        obtain ⟨K2, tp2, ds2, dc2, h3, -⟩ := id u1
        have t128 := h3.1
        rcases hv with rfl | rfl
        · refine sg_wr 2 rfl ?_
          refine sg_r_getf rfl t128 rfl ?_
          rcases hwm with z | z
          · rw [z]
            refine sg_wr 2 rfl ?_
            exact hx0
          · rw [z]
            refine sg_wr 3 rfl ?_
            exact hx
        · refine sg_wr 3 rfl ?_
          exact hx
      · refine sg_wr 2 rfl ?_
        refine sg_r_putf rfl s128 (Nat.le_of_ble_eq_true rfl) rfl ?_
        refine sg_wr 2 rfl ?_
        refine sg_r_putf rfl (h2.r (rt_mk R.hd R.su 4 R.ws R.wc R.wq R.wm)).1 (Nat.le_of_ble_eq_true rfl) rfl ?_
        rw [sg_upup]
        refine sg_wr 1 rfl ?_
        refine sg_we rfl rfl ⟨⟨_, rfl⟩, n, ⟨rt_mk R.hd R.su 4 R.ws (nI i) R.wq R.wm, g, K, tp, ds, dc, G1, h2.r (rt_mk R.hd R.su 4 R.ws (nI i) R.wq R.wm), hb, hk, ⟨hh, ht⟩, hd, hgb, ?_, hwm, fun _ => ⟨q3.r h2, ?_, hcl, hws, ?_⟩⟩, by omega, by omega⟩
        · show 4 ≤ 4
          omega
        · refine Nat.pos_of_ne_zero fun z => h69 ?_
          rw [z]
          exact Int32.le_rfl
        · intro z
          have z : 4 = 1 := z
          omega
    have k12 : ∀ x : Int64, wpa Ls xs 137 12 [(0, .ref 128), (1, .int (nI i)), (2, .long x)] [] M (iq n) := by
      intro x
      obtain ⟨K, tp, ds, dc, h1, hb, hk, ht, hd, hcl⟩ := id h
      have r128 := h1.1
      refine sg_wr 1 rfl ?_
      refine sg_r_getf rfl r128 rfl ?_
      refine sg_wr 4 rfl ?_
      refine sg_wb rfl rfl (fun _ => k108 M R n G x h hh hw hwm hg hws) (fun _ => ?_)
      refine sg_wr 2 rfl ?_
      refine sg_r_getf rfl r128 rfl ?_
      refine sg_wr 4 rfl ?_
      refine sg_r_putf rfl r128 (Nat.le_of_ble_eq_true rfl) rfl ?_
      exact k37 _ (rt_mk R.hd R.su R.wk R.ws R.wc (R.wq &&& (x ^^^ (-1))) R.wm) x ⟨K, tp, ds, dc, h1.r (rt_mk R.hd R.su R.wk R.ws R.wc (R.wq &&& (x ^^^ (-1))) R.wm), hb, hk, ht, hd, hcl⟩ hh hw hwm hws
    rcases hT with rfl | ⟨x0, rfl⟩
    · refine sg_wr 2 rfl ?_
      refine sg_wb rfl rfl (fun z => absurd z (nI_ge (b := 60) hlt (by decide))) (fun _ => ?_)
      refine sg_wr 4 rfl ?_
      exact k12 _
    · refine sg_wr 2 rfl ?_
      refine sg_wb rfl rfl (fun z => absurd z (nI_ge (b := 60) hlt (by decide))) (fun _ => ?_)
      refine sg_wr 4 rfl ?_
      exact k12 _
theorem rt_carryQueue (h : rt_pl M R n g G) (hh : R.hd < 8) (hw : R.wk = 0) (hwm : R.wm = 0 ∨ R.wm = 1) (hg : mg_b G) (hws : kt_is n g R.ws) : wpm Ls xs 137 [.ref 128] M (iq n) := by
  refine sg_wr 2 rfl ?_
  exact rt_cq_loop 60 0 M R n G [] rfl (by decide) h hh hw hwm hg hws (Or.inl rfl)
theorem rt_wk_n (h : rt_ok M R n g K tp ds dc G) {k : Nat} (hk : k < 2 ^ 31) : nI R.wk = nI k ↔ R.wk = k := nI_eq (by have := h.2.2.2.2.2.2.1; omega) hk
theorem rt_goOn (h : rt_ok M R n g K tp ds dc G) : wpm Ls xs 72 [.ref 128] M (mu M n) := by
  obtain ⟨h1, hb, hk, ⟨hh, ht⟩, hd, hg, hw, hwm, hin⟩ := id h
  obtain ⟨r128, rH, rD, r138, rG, rM⟩ := id h1
  refine sg_wr 1 rfl ?_
  refine sg_n_callV rfl rfl rfl r128 rfl (Nat.le_of_ble_eq_true rfl) (Nat.le_of_ble_eq_true rfl) (rt_needWork h1) (fun hp => ?_) (fun _ E hE => Or.inl ⟨⟨E, hE, rfl⟩, rfl, rfl, rfl⟩)
  have hw0 : ¬ R.wk = 0 := fun z => hp ((rt_wk_n h (k := 0) (by decide)).mpr z)
  obtain ⟨i1, i2, i3, i4, i5⟩ := hin hw0
  refine sg_wr 1 rfl ?_
  refine sg_r_getf rfl r128 rfl ?_
  refine sg_p_callV rfl rfl rfl rG.1 rfl (Nat.le_of_ble_eq_true rfl) (Nat.le_of_ble_eq_true rfl) (mg_openCount rG hg.2.1) ?_
  refine sg_wb rfl rfl (fun _ => ?_) (fun _ => ?_)
  rotate_left
  · exact sg_r_thr rfl (Nat.le_of_ble_eq_true rfl) (Or.inl ⟨⟨_, by decide, rfl⟩, rfl, rfl, rfl⟩)
  refine mu_of ?_
  refine sg_wr 1 rfl ?_
  refine sg_r_getf rfl r128 rfl ?_
  refine sg_wr 3 rfl ?_
  refine sg_r_putf rfl r128 (Nat.le_of_ble_eq_true rfl) rfl ?_
  have h2 := h1.r (rt_mk R.hd R.su 0 R.ws R.wc R.wq R.wm)
  have ht2 : mg_tr (sg_up M.1 128 (.inr (5, rt_fs (rt_mk R.hd R.su 0 R.ws R.wc R.wq R.wm))), M.2) G := i1.r h1
  refine sg_wr 1 rfl ?_
  refine sg_r_getf rfl h2.1 rfl ?_
  refine sg_r_callV rfl rfl rfl h2.2.2.2.2.1.1 rfl (Nat.le_of_ble_eq_true rfl) (Nat.le_of_ble_eq_true rfl) (mg_build h2.2.2.2.2.1 ht2 hg.1) ?_
  rintro _ M3 _ _ ⟨rfl, ⟨gs, gc, q1, q2, q3⟩, rfl, rfl⟩
  refine sg_a0 ?_
  have h3 := h2.mg q1 q3
  have hg3 : mg_b (mg_ur G gs gc) := ⟨hg.1, hg.2.1, q2⟩
  have hti : tr_ti (mg_ur G gs gc).fs := q2
  generalize hG3 : mg_ur G gs gc = G3 at h3 hg3 hti
  generalize hR3 : rt_mk R.hd R.su 0 R.ws R.wc R.wq R.wm = R3 at h3
  have e1 : R3.hd = R.hd := by rw [← hR3]; rfl
  have e2 : R3.wk = 0 := by rw [← hR3]; rfl
  have e3 : R3.ws = R.ws := by rw [← hR3]; rfl
  have e4 : R3.wc = R.wc := by rw [← hR3]; rfl
  have e5 : R3.wm = R.wm := by rw [← hR3]; rfl
  have hh3 : R3.hd < 8 := by rw [e1]; exact hh
  have ht3 : ¬ tp R3.hd = -2 := by rw [e1]; exact ht
  have hcl3 : rt_cl R3 n K tp ds dc := by rw [← hR3]; exact i3
  have hp3 : rt_pl M3 R3 n g G3 := ⟨K, tp, ds, dc, h3, hb, hk, ht3, hd, hcl3⟩
  have hwm3 : R3.wm = 0 ∨ R3.wm = 1 := by rw [e5]; exact hwm
  have s128 := h3.1
  refine sg_wr 2 rfl ?_
  refine sg_wb rfl rfl (fun h44 => ?_) (fun h44 => ?_)
  rotate_left
  · have hw1 : R.wk = 1 := (rt_wk_n h (k := 1) (by decide)).mp (Classical.byContradiction h44)
    refine sg_wr 2 rfl ?_
    refine sg_r_getf rfl s128 rfl ?_
    refine sg_r_callV rfl rfl rfl s128 rfl (Nat.le_of_ble_eq_true rfl) (Nat.le_of_ble_eq_true rfl) (rt_keepMerge h3 hb hk hh3 ht3 hti (e := R3.wc) (by rw [e4]; exact i5 hw1)) ?_
    rintro _ M4 c s ⟨rfl, n1, u1, u2, u3⟩
    refine sg_wr 1 rfl ?_
    exact sg_we rfl rfl ⟨⟨_, rfl⟩, n1, iv_pl u1 hh3 hg3 e2 hwm3, by omega, by omega⟩
  refine sg_wr 2 rfl ?_
  refine sg_r_getf rfl s128 rfl ?_
  refine sg_r_callV rfl rfl rfl s128 rfl (Nat.le_of_ble_eq_true rfl) (Nat.le_of_ble_eq_true rfl) (rt_keepIfOther hp3 hh3 hti R3.wc) ?_
  rintro _ M4 c s ⟨⟨v, rfl, hv⟩, n1, u1, u2, u3, u4⟩
  have hi4 : iv M4 n1 := iv_pl u1 hh3 hg3 e2 hwm3
  obtain ⟨K4, tp4, ds4, dc4, h4, hb4, hk4, ht4, hd4, hcl4⟩ := id u1
  have t128 := h4.1
  have k88 : ∀ (b : Int32) (y : Int32), (b = 0 ∨ b = 1) → wpa Ls xs 72 88 [(0, .ref 128), (1, .int (nI R.wk)), (2, .int y)] [.int b, .ref 128] M4 (iq n1) := by
    intro b y hbb
    have hp : rt_pl (sg_up M4.1 128 (.inr (5, rt_fs (rt_mk R3.hd R3.su R3.wk R3.ws R3.wc R3.wq b))), M4.2) (rt_mk R3.hd R3.su R3.wk R3.ws R3.wc R3.wq b) n1 g G3 := ⟨K4, tp4, ds4, dc4, h4.r _, hb4, hk4, ht4, hd4, hcl4⟩
    have hq := rt_carryQueue (Ls := Ls) (xs := xs) hp hh3 e2 hbb hg3 (by show kt_is n1 g R3.ws; rw [e3]; exact u4 _ i4)
    have q128 := (h4.r (rt_mk R3.hd R3.su R3.wk R3.ws R3.wc R3.wq b)).1
    have fin : ∀ M5 : sg_M, M5 = (sg_up M4.1 128 (.inr (5, rt_fs (rt_mk R3.hd R3.su R3.wk R3.ws R3.wc R3.wq b))), M4.2) → wpa Ls xs 72 91 [(0, .ref 128), (1, .int (nI R.wk)), (2, .int y)] [] M5 (iq n1) := by
      rintro M5 rfl
      refine sg_wr 1 rfl ?_
      refine sg_r_callV rfl rfl rfl q128 rfl (Nat.le_of_ble_eq_true rfl) (Nat.le_of_ble_eq_true rfl) hq ?_
      rintro _ M6 c s ⟨⟨z, rfl⟩, n2, w1, w2, w3⟩
      exact sg_we rfl rfl ⟨⟨_, rfl⟩, n2, w1, by omega, by omega⟩
    rcases hbb with rfl | rfl
    · refine sg_r_putf rfl t128 (Nat.le_of_ble_eq_true rfl) rfl ?_
      exact fin _ rfl
    · refine sg_r_putf rfl t128 (Nat.le_of_ble_eq_true rfl) rfl ?_
      exact fin _ rfl
  refine iq_lift (Ls := Ls) (xs := xs) u2 u3 ?_
  refine sg_wr 3 rfl ?_
  refine sg_wb rfl rfl (fun h68 => ?_) (fun h68 => ?_)
  · rcases hv with rfl | rfl
    · refine sg_wr 3 rfl ?_
      exact sg_we rfl rfl ⟨⟨_, rfl⟩, n1, hi4, by omega, by omega⟩
    · refine sg_wr 4 rfl ?_
      exact sg_we rfl rfl ⟨⟨_, rfl⟩, n1, hi4, by omega, by omega⟩
  · refine sg_wr 2 rfl ?_
    refine sg_r_getf rfl t128 rfl ?_
    rcases hwm3 with z | z
    · rw [z]
      rcases hv with rfl | rfl
      · refine sg_wr 4 rfl ?_
        exact k88 0 _ (Or.inl rfl)
      · refine sg_wr 5 rfl ?_
        exact k88 1 _ (Or.inr rfl)
    · rw [z]
      refine sg_wr 3 rfl ?_
      exact k88 1 _ (Or.inr rfl)
theorem rt_giveUp (h : rt_ok M R n g K tp ds dc G) : wpm Ls xs 73 [.ref 128] M (mu M n) := by
  obtain ⟨h1, hb, hk, ⟨hh, ht⟩, hd, hg, hw, hwm, hin⟩ := id h
  obtain ⟨r128, rH, rD, r138, rG, rM⟩ := id h1
  refine sg_wr 1 rfl ?_
  refine sg_n_callV rfl rfl rfl r128 rfl (Nat.le_of_ble_eq_true rfl) (Nat.le_of_ble_eq_true rfl) (rt_needWork h1) (fun hp => ?_) (fun _ E hE => Or.inl ⟨⟨E, hE, rfl⟩, rfl, rfl, rfl⟩)
  have hw0 : ¬ R.wk = 0 := fun z => hp ((rt_wk_n h (k := 0) (by decide)).mpr z)
  obtain ⟨i1, i2, i3, i4, i5⟩ := hin hw0
  refine mu_of ?_
  refine sg_wr 1 rfl ?_
  refine sg_r_getf rfl r128 rfl ?_
  refine sg_p_callV rfl rfl rfl rG.1 rfl (Nat.le_of_ble_eq_true rfl) (Nat.le_of_ble_eq_true rfl) (mg_openCount rG hg.2.1) ?_
  refine sg_wr 3 rfl ?_
  refine sg_r_putf rfl r128 (Nat.le_of_ble_eq_true rfl) rfl ?_
  have h2 := h1.r (rt_mk R.hd R.su 0 R.ws R.wc R.wq R.wm)
  refine sg_wr 2 rfl ?_
  refine sg_r_getf rfl h2.1 rfl ?_
  refine sg_r_callV rfl rfl rfl h2.1 rfl (Nat.le_of_ble_eq_true rfl) (Nat.le_of_ble_eq_true rfl) (rt_moveHead h2 hb hk hh i4) ?_
  rintro _ M3 _ _ ⟨rfl, q, rfl, rfl⟩
  refine sg_a0 ?_
  refine sg_wr 1 rfl ?_
  exact sg_we rfl rfl ⟨⟨_, rfl⟩, n, iv_pl q hh hg rfl hwm, by omega, by omega⟩
theorem rt_settle (h : rt_ok M R n g K tp ds dc G) (x y : Int32) : wpm Ls xs 71 [.ref 128, .int x, .int y] M (mu M n) := by
  obtain ⟨h1, hb, hk, ⟨hh, ht⟩, hd, hg, hw, hwm, hin⟩ := id h
  obtain ⟨r128, rH, rD, r138, rG, rM⟩ := id h1
  refine sg_wr 1 rfl ?_
  refine sg_n_callV rfl rfl rfl r128 rfl (Nat.le_of_ble_eq_true rfl) (Nat.le_of_ble_eq_true rfl) (rt_needWork h1) (fun hp => ?_) (fun _ E hE => Or.inl ⟨⟨E, hE, rfl⟩, rfl, rfl, rfl⟩)
  refine sg_wr 2 rfl ?_
  refine sg_n_callV rfl rfl rfl r128 rfl (Nat.le_of_ble_eq_true rfl) (Nat.le_of_ble_eq_true rfl) (rt_needConflict h1 x) (fun _ => ?_) (fun _ E hE => Or.inl ⟨⟨E, hE, rfl⟩, rfl, rfl, rfl⟩)
  refine sg_wr 1 rfl ?_
  refine sg_wb rfl rfl (fun _ => ?_) (fun _ => ?_)
  · exact sg_r_thr rfl (Nat.le_of_ble_eq_true rfl) (Or.inl ⟨⟨_, by decide, rfl⟩, rfl, rfl, rfl⟩)
  refine sg_wr 2 rfl ?_
  refine sg_wb rfl rfl (fun _ => ?_) (fun _ => ?_)
  rotate_left
  · exact sg_r_thr rfl (Nat.le_of_ble_eq_true rfl) (Or.inl ⟨⟨_, by decide, rfl⟩, rfl, rfl, rfl⟩)
  refine mu_of ?_
  refine sg_wr 1 rfl ?_
  refine sg_r_getf rfl r128 rfl ?_
  refine sg_wr 2 rfl ?_
  refine sg_r_callV rfl rfl rfl rG.1 rfl (Nat.le_of_ble_eq_true rfl) (Nat.le_of_ble_eq_true rfl) (mg_setWay rG x y) ?_
  rintro _ M1 _ _ ⟨rfl, ⟨wy, q1, q2⟩, rfl, rfl⟩
  refine sg_a0 ?_
  have h2 := h1.mg q1 q2
  have hin1 : ¬ R.wk = 0 → mg_tr M1 (mg_mk G.b G.o G.t G.pc G.cc G.fi G.to G.sz (wy) G.nx G.cp G.fs G.fc G.l1 G.b1 G.a1 G.l2 G.b2 G.a2 G.p1 G.p2) ∧ 0 < (mg_mk G.b G.o G.t G.pc G.cc G.fi G.to G.sz (wy) G.nx G.cp G.fs G.fc G.l1 G.b1 G.a1 G.l2 G.b2 G.a2 G.p1 G.p2).cc ∧ rt_cl R n K tp ds dc ∧ kt_is n g R.ws ∧ (R.wk = 1 → kt_is n g R.wc) := fun z => by
    obtain ⟨i1, i2, i3, i4, i5⟩ := hin z
    exact ⟨i1.out q2 rfl rfl rfl, i2, i3, i4, i5⟩
  have hg1 : mg_b (mg_mk G.b G.o G.t G.pc G.cc G.fi G.to G.sz (wy) G.nx G.cp G.fs G.fc G.l1 G.b1 G.a1 G.l2 G.b2 G.a2 G.p1 G.p2) := hg
  generalize mg_mk G.b G.o G.t G.pc G.cc G.fi G.to G.sz (wy) G.nx G.cp G.fs G.fc G.l1 G.b1 G.a1 G.l2 G.b2 G.a2 G.p1 G.p2 = G1 at q1 h2 hin1 hg1
  refine sg_wr 1 rfl ?_
  refine sg_r_getf rfl h2.1 rfl ?_
  refine sg_p_callV rfl rfl rfl q1.1 rfl (Nat.le_of_ble_eq_true rfl) (Nat.le_of_ble_eq_true rfl) (mg_openCount q1 hg1.2.1) ?_
  exact sg_we rfl rfl ⟨⟨_, rfl⟩, n, ⟨R, g, K, tp, ds, dc, G1, h2, hb, hk, ⟨hh, ht⟩, hd, hg1, hw, hwm, hin1⟩, by omega, by omega⟩
end
end SGQU
