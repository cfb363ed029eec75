section SGDH
def cf_s (G : mg_C) (x : Int32) : Nat → Nat → Int64 → Int64
  | 0, _, d => d
  | m + 1, s, d => cf_s G x m (s + 1) (d * 31 + (mg_szf G.sz (mg_pof G x) (nI s)).toInt64)
def cf_o (G : mg_C) : Nat → Nat → Int64 → Int64
  | 0, _, d => d
  | m + 1, i, d => cf_o G m (i + 1) (cf_s G (nI i) 3 0 (d * 31 + (mg_fof G (mg_pof G (nI i))).toInt64))
def rt_cn (R : rt_R) (G : mg_C) : Nat := if ¬ nI R.wk = 0 then G.cc else 0
theorem rt_cf_n {R : rt_R} {G : mg_C} : rt_cf R G = nI (rt_cn R G) := by
  unfold rt_cf rt_cn
  split <;> rfl
theorem rt_cn_le {R : rt_R} {G : mg_C} (h : G.cc ≤ 328) : rt_cn R G ≤ 328 := by
  unfold rt_cn
  split <;> omega
def dg_t (tp : Nat → Int32) : Nat → Nat → Int64 → Int64
  | 0, _, d => d
  | m + 1, i, d => dg_t tp m (i + 1) (d * 31 + (rt_co tp (nI i)).toInt64)
def dg_c (n : Nat) (g : Int64) (K : Nat → hs_K) (tp : Nat → Int32) : Nat → Nat → Int64 → Int64
  | 0, _, d => d
  | m + 1, i, d => dg_c n g K tp m (i + 1) (if bt g (nI i) = false then wc_f n K tp (nI i) (d * 31 + (1 : Int32).toInt64) else d * 31 + (0 : Int32).toInt64)
section
variable {Ls : Nat} {xs : Nat → Int32} {M : sg_M} {R : rt_R} {n : Nat} {g : Int64} {K : Nat → hs_K} {tp ds dc : Nat → Int32} {G : mg_C}
theorem cf_in (h : rt_is M R n g K tp ds dc G) (d0 : Int64) {i : Nat} (hi : i < rt_cn R G) (hc : G.cc ≤ 328) {Q : Option Value ⊕ Nat → sg_M → Nat → Nat → Prop} : ∀ (m s : Nat) (d : Int64), m = 3 - s → s ≤ 3 → (∀ q : Int32, wpa Ls xs 107 63 [(0, .ref 128), (1, .long d0), (3, .long (cf_s G (nI i) m s d)), (5, .int (nI (rt_cn R G))), (6, .int (nI i)), (7, .int q)] [] M Q) → wpa Ls xs 107 35 [(0, .ref 128), (1, .long d0), (3, .long d), (5, .int (nI (rt_cn R G))), (6, .int (nI i)), (7, .int (nI s))] [] M Q := by
  have hcn := rt_cn_le (R := R) hc
  have r128 := h.1
  have hx : ¬ nI i < 0 ∧ nI i < rt_cf R G := ⟨nI_pos (by omega), by rw [rt_cf_n]; exact nI_lt hi (by omega)⟩
  intro m
  induction m with
  | zero =>
    intro s d hm hs hQ
    have e : s = 3 := by omega
    subst e
    refine sg_wr 3 rfl ?_
    exact hQ _
  | succ m ih =>
    intro s d hm hs hQ
    have hlt : s < 3 := by omega
    have hy : ¬ nI s < 0 ∧ nI s < 3 := ⟨nI_pos (by omega), nI_lt (b := 3) hlt (by decide)⟩
    refine sg_wr 2 rfl ?_
    refine sg_wb rfl rfl (fun h38 => absurd h38 (nI_ge (b := 3) hlt (by decide))) (fun h38 => ?_)
    refine sg_wr 6 rfl ?_
    refine sg_p_callV rfl rfl rfl r128 rfl (Nat.le_of_ble_eq_true rfl) (Nat.le_of_ble_eq_true rfl) (rt_pieceSize h hx hy) ?_
    refine sg_wr 5 rfl ?_
    have h9 := ih (s + 1) (d * 31 + (mg_szf G.sz (mg_pof G (nI i)) (nI s)).toInt64) (by omega) hlt hQ
    rw [nI_succ] at h9
    exact h9
theorem cf_out (h : rt_is M R n g K tp ds dc G) (d0 : Int64) (hc : G.cc ≤ 328) : ∀ (m i : Nat) (d : Int64) (T : sg_L), m = rt_cn R G - i → i ≤ rt_cn R G → (T = [] ∨ ∃ x : Int32, T = [(7, .int x)]) → wpa Ls xs 107 11 ([(0, .ref 128), (1, .long d0), (3, .long d), (5, .int (nI (rt_cn R G))), (6, .int (nI i))] ++ T) [] M (sg_eq (some (.long (cf_o G m i d))) M) := by
  have hcn := rt_cn_le (R := R) hc
  have r128 := h.1
  intro m
  induction m with
  | zero =>
    intro i d T hm hi hT
    have e : i = rt_cn R G := by omega
    subst e
    rcases hT with rfl | ⟨x, rfl⟩ <;> (refine sg_wr 2 rfl ?_; refine sg_wb rfl rfl (fun _ => ?_) (fun h15 => absurd Int32.le_rfl h15); refine sg_wr 1 rfl ?_; exact sg_we rfl rfl ⟨rfl, rfl, rfl, rfl⟩)
  | succ m ih =>
    intro i d T hm hi hT
    have hlt : i < rt_cn R G := by omega
    have hx : ¬ nI i < 0 ∧ nI i < rt_cf R G := ⟨nI_pos (by omega), by rw [rt_cf_n]; exact nI_lt hlt (by omega)⟩
    rw [cf_o]
    rcases hT with rfl | ⟨x, rfl⟩
    · refine sg_wr 2 rfl ?_
      refine sg_wb rfl rfl (fun h15 => absurd h15 (nI_ge hlt (by omega))) (fun h15 => ?_)
      refine sg_wr 5 rfl ?_
      refine sg_p_callV rfl rfl rfl r128 rfl (Nat.le_of_ble_eq_true rfl) (Nat.le_of_ble_eq_true rfl) (rt_conflictFile h hx) ?_
      refine sg_wr 5 rfl ?_
      refine cf_in h d0 hlt hc 3 0 _ rfl (by decide) (fun q => ?_)
      refine sg_wr 2 rfl ?_
      have h9 := ih (i + 1) (cf_s G (nI i) 3 0 (d * 31 + (mg_fof G (mg_pof G (nI i))).toInt64)) [(7, .int q)] (by omega) hlt (Or.inr ⟨_, rfl⟩)
      rw [nI_succ] at h9
      exact h9
    · refine sg_wr 2 rfl ?_
      refine sg_wb rfl rfl (fun h15 => absurd h15 (nI_ge hlt (by omega))) (fun h15 => ?_)
      refine sg_wr 5 rfl ?_
      refine sg_p_callV rfl rfl rfl r128 rfl (Nat.le_of_ble_eq_true rfl) (Nat.le_of_ble_eq_true rfl) (rt_conflictFile h hx) ?_
      refine sg_wr 5 rfl ?_
      refine cf_in h d0 hlt hc 3 0 _ rfl (by decide) (fun q => ?_)
      refine sg_wr 2 rfl ?_
      have h9 := ih (i + 1) (cf_s G (nI i) 3 0 (d * 31 + (mg_fof G (mg_pof G (nI i))).toInt64)) [(7, .int q)] (by omega) hlt (Or.inr ⟨_, rfl⟩)
      rw [nI_succ] at h9
      exact h9

theorem rt_withConflicts (h : rt_is M R n g K tp ds dc G) (hc : G.cc ≤ 328) (d : Int64) : wpm Ls xs 107 [.ref 128, .long d] M (sg_eq (some (.long (cf_o G (rt_cn R G) 0 d))) M) := by
  have r128 := h.1
  refine sg_wr 3 rfl ?_
  refine sg_p_callV rfl rfl rfl r128 rfl (Nat.le_of_ble_eq_true rfl) (Nat.le_of_ble_eq_true rfl) (rt_conflicts h) ?_
  refine sg_wr 1 rfl ?_
  rw [rt_cf_n]
  refine sg_wr 2 rfl ?_
  exact cf_out h d hc _ 0 d [] rfl (Nat.zero_le _) (Or.inl rfl)
/-- the digest's end -/
def dg_e (R : rt_R) (ds dc : Nat → Int32) (G : mg_C) (d : Int64) : Int64 := cf_o G (rt_cn R G) 0 (wt_o ds dc 8 0 d)
theorem dg_202 (h : rt_is M R n g K tp ds dc G) (hc : G.cc ≤ 328) (d : Int64) (q : Int32) : wpa Ls xs 104 202 [(0, .ref 128), (1, .long d), (3, .int q)] [] M (sg_eq (some (.long (dg_e R ds dc G d))) M) := by
  obtain ⟨r128, rH, rD, r138, rG, rM⟩ := id h
  refine sg_wr 2 rfl ?_
  refine sg_r_getf rfl r128 rfl ?_
  refine sg_p_callS rfl rfl rfl rfl (Nat.le_of_ble_eq_true rfl) (Nat.le_of_ble_eq_true rfl) (rt_withTree rD _) ?_
  refine sg_wr 3 rfl ?_
  refine sg_p_callV rfl rfl rfl r128 rfl (Nat.le_of_ble_eq_true rfl) (Nat.le_of_ble_eq_true rfl) (rt_withConflicts h hc _) ?_
  exact sg_we rfl rfl ⟨rfl, rfl, rfl, rfl⟩
theorem dg_149 (h : rt_is M R n g K tp ds dc G) (hc : G.cc ≤ 328) : ∀ (m i : Nat) (d : Int64), m = n - i → i ≤ n → wpa Ls xs 104 149 [(0, .ref 128), (1, .long d), (3, .int (nI i))] [] M (sg_eq (some (.long (dg_e R ds dc G (dg_c n g K tp m i d)))) M) := by
  obtain ⟨r128, rH, rD, r138, rG, rM⟩ := id h
  have hn := rH.2.2.2.1
  intro m
  induction m with
  | zero =>
    intro i d hm hi
    have e : i = n := by omega
    subst e
    refine sg_wr 2 rfl ?_
    refine sg_r_getf rfl r128 rfl ?_
    refine sg_r_getf rfl rH.1 rfl ?_
    refine sg_wb rfl rfl (fun _ => ?_) (fun h9 => absurd Int32.le_rfl h9)
    exact dg_202 h hc d _
  | succ m ih =>
    intro i d hm hi
    have hlt : i < n := by omega
    have k196 : ∀ e : Int64, wpa Ls xs 104 196 [(0, .ref 128), (1, .long e), (3, .int (nI i))] [] M (sg_eq (some (.long (dg_e R ds dc G (dg_c n g K tp m (i + 1) e)))) M) := by
      intro e
      refine sg_wr 2 rfl ?_
      have h9 := ih (i + 1) e (by omega) hlt
      rw [nI_succ] at h9
      exact h9
    rw [dg_c]
    refine sg_wr 2 rfl ?_
    refine sg_r_getf rfl r128 rfl ?_
    refine sg_r_getf rfl rH.1 rfl ?_
    refine sg_wb rfl rfl (fun h9 => absurd h9 (nI_ge hlt (by omega))) (fun _ => ?_)
    refine sg_wr 5 rfl ?_
    refine sg_r_callV rfl rfl rfl r128 rfl (Nat.le_of_ble_eq_true rfl) (Nat.le_of_ble_eq_true rfl) (rt_isThere h _) ?_
    rintro _ _ _ _ ⟨⟨v, rfl, hv⟩, rfl, rfl, rfl⟩
    refine sg_a0 ?_
    rcases hv with ⟨rfl, q⟩ | ⟨rfl, q⟩
    · rw [if_pos q.2.2]
      refine sg_wr 6 rfl ?_
      refine sg_wr 2 rfl ?_
      refine sg_r_callV rfl rfl rfl r128 rfl (Nat.le_of_ble_eq_true rfl) (Nat.le_of_ble_eq_true rfl) (rt_isThere h _) ?_
      rintro _ _ _ _ ⟨⟨v, rfl, hv⟩, rfl, rfl, rfl⟩
      refine sg_a0 ?_
      rcases hv with ⟨rfl, q1⟩ | ⟨rfl, q1⟩
      · refine sg_wr 4 rfl ?_
        refine sg_p_callV rfl rfl rfl r128 rfl (Nat.le_of_ble_eq_true rfl) (Nat.le_of_ble_eq_true rfl) (rt_withCommit h q _) ?_
        refine sg_wr 1 rfl ?_
        exact k196 _
      · exact absurd q q1
    · rw [if_neg (fun z => q ⟨nI_pos (by omega), nI_ge hlt (by omega), z⟩)]
      refine sg_wr 5 rfl ?_
      refine sg_wr 2 rfl ?_
      refine sg_r_callV rfl rfl rfl r128 rfl (Nat.le_of_ble_eq_true rfl) (Nat.le_of_ble_eq_true rfl) (rt_isThere h _) ?_
      rintro _ _ _ _ ⟨⟨v, rfl, hv⟩, rfl, rfl, rfl⟩
      refine sg_a0 ?_
      rcases hv with ⟨rfl, q1⟩ | ⟨rfl, q1⟩
      · exact absurd q1 q
      · refine sg_wr 1 rfl ?_
        exact k196 _
theorem dg_122 (h : rt_is M R n g K tp ds dc G) (hc : G.cc ≤ 328) : ∀ (m i : Nat) (d : Int64), m = 8 - i → i ≤ 8 → wpa Ls xs 104 122 [(0, .ref 128), (1, .long d), (3, .int (nI i))] [] M (sg_eq (some (.long (dg_e R ds dc G (dg_c n g K tp n 0 (dg_t tp m i d))))) M) := by
  obtain ⟨r128, rH, rD, r138, rG, rM⟩ := id h
  intro m
  induction m with
  | zero =>
    intro i d hm hi
    have e : i = 8 := by omega
    subst e
    refine sg_wr 3 rfl ?_
    refine sg_wr 2 rfl ?_
    exact dg_149 h hc n 0 d rfl (Nat.zero_le _)
  | succ m ih =>
    intro i d hm hi
    have hlt : i < 8 := by omega
    rw [dg_t]
    refine sg_wr 2 rfl ?_
    refine sg_wb rfl rfl (fun h125 => absurd h125 (nI_ge (b := 8) hlt (by decide))) (fun h125 => ?_)
    refine sg_wr 5 rfl ?_
    refine sg_p_callV rfl rfl rfl r128 rfl (Nat.le_of_ble_eq_true rfl) (Nat.le_of_ble_eq_true rfl) (rt_commitOf h _) ?_
    refine sg_wr 5 rfl ?_
    have h9 := ih (i + 1) (d * 31 + (rt_co tp (nI i)).toInt64) (by omega) hlt
    rw [nI_succ] at h9
    exact h9
def dg_f (R : rt_R) (n : Nat) (g : Int64) (K : Nat → hs_K) (tp ds dc : Nat → Int32) (G : mg_C) (d : Int64) : Int64 := dg_e R ds dc G (dg_c n g K tp n 0 (dg_t tp 8 0 d))
def dg_v (R : rt_R) (n : Nat) (g : Int64) (K : Nat → hs_K) (tp ds dc : Nat → Int32) (G : mg_C) (b : Int32) : Int64 := dg_f R n g K tp ds dc G (((((((((58027 * 31 + (nI n).toInt64) * 31 + (nI R.hd).toInt64) * 31 + b.toInt64) * 31 + (nI R.wk).toInt64) * 31 + (rt_cf R G).toInt64) * 31 + (rt_us R G).toInt64) * 31 + (rt_lf R).toInt64) * 31 + (pb_v n K R.su).toInt64) * 31 + (pb_c R.su).toInt64)
theorem rt_digest (h : rt_is M R n g K tp ds dc G) (hc : G.cc ≤ 328) {b : Int32} (hb : (b = 1 ∧ rt_cl R n K tp ds dc) ∨ (b = 0 ∧ ¬ rt_cl R n K tp ds dc)) : wpm Ls xs 104 [.ref 128] M (sg_eq (some (.long (dg_v R n g K tp ds dc G b))) M) := by
  have r128 := h.1
  have k120 : ∀ d : Int64, wpa Ls xs 104 120 [(0, .ref 128), (1, .long d)] [] M (sg_eq (some (.long (dg_f R n g K tp ds dc G d))) M) := by
    intro d
    refine sg_wr 2 rfl ?_
    exact dg_122 h hc 8 0 d rfl (by decide)
  have k108 : ∀ d : Int64, wpa Ls xs 104 108 [(0, .ref 128), (1, .long d)] [] M (sg_eq (some (.long (dg_f R n g K tp ds dc G (d * 31 + (pb_c R.su).toInt64)))) M) := by
    intro d
    refine sg_wr 4 rfl ?_
    refine sg_p_callV rfl rfl rfl r128 rfl (Nat.le_of_ble_eq_true rfl) (Nat.le_of_ble_eq_true rfl) (rt_culprit h) ?_
    refine sg_wr 3 rfl ?_
    exact k120 _
  have k96 : ∀ d : Int64, wpa Ls xs 104 96 [(0, .ref 128), (1, .long d)] [] M (sg_eq (some (.long (dg_f R n g K tp ds dc G ((d * 31 + (pb_v n K R.su).toInt64) * 31 + (pb_c R.su).toInt64)))) M) := by
    intro d
    refine sg_wr 4 rfl ?_
    refine sg_p_callV rfl rfl rfl r128 rfl (Nat.le_of_ble_eq_true rfl) (Nat.le_of_ble_eq_true rfl) (rt_probe h) ?_
    refine sg_wr 3 rfl ?_
    exact k108 _
  have k84 : ∀ d : Int64, wpa Ls xs 104 84 [(0, .ref 128), (1, .long d)] [] M (sg_eq (some (.long (dg_f R n g K tp ds dc G (((d * 31 + (rt_lf R).toInt64) * 31 + (pb_v n K R.su).toInt64) * 31 + (pb_c R.su).toInt64)))) M) := by
    intro d
    refine sg_wr 4 rfl ?_
    refine sg_p_callV rfl rfl rfl r128 rfl (Nat.le_of_ble_eq_true rfl) (Nat.le_of_ble_eq_true rfl) (rt_left h) ?_
    refine sg_wr 3 rfl ?_
    exact k96 _
  have k72 : ∀ d : Int64, wpa Ls xs 104 72 [(0, .ref 128), (1, .long d)] [] M (sg_eq (some (.long (dg_f R n g K tp ds dc G ((((d * 31 + (rt_us R G).toInt64) * 31 + (rt_lf R).toInt64) * 31 + (pb_v n K R.su).toInt64) * 31 + (pb_c R.su).toInt64)))) M) := by
    intro d
    refine sg_wr 4 rfl ?_
    refine sg_p_callV rfl rfl rfl r128 rfl (Nat.le_of_ble_eq_true rfl) (Nat.le_of_ble_eq_true rfl) (rt_unsettled h hc) ?_
    refine sg_wr 3 rfl ?_
    exact k84 _
  have k60 : ∀ d : Int64, wpa Ls xs 104 60 [(0, .ref 128), (1, .long d)] [] M (sg_eq (some (.long (dg_f R n g K tp ds dc G (((((d * 31 + (rt_cf R G).toInt64) * 31 + (rt_us R G).toInt64) * 31 + (rt_lf R).toInt64) * 31 + (pb_v n K R.su).toInt64) * 31 + (pb_c R.su).toInt64)))) M) := by
    intro d
    refine sg_wr 4 rfl ?_
    refine sg_p_callV rfl rfl rfl r128 rfl (Nat.le_of_ble_eq_true rfl) (Nat.le_of_ble_eq_true rfl) (rt_conflicts h) ?_
    refine sg_wr 3 rfl ?_
    exact k72 _
  have k48 : ∀ d : Int64, wpa Ls xs 104 48 [(0, .ref 128), (1, .long d)] [] M (sg_eq (some (.long (dg_f R n g K tp ds dc G ((((((d * 31 + (nI R.wk).toInt64) * 31 + (rt_cf R G).toInt64) * 31 + (rt_us R G).toInt64) * 31 + (rt_lf R).toInt64) * 31 + (pb_v n K R.su).toInt64) * 31 + (pb_c R.su).toInt64)))) M) := by
    intro d
    refine sg_wr 4 rfl ?_
    refine sg_p_callV rfl rfl rfl r128 rfl (Nat.le_of_ble_eq_true rfl) (Nat.le_of_ble_eq_true rfl) (rt_pending h) ?_
    refine sg_wr 3 rfl ?_
    exact k60 _
  have k28 : ∀ d : Int64, wpa Ls xs 104 28 [(0, .ref 128), (1, .long d)] [] M (sg_eq (some (.long (dg_f R n g K tp ds dc G (((((((d * 31 + b.toInt64) * 31 + (nI R.wk).toInt64) * 31 + (rt_cf R G).toInt64) * 31 + (rt_us R G).toInt64) * 31 + (rt_lf R).toInt64) * 31 + (pb_v n K R.su).toInt64) * 31 + (pb_c R.su).toInt64)))) M) := by
    intro d
    refine sg_wr 4 rfl ?_
    refine sg_r_callV rfl rfl rfl r128 rfl (Nat.le_of_ble_eq_true rfl) (Nat.le_of_ble_eq_true rfl) (rt_isClean h) ?_
    rintro _ _ _ _ ⟨⟨v, rfl, hv⟩, rfl, rfl, rfl⟩
    refine sg_a0 ?_
    rcases hv with ⟨rfl, q⟩ | ⟨rfl, q⟩
    · rcases hb with ⟨rfl, q2⟩ | ⟨rfl, q2⟩
      · refine sg_wr 6 rfl ?_
        exact k48 _
      · exact absurd q q2
    · rcases hb with ⟨rfl, q2⟩ | ⟨rfl, q2⟩
      · exact absurd q2 q
      · refine sg_wr 5 rfl ?_
        exact k48 _
  have k16 : ∀ d : Int64, wpa Ls xs 104 16 [(0, .ref 128), (1, .long d)] [] M (sg_eq (some (.long (dg_f R n g K tp ds dc G ((((((((d * 31 + (nI R.hd).toInt64) * 31 + b.toInt64) * 31 + (nI R.wk).toInt64) * 31 + (rt_cf R G).toInt64) * 31 + (rt_us R G).toInt64) * 31 + (rt_lf R).toInt64) * 31 + (pb_v n K R.su).toInt64) * 31 + (pb_c R.su).toInt64)))) M) := by
    intro d
    refine sg_wr 4 rfl ?_
    refine sg_p_callV rfl rfl rfl r128 rfl (Nat.le_of_ble_eq_true rfl) (Nat.le_of_ble_eq_true rfl) (rt_head h) ?_
    refine sg_wr 3 rfl ?_
    exact k28 _
  have k4 : ∀ d : Int64, wpa Ls xs 104 4 [(0, .ref 128), (1, .long d)] [] M (sg_eq (some (.long (dg_f R n g K tp ds dc G (((((((((d * 31 + (nI n).toInt64) * 31 + (nI R.hd).toInt64) * 31 + b.toInt64) * 31 + (nI R.wk).toInt64) * 31 + (rt_cf R G).toInt64) * 31 + (rt_us R G).toInt64) * 31 + (rt_lf R).toInt64) * 31 + (pb_v n K R.su).toInt64) * 31 + (pb_c R.su).toInt64)))) M) := by
    intro d
    refine sg_wr 4 rfl ?_
    refine sg_p_callV rfl rfl rfl r128 rfl (Nat.le_of_ble_eq_true rfl) (Nat.le_of_ble_eq_true rfl) (rt_commits h) ?_
    refine sg_wr 3 rfl ?_
    exact k16 _
  unfold dg_v
  refine sg_wr 2 rfl ?_
  exact k4 _
/-- merging does not show in it while no work is pending -/
theorem dg_same {G1 : mg_C} {b : Int32} (hw : R.wk = 0) : dg_v R n g K tp ds dc G1 b = dg_v R n g K tp ds dc G b := by
  have e1 : ∀ G : mg_C, rt_cf R G = 0 := fun G => by unfold rt_cf; rw [hw]; rfl
  have e2 : ∀ G : mg_C, rt_us R G = 0 := fun G => by unfold rt_us; rw [hw]; rfl
  have e3 : ∀ G : mg_C, rt_cn R G = 0 := fun G => by unfold rt_cn; rw [hw]; rfl
  unfold dg_v dg_f dg_e
  rw [e1, e1, e2, e2, e3, e3]
  rfl
end
end SGDH
