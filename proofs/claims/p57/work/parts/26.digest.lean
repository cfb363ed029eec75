section SGDG
def pb_s (n : Nat) (K : Nat → hs_K) (su : Int64) (all : Int32) (i : Nat) : Int32 := if all - jd_bc (su &&& hs_a (hs_D n K (nI i))) < jd_bc (su &&& hs_a (hs_D n K (nI i))) then all - jd_bc (su &&& hs_a (hs_D n K (nI i))) else jd_bc (su &&& hs_a (hs_D n K (nI i)))
def pb_f (n : Nat) (K : Nat → hs_K) (su : Int64) (all : Int32) : Nat → Nat → Int32 → Int32 → Int32
  | 0, _, b, _ => b
  | d + 1, i, b, m => if lg_cmp (su &&& ((1 : Int64) <<< ((nI i).toInt64 &&& 63))) 0 = 0 then pb_f n K su all d (i + 1) b m else if pb_s n K su all i ≤ m then pb_f n K su all d (i + 1) b m else pb_f n K su all d (i + 1) (nI i) (pb_s n K su all i)
def pb_v (n : Nat) (K : Nat → hs_K) (su : Int64) : Int32 := if 2 ≤ jd_bc su then pb_f n K su (jd_bc su) 60 0 (-1) 0 else -1
def pb_c (su : Int64) : Int32 := if ¬ jd_bc su = 1 then -1 else gr su 60
section
variable {Ls : Nat} {xs : Nat → Int32} {M : sg_M} {R : rt_R} {n : Nat} {g : Int64} {K : Nat → hs_K} {tp ds dc : Nat → Int32} {G : mg_C}
theorem pb_one (n : Nat) (K : Nat → hs_K) (su : Int64) : pb_v n K su < 0 ∨ pb_c su < 0 := by
  unfold pb_v pb_c
  by_cases c : jd_bc su = 1
  · rw [c, if_neg (by decide)]
    exact Or.inl (by decide)
  · rw [if_pos c]
    exact Or.inr (by decide)
theorem rt_pb_loop (h : rt_is M R n g K tp ds dc G) (all : Int32) : ∀ (d i : Nat) (b m : Int32) (T : sg_L), d = 60 - i → i ≤ 60 → (T = [] ∨ ∃ x y : Int32, T = [(5, .int x), (6, .int y)]) → wpa Ls xs 99 22 ([(0, .ref 128), (1, .int all), (2, .int b), (3, .int m), (4, .int (nI i))] ++ T) [] M (sg_eq (some (.int (pb_f n K R.su all d i b m))) M) := by
  obtain ⟨r128, rH, rD, r138, rG, rM⟩ := id h
  intro d
  induction d with
  | zero =>
    intro i b m T hd hi hT
    have e : i = 60 := by omega
    subst e
    rcases hT with rfl | ⟨x, y, rfl⟩ <;> (refine sg_wr 4 rfl ?_; exact sg_we rfl rfl ⟨rfl, rfl, rfl, rfl⟩)
  | succ d ih =>
    intro i b m T hd hi hT
    have hlt : i < 60 := by omega
    rw [pb_f]
    rcases hT with rfl | ⟨x, y, rfl⟩
    · refine sg_wr 2 rfl ?_
      refine sg_wb rfl rfl (fun h26 => absurd h26 (nI_ge (b := 60) hlt (by decide))) (fun h26 => ?_)
      refine sg_wr 1 rfl ?_
      refine sg_r_getf rfl r128 rfl ?_
      refine sg_wr 6 rfl ?_
      refine sg_wb rfl rfl (fun h40 => ?_) (fun h40 => ?_)
      · rw [if_pos h40]
        refine sg_wr 2 rfl ?_
        have h9 := ih (i + 1) b m [] (by omega) hlt (Or.inl rfl)
        rw [nI_succ] at h9
        exact h9
      · rw [if_neg h40]
        refine sg_wr 1 rfl ?_
        refine sg_r_getf rfl r128 rfl ?_
        refine sg_wr 1 rfl ?_
        refine sg_r_getf rfl r128 rfl ?_
        refine sg_wr 1 rfl ?_
        refine sg_p_callV rfl rfl rfl rH.1 rfl (Nat.le_of_ble_eq_true rfl) (Nat.le_of_ble_eq_true rfl) (hs_at rH _) ?_
        refine sg_r_getf rfl (hs_get rH _).1 rfl ?_
        refine sg_wr 1 rfl ?_
        refine sg_p_callS rfl rfl rfl rfl (Nat.le_of_ble_eq_true rfl) (Nat.le_of_ble_eq_true rfl) (jd_bit _) ?_
        refine sg_wr 9 rfl ?_
        refine sg_wb rfl rfl (fun h79 => ?_) (fun h79 => ?_)
        · rw [if_pos (show pb_s n K R.su all i ≤ m from h79)]
          refine sg_wr 2 rfl ?_
          have h9 := ih (i + 1) b m [(5, .int (jd_bc (R.su &&& hs_a (hs_D n K (nI i))))), (6, .int (pb_s n K R.su all i))] (by omega) hlt (Or.inr ⟨_, _, rfl⟩)
          rw [nI_succ] at h9
          exact h9
        · rw [if_neg (show ¬ pb_s n K R.su all i ≤ m from h79)]
          refine sg_wr 6 rfl ?_
          have h9 := ih (i + 1) (nI i) (pb_s n K R.su all i) [(5, .int (jd_bc (R.su &&& hs_a (hs_D n K (nI i))))), (6, .int (pb_s n K R.su all i))] (by omega) hlt (Or.inr ⟨_, _, rfl⟩)
          rw [nI_succ] at h9
          exact h9
    · refine sg_wr 2 rfl ?_
      refine sg_wb rfl rfl (fun h26 => absurd h26 (nI_ge (b := 60) hlt (by decide))) (fun h26 => ?_)
      refine sg_wr 1 rfl ?_
      refine sg_r_getf rfl r128 rfl ?_
      refine sg_wr 6 rfl ?_
      refine sg_wb rfl rfl (fun h40 => ?_) (fun h40 => ?_)
      · rw [if_pos h40]
        refine sg_wr 2 rfl ?_
        have h9 := ih (i + 1) b m [(5, .int x), (6, .int y)] (by omega) hlt (Or.inr ⟨_, _, rfl⟩)
        rw [nI_succ] at h9
        exact h9
      · rw [if_neg h40]
        refine sg_wr 1 rfl ?_
        refine sg_r_getf rfl r128 rfl ?_
        refine sg_wr 1 rfl ?_
        refine sg_r_getf rfl r128 rfl ?_
        refine sg_wr 1 rfl ?_
        refine sg_p_callV rfl rfl rfl rH.1 rfl (Nat.le_of_ble_eq_true rfl) (Nat.le_of_ble_eq_true rfl) (hs_at rH _) ?_
        refine sg_r_getf rfl (hs_get rH _).1 rfl ?_
        refine sg_wr 1 rfl ?_
        refine sg_p_callS rfl rfl rfl rfl (Nat.le_of_ble_eq_true rfl) (Nat.le_of_ble_eq_true rfl) (jd_bit _) ?_
        refine sg_wr 9 rfl ?_
        refine sg_wb rfl rfl (fun h79 => ?_) (fun h79 => ?_)
        · rw [if_pos (show pb_s n K R.su all i ≤ m from h79)]
          refine sg_wr 2 rfl ?_
          have h9 := ih (i + 1) b m [(5, .int (jd_bc (R.su &&& hs_a (hs_D n K (nI i))))), (6, .int (pb_s n K R.su all i))] (by omega) hlt (Or.inr ⟨_, _, rfl⟩)
          rw [nI_succ] at h9
          exact h9
        · rw [if_neg (show ¬ pb_s n K R.su all i ≤ m from h79)]
          refine sg_wr 6 rfl ?_
          have h9 := ih (i + 1) (nI i) (pb_s n K R.su all i) [(5, .int (jd_bc (R.su &&& hs_a (hs_D n K (nI i))))), (6, .int (pb_s n K R.su all i))] (by omega) hlt (Or.inr ⟨_, _, rfl⟩)
          rw [nI_succ] at h9
          exact h9

theorem rt_probe (h : rt_is M R n g K tp ds dc G) : wpm Ls xs 99 [.ref 128] M (sg_eq (some (.int (pb_v n K R.su))) M) := by
  obtain ⟨r128, rH, rD, r138, rG, rM⟩ := id h
  unfold pb_v
  refine sg_wr 1 rfl ?_
  refine sg_r_getf rfl r128 rfl ?_
  refine sg_p_callS rfl rfl rfl rfl (Nat.le_of_ble_eq_true rfl) (Nat.le_of_ble_eq_true rfl) (jd_bit _) ?_
  refine sg_wr 3 rfl ?_
  refine sg_wb rfl rfl (fun h10 => ?_) (fun h10 => ?_)
  · rw [if_pos h10]
    refine sg_wr 6 rfl ?_
    exact rt_pb_loop h _ 60 0 _ _ [] rfl (by decide) (Or.inl rfl)
  · rw [if_neg h10]
    refine sg_wr 1 rfl ?_
    exact sg_we rfl rfl ⟨rfl, rfl, rfl, rfl⟩
theorem rt_culprit (h : rt_is M R n g K tp ds dc G) : wpm Ls xs 101 [.ref 128] M (sg_eq (some (.int (pb_c R.su))) M) := by
  obtain ⟨r128, rH, rD, r138, rG, rM⟩ := id h
  unfold pb_c
  refine sg_wr 1 rfl ?_
  refine sg_r_getf rfl r128 rfl ?_
  refine sg_p_callS rfl rfl rfl rfl (Nat.le_of_ble_eq_true rfl) (Nat.le_of_ble_eq_true rfl) (jd_bit _) ?_
  refine sg_wr 1 rfl ?_
  refine sg_wb rfl rfl (fun h8 => ?_) (fun h8 => ?_)
  · rw [if_pos h8]
    refine sg_wr 1 rfl ?_
    exact sg_we rfl rfl ⟨rfl, rfl, rfl, rfl⟩
  · rw [if_neg h8]
    refine sg_wr 1 rfl ?_
    refine sg_r_getf rfl r128 rfl ?_
    refine sg_p_callS rfl rfl rfl rfl (Nat.le_of_ble_eq_true rfl) (Nat.le_of_ble_eq_true rfl) (hs_gr _) ?_
    refine sg_wr 1 rfl ?_
    exact sg_we rfl rfl ⟨rfl, rfl, rfl, rfl⟩
def wt_i (fs fc : Nat → Int32) (f : Int32) : Nat → Nat → Int64 → Int64
  | 0, _, d => d
  | m + 1, p, d => wt_i fs fc f m (p + 1) (d * 31 + (tr_line fs fc f (nI p)).toInt64)
def wt_o (fs fc : Nat → Int32) : Nat → Nat → Int64 → Int64
  | 0, _, d => d
  | m + 1, i, d => wt_o fs fc m (i + 1) (wt_i fs fc (nI i) (tr_size fs (nI i)).toNatClampNeg 0 (d * 31 + (tr_size fs (nI i)).toInt64))
theorem wt_in {t s c : Nat} {fs fc : Nat → Int32} (h : tr_is M t s c fs fc) (d0 : Int64) (i : Nat) (z : Int32) {Q : Option Value ⊕ Nat → sg_M → Nat → Nat → Prop} : ∀ (m p : Nat) (d : Int64), m = z.toNatClampNeg - p → p < 2 ^ 31 → (∀ q : Int32, wpa Ls xs 106 62 [(0, .long d0), (2, .ref t), (3, .long (wt_i fs fc (nI i) m p d)), (5, .int (nI i)), (6, .int z), (7, .int q)] [] M Q) → wpa Ls xs 106 33 [(0, .long d0), (2, .ref t), (3, .long d), (5, .int (nI i)), (6, .int z), (7, .int (nI p))] [] M Q := by
  intro m
  induction m with
  | zero =>
    intro p d hm hp hQ
    refine sg_wr 2 rfl ?_
    refine sg_wb rfl rfl (fun _ => hQ _) (fun h37 => ?_)
    have hlt : nI p < z := Int32.not_le.mp h37
    rcases sg_int z with hz0 | ⟨j, hj, rfl⟩
    · exact absurd (Int32.lt_trans hlt hz0) (nI_pos hp)
    · have hij := (nI_ltI hp hj).mp hlt
      rw [nI_clamp hj] at hm
      omega
  | succ m ih =>
    intro p d hm hp hQ
    have hge : ¬ z ≤ nI p := by
      rcases sg_int z with hz0 | ⟨j, hj, rfl⟩
      · have e : z.toNatClampNeg = 0 := by
          have q1 : z.toInt < (0 : Int32).toInt := Int32.lt_iff_toInt_lt.mp hz0
          have q2 : (0 : Int32).toInt = 0 := by decide
          show z.toInt.toNat = 0
          omega
        rw [e] at hm
        omega
      · rw [nI_clamp hj] at hm
        exact nI_ge (by omega) hj
    have hp1 : p + 1 < 2 ^ 31 := by
      rcases sg_int z with hz0 | ⟨j, hj, rfl⟩
      · exact absurd (Int32.le_trans (Int32.le_of_lt hz0) (Int32.not_lt.mp (nI_pos hp))) hge
      · rw [nI_clamp hj] at hm
        omega
    refine sg_wr 2 rfl ?_
    refine sg_wb rfl rfl (fun h37 => absurd h37 hge) (fun h37 => ?_)
    refine sg_wr 6 rfl ?_
    refine sg_p_callV rfl rfl rfl h.1 rfl (Nat.le_of_ble_eq_true rfl) (Nat.le_of_ble_eq_true rfl) (tr_lineOf h _ _) ?_
    refine sg_wr 5 rfl ?_
    have h9 := ih (p + 1) (d * 31 + (tr_line fs fc (nI i) (nI p)).toInt64) (by omega) hp1 hQ
    rw [nI_succ] at h9
    exact h9
theorem wt_out {t s c : Nat} {fs fc : Nat → Int32} (h : tr_is M t s c fs fc) (d0 : Int64) : ∀ (m i : Nat) (d : Int64) (T : sg_L), m = 8 - i → i ≤ 8 → (T = [] ∨ ∃ x y : Int32, T = [(6, .int x), (7, .int y)]) → wpa Ls xs 106 5 ([(0, .long d0), (2, .ref t), (3, .long d), (5, .int (nI i))] ++ T) [] M (sg_eq (some (.long (wt_o fs fc m i d))) M) := by
  intro m
  induction m with
  | zero =>
    intro i d T hm hi hT
    have e : i = 8 := by omega
    subst e
    rcases hT with rfl | ⟨x, y, rfl⟩ <;> (refine sg_wr 4 rfl ?_; exact sg_we rfl rfl ⟨rfl, rfl, rfl, rfl⟩)
  | succ m ih =>
    intro i d T hm hi hT
    have hlt : i < 8 := by omega
    rw [wt_o]
    rcases hT with rfl | ⟨x, y, rfl⟩
    · refine sg_wr 2 rfl ?_
      refine sg_wb rfl rfl (fun h9 => absurd h9 (nI_ge (b := 8) hlt (by decide))) (fun h9 => ?_)
      refine sg_wr 2 rfl ?_
      refine sg_p_callV rfl rfl rfl h.1 rfl (Nat.le_of_ble_eq_true rfl) (Nat.le_of_ble_eq_true rfl) (tr_sizeOf h _) ?_
      refine sg_wr 10 rfl ?_
      refine wt_in h d0 i (tr_size fs (nI i)) _ 0 _ rfl (by decide) (fun q => ?_)
      refine sg_wr 2 rfl ?_
      have h9 := ih (i + 1) (wt_i fs fc (nI i) (tr_size fs (nI i)).toNatClampNeg 0 (d * 31 + (tr_size fs (nI i)).toInt64)) [(6, .int (tr_size fs (nI i))), (7, .int q)] (by omega) hlt (Or.inr ⟨_, _, rfl⟩)
      rw [nI_succ] at h9
      exact h9
    · refine sg_wr 2 rfl ?_
      refine sg_wb rfl rfl (fun h9 => absurd h9 (nI_ge (b := 8) hlt (by decide))) (fun h9 => ?_)
      refine sg_wr 2 rfl ?_
      refine sg_p_callV rfl rfl rfl h.1 rfl (Nat.le_of_ble_eq_true rfl) (Nat.le_of_ble_eq_true rfl) (tr_sizeOf h _) ?_
      refine sg_wr 10 rfl ?_
      refine wt_in h d0 i (tr_size fs (nI i)) _ 0 _ rfl (by decide) (fun q => ?_)
      refine sg_wr 2 rfl ?_
      have h9 := ih (i + 1) (wt_i fs fc (nI i) (tr_size fs (nI i)).toNatClampNeg 0 (d * 31 + (tr_size fs (nI i)).toInt64)) [(6, .int (tr_size fs (nI i))), (7, .int q)] (by omega) hlt (Or.inr ⟨_, _, rfl⟩)
      rw [nI_succ] at h9
      exact h9

theorem rt_withTree {t s c : Nat} {fs fc : Nat → Int32} (h : tr_is M t s c fs fc) (d : Int64) : wpm Ls xs 106 [.long d, .ref t] M (sg_eq (some (.long (wt_o fs fc 8 0 d))) M) := by
  refine sg_wr 4 rfl ?_
  exact wt_out h d 8 0 d [] rfl (by decide) (Or.inl rfl)
def wc_f (n : Nat) (K : Nat → hs_K) (tp : Nat → Int32) (x : Int32) (d : Int64) : Int64 := wt_o (hs_fs (hs_D n K x)) (hs_fc (hs_D n K x)) 8 0 (((((d * 31 + (if bt (rt_or n K tp 8) x = true then (1 : Int32) else 0).toInt64) * 31 + (hs_f (hs_D n K x)).toInt64) * 31 + (hs_e (hs_D n K x)).toInt64) * 31 + (hs_w (hs_D n K x)).toInt64) * 31 + (hs_d (hs_D n K x)).toInt64)
theorem rt_withCommit (h : rt_is M R n g K tp ds dc G) {x : Int32} (hx : hs_th n g x) (d : Int64) : wpm Ls xs 105 [.ref 128, .long d, .int x] M (sg_eq (some (.long (wc_f n K tp x d))) M) := by
  obtain ⟨r128, rH, rD, r138, rG, rM⟩ := id h
  have k88 : ∀ e : Int64, wpa Ls xs 105 88 [(0, .ref 128), (1, .long d), (3, .int x), (4, .long e)] [] M (sg_eq (some (.long (wt_o (hs_fs (hs_D n K x)) (hs_fc (hs_D n K x)) 8 0 e))) M) := by
    intro e
    refine sg_wr 3 rfl ?_
    refine sg_p_callV rfl rfl rfl r128 rfl (Nat.le_of_ble_eq_true rfl) (Nat.le_of_ble_eq_true rfl) (rt_treeOf h x) ?_
    refine sg_p_callS rfl rfl rfl rfl (Nat.le_of_ble_eq_true rfl) (Nat.le_of_ble_eq_true rfl) (rt_withTree (hs_get rH x).2 _) ?_
    exact sg_we rfl rfl ⟨rfl, rfl, rfl, rfl⟩
  have k73 : ∀ e : Int64, wpa Ls xs 105 73 [(0, .ref 128), (1, .long d), (3, .int x), (4, .long e)] [] M (sg_eq (some (.long (wt_o (hs_fs (hs_D n K x)) (hs_fc (hs_D n K x)) 8 0 (e * 31 + (hs_d (hs_D n K x)).toInt64)))) M) := by
    intro e
    refine sg_wr 5 rfl ?_
    refine sg_p_callV rfl rfl rfl r128 rfl (Nat.le_of_ble_eq_true rfl) (Nat.le_of_ble_eq_true rfl) (rt_depthOf h hx) ?_
    refine sg_wr 3 rfl ?_
    exact k88 _
  have k58 : ∀ e : Int64, wpa Ls xs 105 58 [(0, .ref 128), (1, .long d), (3, .int x), (4, .long e)] [] M (sg_eq (some (.long (wt_o (hs_fs (hs_D n K x)) (hs_fc (hs_D n K x)) 8 0 ((e * 31 + (hs_w (hs_D n K x)).toInt64) * 31 + (hs_d (hs_D n K x)).toInt64)))) M) := by
    intro e
    refine sg_wr 5 rfl ?_
    refine sg_p_callV rfl rfl rfl r128 rfl (Nat.le_of_ble_eq_true rfl) (Nat.le_of_ble_eq_true rfl) (rt_wordOf h hx) ?_
    refine sg_wr 3 rfl ?_
    exact k73 _
  have k42 : ∀ e : Int64, wpa Ls xs 105 42 [(0, .ref 128), (1, .long d), (3, .int x), (4, .long e)] [] M (sg_eq (some (.long (wt_o (hs_fs (hs_D n K x)) (hs_fc (hs_D n K x)) 8 0 (((e * 31 + (hs_e (hs_D n K x)).toInt64) * 31 + (hs_w (hs_D n K x)).toInt64) * 31 + (hs_d (hs_D n K x)).toInt64)))) M) := by
    intro e
    refine sg_wr 6 rfl ?_
    refine sg_p_callV rfl rfl rfl r128 rfl (Nat.le_of_ble_eq_true rfl) (Nat.le_of_ble_eq_true rfl) ((rt_parent h hx 1)) ?_
    refine sg_wr 3 rfl ?_
    exact k58 _
  have k26 : ∀ e : Int64, wpa Ls xs 105 26 [(0, .ref 128), (1, .long d), (3, .int x), (4, .long e)] [] M (sg_eq (some (.long (wt_o (hs_fs (hs_D n K x)) (hs_fc (hs_D n K x)) 8 0 ((((e * 31 + (hs_f (hs_D n K x)).toInt64) * 31 + (hs_e (hs_D n K x)).toInt64) * 31 + (hs_w (hs_D n K x)).toInt64) * 31 + (hs_d (hs_D n K x)).toInt64)))) M) := by
    intro e
    refine sg_wr 6 rfl ?_
    refine sg_p_callV rfl rfl rfl r128 rfl (Nat.le_of_ble_eq_true rfl) (Nat.le_of_ble_eq_true rfl) ((rt_parent h hx 0)) ?_
    refine sg_wr 3 rfl ?_
    exact k42 _
  unfold wc_f
  refine sg_wr 7 rfl ?_
  refine sg_r_callV rfl rfl rfl r128 rfl (Nat.le_of_ble_eq_true rfl) (Nat.le_of_ble_eq_true rfl) (rt_isReached h hx) ?_
  rintro _ _ _ _ ⟨⟨v, rfl, hv⟩, rfl, rfl, rfl⟩
  refine sg_a0 ?_
  rcases hv with ⟨rfl, q⟩ | ⟨rfl, q⟩
  · rw [if_pos q]
    refine sg_wr 6 rfl ?_
    exact k26 _
  · rw [if_neg q]
    refine sg_wr 5 rfl ?_
    exact k26 _
end
end SGDG
