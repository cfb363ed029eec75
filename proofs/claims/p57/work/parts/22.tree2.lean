section SGTL
section
variable {Ls : Nat} {xs : Nat → Int32} {M : sg_M} {t s c : Nat} {fs fc : Nat → Int32}
theorem tr_stc {gc hc : Nat → Int32} : (sg_up (tr_st M s c fs gc).1 c (.inl (0, 320, .inl hc)), (tr_st M s c fs gc).2) = tr_st M s c fs hc := by
  unfold tr_st
  rw [sg_upup]
theorem tr_sts {gs gc : Nat → Int32} (h : s ≠ c) : (sg_up (tr_st M s c fs gc).1 s (.inl (0, 8, .inl gs)), (tr_st M s c fs gc).2) = tr_st M s c gs gc := by
  unfold tr_st
  show ((sg_up (sg_up (sg_up M.1 s _) c _) s _ : Nat → Option sg_E), M.2) = _
  rw [sg_upcomm (a := c) (b := s) (Ne.symm h), sg_upup]
theorem tr_size_in {x : Int32} (h : ¬ tr_size fs x < 0) : ∃ j : Nat, j < 8 ∧ x = nI j ∧ tr_size fs x = fs j := by
  unfold tr_size at h ⊢
  by_cases c1 : x < 0
  · rw [if_pos c1] at h; exact absurd (by decide) h
  · rw [if_neg c1] at h ⊢
    by_cases c2 : x < 8
    · obtain ⟨j, hj, rfl⟩ := nI_of c1
      exact ⟨j, (nI_ltI hj (by decide)).mp c2, rfl, by rw [if_pos c2, nI_clamp hj]⟩
    · rw [if_neg c2] at h; exact absurd (by decide) h
theorem tr_40 {j : Nat} : nI j * 40 = nI (j * 40) := by rw [show (40 : Int32) = nI 40 from rfl, pk_mul]
theorem tr_n40 {k : Nat} (h : k ≤ 40) : -1 ≤ nI k ∧ nI k ≤ 40 := ⟨Int32.le_trans (b := nI 0) (by decide) (nI_le (by omega) (by omega)), nI_le (b := 40) h (by decide)⟩
theorem tr_pl_loop (h : tr_is M t s c fs fc) {j k q : Nat} {v : Int32} (hj : j < 8) (hk : k < 40) (hq : q ≤ k) : ∀ (d : Nat) (gc : Nat → Int32), q + d ≤ k → wpa Ls xs 10 43 [(0, .ref t), (1, .int (nI j)), (2, .int (nI q)), (3, .int v), (4, .int (nI k)), (5, .int (nI (j * 40))), (6, .int (nI (j * 40 + q + d)))] [] (tr_st M s c fs gc) (tr_q M s c fs) := by
  have hsc := tr_ne h.2.1 h.2.2.1
  intro d
  induction d with
  | zero =>
    intro gc hd
    have h' : tr_is (tr_st M s c fs gc) t s c fs gc := tr_st_is h
    have h2' : tr_is (tr_st M s c fs (upd gc (j * 40 + q) v)) t s c fs (upd gc (j * 40 + q) v) := tr_st_is h
    refine sg_wr 4 rfl ?_
    rw [nI_add]
    refine sg_wb rfl rfl (fun _ => ?_) (fun h49 => absurd Int32.le_rfl h49)
    refine sg_wr 1 rfl ?_
    refine sg_r_getf rfl h'.1 rfl ?_
    refine sg_wr 4 rfl ?_
    rw [nI_add]
    refine sg_r_iast rfl h'.2.2.1 (sg_in_n (by omega) (by decide)) ?_
    rw [nI_clamp (by omega), tr_stc]
    refine sg_wr 1 rfl ?_
    refine sg_r_getf rfl h2'.1 rfl ?_
    refine sg_wr 4 rfl ?_
    rw [nI_1]
    refine sg_r_iast rfl h2'.2.1 (sg_in_n hj (by decide)) ?_
    rw [nI_clamp (by omega), tr_sts hsc]
    exact sg_we rfl rfl ⟨rfl, ⟨_, _, rfl, fun z => tr_ti_upd z (tr_n40 (by omega)).1 (tr_n40 (by omega)).2⟩, rfl, rfl⟩
  | succ d ih =>
    intro gc hd
    have h' : tr_is (tr_st M s c fs gc) t s c fs gc := tr_st_is h
    refine sg_wr 4 rfl ?_
    rw [nI_add]
    refine sg_wb rfl rfl (fun h49 => absurd h49 (nI_ge (by omega) (by omega))) (fun _ => ?_)
    refine sg_wr 1 rfl ?_
    refine sg_r_getf rfl h'.1 rfl ?_
    refine sg_wr 2 rfl ?_
    refine sg_r_getf rfl h'.1 rfl ?_
    refine sg_wr 3 rfl ?_
    rw [show nI (j * 40 + q + (d + 1)) - 1 = nI (j * 40 + q + d) from nI_pred _]
    refine sg_r_iald rfl h'.2.2.2.2 h'.2.2.1 (sg_in_n (by omega) (by decide)) ?_
    refine sg_r_iast rfl h'.2.2.1 (sg_in_n (by omega) (by decide)) ?_
    rw [tr_stc]
    refine sg_wr 2 rfl ?_
    have h9 := ih (upd gc (nI (j * 40 + q + (d + 1))).toNatClampNeg (gc (nI (j * 40 + q + d)).toNatClampNeg)) (by omega)
    rw [show nI (j * 40 + q + d) = nI (j * 40 + q + (d + 1)) + Int32.ofInt (-1) from by rw [sg_dec]; exact (nI_pred _).symm] at h9 ⊢
    exact h9
theorem tr_putLine (h : tr_is M t s c fs fc) (x p v : Int32) : wpm Ls xs 10 [.ref t, .int x, .int p, .int v] M (tr_q M s c fs) := by
  refine sg_wr 2 rfl ?_
  refine sg_p_callV rfl rfl rfl h.1 rfl (Nat.le_of_ble_eq_true rfl) (Nat.le_of_ble_eq_true rfl) (tr_sizeOf h x) ?_
  refine sg_wr 2 rfl ?_
  refine sg_wb rfl rfl (fun h9 => ?_) (fun h9 => ?_)
  · exact sg_we rfl rfl ⟨rfl, ⟨fs, fc, (tr_st_self h).symm, fun z => z⟩, rfl, rfl⟩
  · refine sg_wr 2 rfl ?_
    refine sg_wb rfl rfl (fun h16 => ?_) (fun h16 => ?_)
    · exact sg_we rfl rfl ⟨rfl, ⟨fs, fc, (tr_st_self h).symm, fun z => z⟩, rfl, rfl⟩
    · refine sg_wr 1 rfl ?_
      refine sg_wb rfl rfl (fun h20 => ?_) (fun h20 => ?_)
      · exact sg_we rfl rfl ⟨rfl, ⟨fs, fc, (tr_st_self h).symm, fun z => z⟩, rfl, rfl⟩
      · refine sg_wr 2 rfl ?_
        refine sg_wb rfl rfl (fun h26 => ?_) (fun h26 => ?_)
        · obtain ⟨j, hj, rfl, e⟩ := tr_size_in h9
          obtain ⟨k, hk, e2⟩ := nI_of h9
          obtain ⟨q, hq, rfl⟩ := nI_of h20
          rw [e2] at h16 h26 ⊢
          have hk4 : k < 40 := Nat.not_le.mp fun z => h16 (nI_le (a := 40) z hk)
          have hqk : q ≤ k := (nI_leI hq hk).mp h26
          have h9 := tr_pl_loop (Ls := Ls) (xs := xs) (v := v) h hj hk4 hqk (k - q) fc (by omega)
          rw [tr_st_self h] at h9
          refine sg_wr 4 rfl ?_
          refine sg_wr 4 rfl ?_
          rw [tr_40, nI_add]
          rw [show j * 40 + q + (k - q) = j * 40 + k by omega] at h9
          exact h9
        · exact sg_we rfl rfl ⟨rfl, ⟨fs, fc, (tr_st_self h).symm, fun z => z⟩, rfl, rfl⟩
theorem tr_tl_loop (h : tr_is M t s c fs fc) {j k q : Nat} (hj : j < 8) (hk : k ≤ 40) (hk1 : 1 ≤ k) : ∀ (m e : Nat) (gc : Nat → Int32), m = k - 1 - e → e ≤ k - 1 → wpa Ls xs 11 34 [(0, .ref t), (1, .int (nI j)), (2, .int (nI q)), (3, .int (nI k)), (4, .int (nI (j * 40))), (5, .int (nI (j * 40 + e)))] [] (tr_st M s c fs gc) (tr_q M s c fs) := by
  have hsc := tr_ne h.2.1 h.2.2.1
  have hpr : nI (j * 40) + nI k - 1 = nI (j * 40 + (k - 1)) := by
    rw [nI_add, show j * 40 + k = (j * 40 + (k - 1)) + 1 by omega, nI_pred]
  have hpk : nI k - 1 = nI (k - 1) := by
    have z := nI_pred (k - 1)
    rw [show k - 1 + 1 = k by omega] at z
    exact z
  intro m
  induction m with
  | zero =>
    intro e gc hm he
    have hz : e = k - 1 := by omega
    subst hz
    have h' : tr_is (tr_st M s c fs gc) t s c fs gc := tr_st_is h
    refine sg_wr 6 rfl ?_
    rw [hpr]
    refine sg_wb rfl rfl (fun _ => ?_) (fun h42 => absurd Int32.le_rfl h42)
    refine sg_wr 1 rfl ?_
    refine sg_r_getf rfl h'.1 rfl ?_
    refine sg_wr 4 rfl ?_
    rw [hpk]
    refine sg_r_iast rfl h'.2.1 (sg_in_n hj (by decide)) ?_
    rw [tr_sts hsc]
    exact sg_we rfl rfl ⟨rfl, ⟨_, _, rfl, fun z => tr_ti_upd z (tr_n40 (by omega)).1 (tr_n40 (by omega)).2⟩, rfl, rfl⟩
  | succ m ih =>
    intro e gc hm he
    have h' : tr_is (tr_st M s c fs gc) t s c fs gc := tr_st_is h
    refine sg_wr 6 rfl ?_
    rw [hpr]
    refine sg_wb rfl rfl (fun h42 => absurd h42 (nI_ge (by omega) (by omega))) (fun _ => ?_)
    refine sg_wr 1 rfl ?_
    refine sg_r_getf rfl h'.1 rfl ?_
    refine sg_wr 2 rfl ?_
    refine sg_r_getf rfl h'.1 rfl ?_
    refine sg_wr 3 rfl ?_
    rw [nI_1]
    refine sg_r_iald rfl h'.2.2.2.2 h'.2.2.1 (sg_in_n (by omega) (by decide)) ?_
    refine sg_r_iast rfl h'.2.2.1 (sg_in_n (by omega) (by decide)) ?_
    rw [tr_stc]
    refine sg_wr 2 rfl ?_
    have h9 := ih (e + 1) (upd gc (nI (j * 40 + e)).toNatClampNeg (gc (nI (j * 40 + e + 1)).toNatClampNeg)) (by omega) (by omega)
    rw [show j * 40 + (e + 1) = j * 40 + e + 1 from rfl, nI_succ] at h9
    rw [nI_succ]
    exact h9
theorem tr_takeLine (h : tr_is M t s c fs fc) (x p : Int32) : wpm Ls xs 11 [.ref t, .int x, .int p] M (tr_q M s c fs) := by
  refine sg_wr 2 rfl ?_
  refine sg_p_callV rfl rfl rfl h.1 rfl (Nat.le_of_ble_eq_true rfl) (Nat.le_of_ble_eq_true rfl) (tr_sizeOf h x) ?_
  refine sg_wr 2 rfl ?_
  refine sg_wb rfl rfl (fun h7 => ?_) (fun h7 => ?_)
  · exact sg_we rfl rfl ⟨rfl, ⟨fs, fc, (tr_st_self h).symm, fun z => z⟩, rfl, rfl⟩
  · refine sg_wr 2 rfl ?_
    refine sg_wb rfl rfl (fun h12 => ?_) (fun h12 => ?_)
    · exact sg_we rfl rfl ⟨rfl, ⟨fs, fc, (tr_st_self h).symm, fun z => z⟩, rfl, rfl⟩
    · refine sg_wr 2 rfl ?_
      refine sg_wb rfl rfl (fun h18 => ?_) (fun h18 => ?_)
      · obtain ⟨q, hq, rfl⟩ := nI_of h7
        have h12' : nI q < tr_size fs x := Int32.not_le.mp h12
        have hs0 : ¬ tr_size fs x < 0 := fun z => nI_pos hq (Int32.lt_trans h12' z)
        obtain ⟨j, hj, rfl, e⟩ := tr_size_in hs0
        obtain ⟨k, hk, e2⟩ := nI_of hs0
        rw [e2] at h18 h12' ⊢
        have hk4 : k ≤ 40 := (nI_leI (b := 40) hk (by decide)).mp h18
        have hqk : q < k := (nI_ltI hq hk).mp h12'
        have h9 := tr_tl_loop (Ls := Ls) (xs := xs) (q := q) h hj hk4 (by omega) (k - 1 - q) q fc rfl (by omega)
        rw [tr_st_self h] at h9
        refine sg_wr 4 rfl ?_
        refine sg_wr 4 rfl ?_
        rw [tr_40, nI_add]
        exact h9
      · exact sg_we rfl rfl ⟨rfl, ⟨fs, fc, (tr_st_self h).symm, fun z => z⟩, rfl, rfl⟩
end
end SGTL
