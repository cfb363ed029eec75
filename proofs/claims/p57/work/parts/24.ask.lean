section SGAK
def rt_far (q : Nat) : Prop := q = 135 ∨ q = 136 ∨ q = 137 ∨ 161 ≤ q
theorem rt_far_g {q : Nat} (h : rt_far q) : q ∉ mg_F := fun z => by
  unfold rt_far at h
  simp only [List.mem_cons, List.not_mem_nil, or_false] at z
  omega
theorem rt_far_m {q : Nat} (h : rt_far q) : q ∉ [139, 140, 141, 142] := fun z => by
  unfold rt_far at h
  simp only [List.mem_cons, List.not_mem_nil, or_false] at z
  omega
theorem rt_md : mt_d 139 140 141 142 := by unfold mt_d; decide
section
variable {Ls : Nat} {xs : Nat → Int32} {M : sg_M} {R : rt_R} {n : Nat} {g : Int64} {K : Nat → hs_K} {tp ds dc : Nat → Int32} {G : mg_C}
theorem hs_far (h : hs_is M n g K) (x : Int32) : rt_far (hs_t (hs_D n K x)) ∧ rt_far (hs_s (hs_D n K x)) ∧ rt_far (hs_c (hs_D n K x)) := by
  have hN : rt_far (hs_t hs_N) ∧ rt_far (hs_s hs_N) ∧ rt_far (hs_c hs_N) := ⟨Or.inl rfl, Or.inr (Or.inl rfl), Or.inr (Or.inr (Or.inl rfl))⟩
  unfold hs_D
  split
  · exact hN
  · rename_i c1
    split
    · exact hN
    · rename_i c2
      obtain ⟨j, hj, rfl⟩ := nI_of c1
      rw [nI_clamp hj]
      obtain ⟨-, -, k3, k4, k5⟩ := h.2.2.2.2.2 j (sg_ltn c2 hj)
      exact ⟨Or.inr (Or.inr (Or.inr k3.1)), Or.inr (Or.inr (Or.inr k4.1)), Or.inr (Or.inr (Or.inr k5.1))⟩
theorem kd_ti (hk : kc_ok n g K) (x : Int32) : tr_ti (hs_fs (hs_D n K x)) := by
  unfold hs_D
  split
  · exact tr_cl_ti
  · rename_i c1
    split
    · exact tr_cl_ti
    · rename_i c2
      obtain ⟨j, hj, rfl⟩ := nI_of c1
      rw [nI_clamp hj]
      exact (hk.2.2 j (sg_ltn c2 hj)).2.2.1
theorem hs_mgt (h : hs_is M n g K) (hk : kc_ok n g K) (x : Int32) : mg_t M (hs_t (hs_D n K x)) := by
  obtain ⟨a, b, c⟩ := hs_far h x
  exact ⟨_, _, _, _, (hs_get h x).2, rt_far_g a, rt_far_g b, rt_far_g c, kd_ti hk x⟩
theorem rt_is.m (h : rt_is M R n g K tp ds dc G) (gl gb ga : Nat → Int32) (p : Int32) : rt_is (mt_m M 139 140 141 142 gl gb ga p) R n g K tp ds dc G := by
  obtain ⟨r128, rH, rD, r138, rG, rM⟩ := id h
  exact ⟨r128, rH.out mt_out (fun q hq => by
    simp only [List.mem_cons, List.not_mem_nil, or_false] at hq
    omega), rD, r138, rG, gl, gb, ga, p, rfl, rfl, rfl, rfl⟩
theorem rt_run (h : rt_is M R n g K tp ds dc G) (hk : kc_ok n g K) (x y z : Int32) : ∃ na nb : Nat, na ≤ 40 ∧ nb ≤ 40 ∧ tr_cnt (hs_fs (hs_D n K x)) z = nI na ∧ tr_cnt (hs_fs (hs_D n K y)) z = nI nb ∧ wpm Ls xs 26 [.ref 139, .ref (hs_t (hs_D n K x)), .ref (hs_t (hs_D n K y)), .int z] M (mt_rQ M 139 140 141 142 (mt_rn (fun i => tr_line (hs_fs (hs_D n K x)) (hs_fc (hs_D n K x)) z (nI i)) (fun i => tr_line (hs_fs (hs_D n K y)) (hs_fc (hs_D n K y)) z (nI i)) na nb)) := by
  obtain ⟨r128, rH, rD, r138, rG, rM⟩ := id h
  obtain ⟨l, b, a, p, m1, m2, m3, m4⟩ := rM
  obtain ⟨na, ka, ha⟩ := tr_cnt_n (kd_ti hk x) z
  obtain ⟨nb, kb, hb⟩ := tr_cnt_n (kd_ti hk y) z
  obtain ⟨a1, a2, a3⟩ := hs_far rH x
  obtain ⟨b1, b2, b3⟩ := hs_far rH y
  have hr := mt_run (Ls := Ls) (xs := xs) (M := M) (fl := l) (fb := b) (fa := a) (p := p) (x := z) rt_md (fun _ _ _ _ => mt_tr (hs_get rH x).2 (rt_far_m a1) (rt_far_m a2) (rt_far_m a3)) (fun _ _ _ _ => mt_tr (hs_get rH y).2 (rt_far_m b1) (rt_far_m b2) (rt_far_m b3)) ha hb ka kb
  rw [mt_self m1 m2 m3 m4] at hr
  exact ⟨na, nb, ka, kb, ha, hb, hr⟩
theorem rt_139 (h : rt_is M R n g K tp ds dc G) : ∃ fs : List Value, M.1 139 = some (.inr (2, fs)) := by
  obtain ⟨r128, rH, rD, r138, rG, rM⟩ := id h
  obtain ⟨l, b, a, p, m1, -⟩ := rM
  exact ⟨_, m1⟩
abbrev rt_vq (M : sg_M) (R : rt_R) (n : Nat) (g : Int64) (K : Nat → hs_K) (tp ds dc : Nat → Int32) (G : mg_C) (P : Int32 → Prop) : Option Value ⊕ Nat → sg_M → Nat → Nat → Prop := fun r M1 c s => (∃ v : Int32, r = .inl (some (.int v)) ∧ P v) ∧ (rt_is M1 R n g K tp ds dc G ∧ sg_out [139, 140, 141, 142] M M1) ∧ c = 0 ∧ s = 0
theorem tr_in_cnt {fs : Nat → Int32} {z : Int32} {na i : Nat} (hz : ¬ z < 0 ∧ z < 8) (ha : tr_cnt fs z = nI na) (ka : na ≤ 40) (hi : i < 2 ^ 31) (hp : nI i < tr_size fs z) : i < na := by
  unfold tr_cnt at ha
  unfold tr_size at hp
  rw [if_neg hz.1, if_pos hz.2] at ha hp
  by_cases c : fs z.toNatClampNeg < 0
  · exact absurd (Int32.lt_trans hp c) (nI_pos hi)
  · rw [if_neg c] at ha
    rw [ha] at hp
    exact (nI_ltI hi (by omega)).mp hp
theorem rt_addedSelf (h : rt_is M R n g K tp ds dc G) (hk : kc_ok n g K) {x z : Int32} (hx : hs_th n g x) (hz : ¬ z < 0 ∧ z < 8) : wpm Ls xs 94 [.ref 128, .int x, .int x, .int z] M (rt_vq M R n g K tp ds dc G (fun v => v = 0)) := by
  obtain ⟨r128, rH, rD, r138, rG, rM⟩ := id h
  obtain ⟨fs139, r139⟩ := rt_139 h
  obtain ⟨na, nb, ka, kb, ha, hb, hr⟩ := rt_run (Ls := Ls) (xs := xs) h hk x x z
  have e : nb = na := (nI_eq (by omega) (by omega)).mp (hb.symm.trans ha)
  subst e
  refine sg_wr 3 rfl ?_
  refine sg_n_callV rfl rfl rfl r128 rfl (Nat.le_of_ble_eq_true rfl) (Nat.le_of_ble_eq_true rfl) (rt_needBoth h x x) (fun _ => ?_) (fun hp => absurd ⟨hx, hx⟩ hp)
  refine sg_wr 1 rfl ?_
  refine sg_n_callS rfl rfl rfl rfl (Nat.le_of_ble_eq_true rfl) (Nat.le_of_ble_eq_true rfl) (rt_needFile z) (fun _ => ?_) (fun hp => absurd hz hp)
  refine sg_wr 1 rfl ?_
  refine sg_r_getf rfl r128 rfl ?_
  refine sg_wr 2 rfl ?_
  refine sg_p_callV rfl rfl rfl r128 rfl (Nat.le_of_ble_eq_true rfl) (Nat.le_of_ble_eq_true rfl) (rt_treeOf h x) ?_
  refine sg_wr 2 rfl ?_
  refine sg_p_callV rfl rfl rfl r128 rfl (Nat.le_of_ble_eq_true rfl) (Nat.le_of_ble_eq_true rfl) (rt_treeOf h x) ?_
  refine sg_wr 1 rfl ?_
  refine sg_r_callV rfl rfl rfl r139 rfl (Nat.le_of_ble_eq_true rfl) (Nat.le_of_ble_eq_true rfl) hr ?_
  rintro _ _ _ _ ⟨rfl, ⟨gl, gb, ga, rfl, hc⟩, rfl, rfl⟩
  refine sg_a0 ?_
  have h1 := h.m gl gb ga (mt_rn (fun i => tr_line (hs_fs (hs_D n K x)) (hs_fc (hs_D n K x)) z (nI i)) (fun i => tr_line (hs_fs (hs_D n K x)) (hs_fc (hs_D n K x)) z (nI i)) nb nb).2.2
  refine sg_wr 2 rfl ?_
  refine sg_p_callV rfl rfl rfl h1.1 rfl (Nat.le_of_ble_eq_true rfl) (Nat.le_of_ble_eq_true rfl) (rt_treeOf h1 x) ?_
  refine sg_wr 1 rfl ?_
  refine sg_p_callV rfl rfl rfl (hs_get h1.2.1 x).2.1 rfl (Nat.le_of_ble_eq_true rfl) (Nat.le_of_ble_eq_true rfl) (tr_countOf (hs_get h1.2.1 x).2 z) ?_
  refine sg_wr 1 rfl ?_
  refine sg_r_getf rfl h1.1 rfl ?_
  refine sg_r_getf rfl (mt_gm rt_md) rfl ?_
  refine sg_wr 1 rfl ?_
  exact sg_we rfl rfl ⟨⟨_, rfl, by rw [ha, (mt_rn_self _ _).2]; exact Int32.sub_self _⟩, ⟨h1, mt_out⟩, rfl, rfl⟩
theorem rt_needLine (h : rt_is M R n g K tp ds dc G) {x z p : Int32} (hx : hs_th n g x) (hz : ¬ z < 0 ∧ z < 8) (hp : ¬ p < 0 ∧ p < tr_size (hs_fs (hs_D n K x)) z) : wpm Ls xs 115 [.ref 128, .int x, .int z, .int p] M (sg_eq none M) := by
  obtain ⟨r128, rH, rD, r138, rG, rM⟩ := id h
  refine sg_wr 2 rfl ?_
  refine sg_n_callV rfl rfl rfl r128 rfl (Nat.le_of_ble_eq_true rfl) (Nat.le_of_ble_eq_true rfl) (rt_needThere h x) (fun _ => ?_) (fun hp => absurd hx hp)
  refine sg_wr 1 rfl ?_
  refine sg_n_callS rfl rfl rfl rfl (Nat.le_of_ble_eq_true rfl) (Nat.le_of_ble_eq_true rfl) (rt_needFile z) (fun _ => ?_) (fun hp => absurd hz hp)
  refine sg_wr 3 rfl ?_
  refine sg_p_callV rfl rfl rfl r128 rfl (Nat.le_of_ble_eq_true rfl) (Nat.le_of_ble_eq_true rfl) (rt_treeOf h x) ?_
  refine sg_wr 1 rfl ?_
  refine sg_p_callV rfl rfl rfl (hs_get rH x).2.1 rfl (Nat.le_of_ble_eq_true rfl) (Nat.le_of_ble_eq_true rfl) (tr_sizeOf (hs_get rH x).2 z) ?_
  refine sg_n_callS rfl rfl rfl rfl (Nat.le_of_ble_eq_true rfl) (Nat.le_of_ble_eq_true rfl) (rt_needPlace p _) (fun _ => ?_) (fun hq => absurd hp hq)
  exact sg_we rfl rfl ⟨rfl, rfl, rfl, rfl⟩
theorem rt_pairSelf (h : rt_is M R n g K tp ds dc G) (hk : kc_ok n g K) {x z p : Int32} (hx : hs_th n g x) (hz : ¬ z < 0 ∧ z < 8) (hp : ¬ p < 0 ∧ p < tr_size (hs_fs (hs_D n K x)) z) : wpm Ls xs 95 [.ref 128, .int x, .int x, .int z, .int p] M (rt_vq M R n g K tp ds dc G (fun v => v = p)) := by
  obtain ⟨r128, rH, rD, r138, rG, rM⟩ := id h
  obtain ⟨fs139, r139⟩ := rt_139 h
  obtain ⟨na, nb, ka, kb, ha, hb, hr⟩ := rt_run (Ls := Ls) (xs := xs) h hk x x z
  have e : nb = na := (nI_eq (by omega) (by omega)).mp (hb.symm.trans ha)
  subst e
  obtain ⟨i, hi, rfl⟩ := nI_of hp.1
  have hin := tr_in_cnt hz ha ka hi hp.2
  refine sg_wr 3 rfl ?_
  refine sg_n_callV rfl rfl rfl r128 rfl (Nat.le_of_ble_eq_true rfl) (Nat.le_of_ble_eq_true rfl) (rt_needBoth h x x) (fun _ => ?_) (fun hp => absurd ⟨hx, hx⟩ hp)
  refine sg_wr 4 rfl ?_
  refine sg_p_callV rfl rfl rfl r128 rfl (Nat.le_of_ble_eq_true rfl) (Nat.le_of_ble_eq_true rfl) (rt_needLine h hx hz hp) ?_
  refine sg_wr 1 rfl ?_
  refine sg_r_getf rfl r128 rfl ?_
  refine sg_wr 2 rfl ?_
  refine sg_p_callV rfl rfl rfl r128 rfl (Nat.le_of_ble_eq_true rfl) (Nat.le_of_ble_eq_true rfl) (rt_treeOf h x) ?_
  refine sg_wr 2 rfl ?_
  refine sg_p_callV rfl rfl rfl r128 rfl (Nat.le_of_ble_eq_true rfl) (Nat.le_of_ble_eq_true rfl) (rt_treeOf h x) ?_
  refine sg_wr 1 rfl ?_
  refine sg_r_callV rfl rfl rfl r139 rfl (Nat.le_of_ble_eq_true rfl) (Nat.le_of_ble_eq_true rfl) hr ?_
  rintro _ _ _ _ ⟨rfl, ⟨gl, gb, ga, rfl, hc⟩, rfl, rfl⟩
  refine sg_a0 ?_
  have h1 := h.m gl gb ga (mt_rn (fun i => tr_line (hs_fs (hs_D n K x)) (hs_fc (hs_D n K x)) z (nI i)) (fun i => tr_line (hs_fs (hs_D n K x)) (hs_fc (hs_D n K x)) z (nI i)) nb nb).2.2
  refine sg_wr 1 rfl ?_
  refine sg_r_getf rfl h1.1 rfl ?_
  refine sg_wr 1 rfl ?_
  refine sg_p_callV rfl rfl rfl (mt_gm rt_md) rfl (Nat.le_of_ble_eq_true rfl) (Nat.le_of_ble_eq_true rfl) (mt_placeB (mt_gm rt_md) (mt_gb rt_md) (by decide) (nI i)) ?_
  exact sg_we rfl rfl ⟨⟨_, rfl, by rw [mt_get_n (by omega), (hc i (by omega)).1]; exact (mt_rn_self _ _).1 i hin⟩, ⟨h1, mt_out⟩, rfl, rfl⟩
theorem rt_placeBefore (h : rt_is M R n g K tp ds dc G) (hk : kc_ok n g K) (x y z p : Int32) : wpm Ls xs 131 [.ref 128, .int x, .ref (hs_q (hs_D n K y)), .int z, .int p] M (rt_vq M R n g K tp ds dc G (fun v => v = -1 ∨ ∃ na i : Nat, i < na ∧ na ≤ 40 ∧ tr_cnt (hs_fs (hs_D n K x)) z = nI na ∧ v = nI i)) := by
  obtain ⟨r128, rH, rD, r138, rG, rM⟩ := id h
  obtain ⟨fs139, r139⟩ := rt_139 h
  obtain ⟨na, nb, ka, kb, ha, hb, hr⟩ := rt_run (Ls := Ls) (xs := xs) h hk x y z
  have hrg := mt_rn_rg (fun i => tr_line (hs_fs (hs_D n K x)) (hs_fc (hs_D n K x)) z (nI i)) (fun i => tr_line (hs_fs (hs_D n K y)) (hs_fc (hs_D n K y)) z (nI i)) na nb
  refine sg_wr 1 rfl ?_
  refine sg_r_getf rfl r128 rfl ?_
  refine sg_wr 2 rfl ?_
  refine sg_p_callV rfl rfl rfl r128 rfl (Nat.le_of_ble_eq_true rfl) (Nat.le_of_ble_eq_true rfl) (rt_treeOf h x) ?_
  refine sg_wr 1 rfl ?_
  refine sg_r_getf rfl (hs_get rH y).1 rfl ?_
  refine sg_wr 1 rfl ?_
  refine sg_r_callV rfl rfl rfl r139 rfl (Nat.le_of_ble_eq_true rfl) (Nat.le_of_ble_eq_true rfl) hr ?_
  rintro _ _ _ _ ⟨rfl, ⟨gl, gb, ga, rfl, hc⟩, rfl, rfl⟩
  refine sg_a0 ?_
  have h1 := h.m gl gb ga (mt_rn (fun i => tr_line (hs_fs (hs_D n K x)) (hs_fc (hs_D n K x)) z (nI i)) (fun i => tr_line (hs_fs (hs_D n K y)) (hs_fc (hs_D n K y)) z (nI i)) na nb).2.2
  refine sg_wr 1 rfl ?_
  refine sg_r_getf rfl h1.1 rfl ?_
  refine sg_wr 1 rfl ?_
  refine sg_p_callV rfl rfl rfl (mt_gm rt_md) rfl (Nat.le_of_ble_eq_true rfl) (Nat.le_of_ble_eq_true rfl) (mt_placeA (mt_gm rt_md) mt_ga (by decide) p) ?_
  exact sg_we rfl rfl ⟨⟨_, rfl, by
    unfold mt_get
    split
    · exact Or.inl rfl
    · rename_i c1
      split
      · rename_i c2
        obtain ⟨i, hi, rfl⟩ := nI_of c1
        rw [nI_clamp hi, (hc i ((nI_ltI (b := 40) hi (by decide)).mp c2)).2]
        rcases hrg i with q | ⟨q, q1, q2⟩
        · exact Or.inl q
        · exact Or.inr ⟨na, q, q1, ka, ha, q2⟩
      · exact Or.inl rfl⟩, ⟨h1, mt_out⟩, rfl, rfl⟩
end
end SGAK
