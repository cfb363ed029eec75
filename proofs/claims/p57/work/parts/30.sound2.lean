section SGSF
section
variable {Ls : Nat} {xs : Nat → Int32} {M : sg_M} {R : rt_R} {n : Nat} {g : Int64} {K : Nat → hs_K} {tp ds dc : Nat → Int32} {G : mg_C}
set_option maxHeartbeats 1000000 in
theorem sd_191 (h : rt_is M R n g K tp ds dc G) (hb : kb_ok n g tp) (hk : kc_ok n g K) {i : Nat} (hi : i < n) (hg : bt g (nI i) = false) {c : Int32} (hc : c < 0 ∨ ∃ hh : Nat, hh < n ∧ c = nI hh ∧ bt g (nI hh) = false ∧ ∃ b : Nat, b < 8 ∧ tp b = nI hh) (T : sg_L) {Q : Option Value ⊕ Nat → sg_M → Nat → Nat → Prop} (hQ : wpa Ls xs 140 261 ((0, .ref 128) :: (1, .int c) :: (2, .int (nI i)) :: T) [] M Q) : wpa Ls xs 140 191 ((0, .ref 128) :: (1, .int c) :: (2, .int (nI i)) :: T) [] M Q := by
  obtain ⟨r128, rH, rD, r138, rG, rM⟩ := id h
  have hn := rH.2.2.2.1
  have hx : hs_th n g (nI i) := hs_n_th hi hn hg
  have hD := hs_D_K (K := K) hi hn
  have hself := (hk.2.2 i hi).2.2.2.1
  refine sg_wr 3 rfl ?_
  refine sg_r_callV rfl rfl rfl r128 rfl (Nat.le_of_ble_eq_true rfl) (Nat.le_of_ble_eq_true rfl) (rt_isAncestor h hx hx) ?_
  rintro _ _ _ _ ⟨⟨v, rfl, hv⟩, rfl, rfl, rfl⟩
  refine sg_a0 ?_
  rcases hv with ⟨rfl, q⟩ | ⟨rfl, q⟩
  rotate_left
  · exact absurd ⟨nI_pos (by omega), nI_lt (b := 60) (by omega) (by decide), by rw [hD]; exact hself⟩ q
  refine sg_wr 4 rfl ?_
  refine sg_p_callV rfl rfl rfl r128 rfl (Nat.le_of_ble_eq_true rfl) (Nat.le_of_ble_eq_true rfl) (rt_base h hx hx) ?_
  rw [hD, kg_base hk hn hi hi hself]
  refine sg_wr 1 rfl ?_
  refine sg_wb rfl rfl (fun z => absurd rfl z) (fun _ => ?_)
  refine sg_wr 3 rfl ?_
  refine sg_p_callV rfl rfl rfl r128 rfl (Nat.le_of_ble_eq_true rfl) (Nat.le_of_ble_eq_true rfl) (rt_ahead h hx hx) ?_
  rw [bt_self, jd_bc0]
  refine sg_wr 4 rfl ?_
  refine sg_r_callV rfl rfl rfl r128 rfl (Nat.le_of_ble_eq_true rfl) (Nat.le_of_ble_eq_true rfl) (rt_touched h hx hx) ?_
  rintro _ _ _ _ ⟨⟨v, rfl, -, hv⟩, rfl, rfl, rfl⟩
  refine sg_a0 ?_
  have hv0 := hv.mpr tr_eq_rf
  subst hv0
  refine sg_wr 2 rfl ?_
  refine sg_wb rfl rfl (fun _ => hQ) (fun h229 => ?_)
  rcases hc with z | ⟨hh, h1, rfl, h2, b, b1, b2⟩
  · exact absurd z h229
  have hy : hs_th n g (nI hh) := hs_n_th h1 hn h2
  have hE := hs_D_K (K := K) h1 hn
  refine sg_wr 3 rfl ?_
  refine sg_r_callV rfl rfl rfl r128 rfl (Nat.le_of_ble_eq_true rfl) (Nat.le_of_ble_eq_true rfl) (rt_isAncestor h hx hy) ?_
  rintro _ _ _ _ ⟨⟨v, rfl, hv⟩, rfl, rfl, rfl⟩
  refine sg_a0 ?_
  rcases hv with ⟨rfl, q⟩ | ⟨rfl, q⟩
  rotate_left
  · refine sg_wr 1 rfl ?_
    exact hQ
  have hanc := q.2.2
  rw [hE] at hanc
  have hre := (rt_or_kr hn hb i (by omega)).mpr ⟨b, b1, hh, h1, b2, hanc⟩
  refine sg_wr 3 rfl ?_
  refine sg_r_callV rfl rfl rfl r128 rfl (Nat.le_of_ble_eq_true rfl) (Nat.le_of_ble_eq_true rfl) (rt_isReached h hx) ?_
  rintro _ _ _ _ ⟨⟨v, rfl, hv⟩, rfl, rfl, rfl⟩
  refine sg_a0 ?_
  rcases hv with ⟨rfl, q2⟩ | ⟨rfl, q2⟩
  rotate_left
  · exact absurd hre q2
  refine sg_wr 4 rfl ?_
  refine sg_p_callV rfl rfl rfl r128 rfl (Nat.le_of_ble_eq_true rfl) (Nat.le_of_ble_eq_true rfl) (rt_base h hx hy) ?_
  rw [hD, hE, kg_base hk hn hi h1 hanc]
  refine sg_wr 1 rfl ?_
  refine sg_wb rfl rfl (fun _ => hQ) (fun z => absurd rfl z)
end
end SGSF
