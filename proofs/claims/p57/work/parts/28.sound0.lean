section SGSD
section
variable {Ls : Nat} {xs : Nat → Int32} {M : sg_M} {R : rt_R} {n : Nat} {g : Int64} {K : Nat → hs_K} {tp ds dc : Nat → Int32} {G : mg_C}
theorem bt_N {q : Nat} (hq : q < 64) : bt (hs_a hs_N) (nI q) = false := bt_0 hq
theorem rt_or_bit (hn : n ≤ 60) (hb : kb_ok n g tp) {q : Nat} (hq : q < 64) : ∀ i : Nat, i ≤ 8 → (bt (rt_or n K tp i) (nI q) = true ↔ ∃ b : Nat, b < i ∧ ∃ j : Nat, j < n ∧ tp b = nI j ∧ bt (hs_a (K j)) (nI q) = true) := by
  intro i
  induction i with
  | zero =>
    intro _
    constructor
    · intro z
      rw [show rt_or n K tp 0 = 0 from rfl, bt_0 hq] at z
      cases z
    · rintro ⟨b, hb, -⟩
      exact absurd hb (Nat.not_lt_zero b)
  | succ i ih =>
    intro hi
    rw [rt_or, bt_or hq, Bool.or_eq_true, ih (by omega)]
    have key : bt (hs_a (hs_D n K (tp i))) (nI q) = true ↔ ∃ j : Nat, j < n ∧ tp i = nI j ∧ bt (hs_a (K j)) (nI q) = true := by
      have none : ∀ p : Int32, p < 0 → tp i = p → (bt (hs_a (hs_D n K (tp i))) (nI q) = true ↔ ∃ j : Nat, j < n ∧ tp i = nI j ∧ bt (hs_a (K j)) (nI q) = true) := by
        intro p hp e
        have e2 : hs_D n K (tp i) = hs_N := by
          unfold hs_D
          rw [e, if_pos hp]
        rw [e2, bt_N hq]
        constructor
        · intro z; cases z
        · rintro ⟨j, hj, z, -⟩
          exact absurd (z ▸ e ▸ hp) (nI_pos (by omega))
      rcases hb i (by omega) with z | z | ⟨j, hj, z, -⟩
      · exact none (-2) (by decide) z
      · exact none (-1) (by decide) z
      · rw [z, hs_D_K hj hn]
        constructor
        · intro y; exact ⟨j, hj, rfl, y⟩
        · rintro ⟨k, hk, y, y2⟩
          rw [(nI_eq (by omega) (by omega)).mp y]
          exact y2
    rw [key]
    constructor
    · rintro (⟨b, a1, a2⟩ | ⟨j, a1, a2⟩)
      · exact ⟨b, by omega, a2⟩
      · exact ⟨i, Nat.lt_succ_self i, j, a1, a2⟩
    · rintro ⟨b, a1, a2⟩
      by_cases c : b = i
      · subst c; exact Or.inr a2
      · exact Or.inl ⟨b, by omega, a2⟩
theorem rt_or_kr (hn : n ≤ 60) (hb : kb_ok n g tp) : kr_is n K tp (rt_or n K tp 8) := fun q hq => rt_or_bit hn hb hq 8 (Nat.le_refl _)
theorem sd_42 (h : rt_is M R n g K tp ds dc G) (hb : kb_ok n g tp) (hk : kc_ok n g K) (c : Int32) {Q : Option Value ⊕ Nat → sg_M → Nat → Nat → Prop} (hQ : wpa Ls xs 140 88 [(0, .ref 128), (1, .int c), (2, .int (nI 8))] [] M Q) : ∀ (m i : Nat), m = 8 - i → i ≤ 8 → wpa Ls xs 140 42 [(0, .ref 128), (1, .int c), (2, .int (nI i))] [] M Q := by
  obtain ⟨r128, rH, rD, r138, rG, rM⟩ := id h
  have hn := rH.2.2.2.1
  intro m
  induction m with
  | zero =>
    intro i hm hi
    have e : i = 8 := by omega
    subst e
    refine sg_wr 3 rfl ?_
    exact hQ
  | succ m ih =>
    intro i hm hi
    have hlt : i < 8 := by omega
    have k82 : wpa Ls xs 140 82 [(0, .ref 128), (1, .int c), (2, .int (nI i))] [] M Q := by
      refine sg_wr 2 rfl ?_
      have h9 := ih (i + 1) (by omega) hlt
      rw [nI_succ] at h9
      exact h9
    refine sg_wr 2 rfl ?_
    refine sg_wb rfl rfl (fun h45 => absurd h45 (nI_ge (b := 8) hlt (by decide))) (fun _ => ?_)
    refine sg_wr 2 rfl ?_
    refine sg_p_callV rfl rfl rfl r128 rfl (Nat.le_of_ble_eq_true rfl) (Nat.le_of_ble_eq_true rfl) (rt_commitOf h _) ?_
    rw [rt_co_n hlt]
    refine sg_wb rfl rfl (fun _ => k82) (fun h53 => ?_)
    have hx : hs_th n g (tp i) ∧ bt (rt_or n K tp 8) (tp i) = true := by
      rcases hb i hlt with z | z | ⟨j, hj, z, hg⟩
      · exact absurd (z ▸ (by decide : (-2 : Int32) < 0)) h53
      · exact absurd (z ▸ (by decide : (-1 : Int32) < 0)) h53
      · rw [z]
        exact ⟨hs_n_th hj hn hg, (rt_or_kr hn hb j (by omega)).mpr ⟨i, hlt, j, hj, z, (hk.2.2 j hj).2.2.2.1⟩⟩
    refine sg_wr 3 rfl ?_
    refine sg_p_callV rfl rfl rfl r128 rfl (Nat.le_of_ble_eq_true rfl) (Nat.le_of_ble_eq_true rfl) (rt_commitOf h _) ?_
    rw [rt_co_n hlt]
    refine sg_r_callV rfl rfl rfl r128 rfl (Nat.le_of_ble_eq_true rfl) (Nat.le_of_ble_eq_true rfl) (rt_isThere h _) ?_
    rintro _ _ _ _ ⟨⟨v, rfl, hv⟩, rfl, rfl, rfl⟩
    refine sg_a0 ?_
    rcases hv with ⟨rfl, q⟩ | ⟨rfl, q⟩
    · refine sg_wr 4 rfl ?_
      refine sg_p_callV rfl rfl rfl r128 rfl (Nat.le_of_ble_eq_true rfl) (Nat.le_of_ble_eq_true rfl) (rt_commitOf h _) ?_
      rw [rt_co_n hlt]
      refine sg_r_callV rfl rfl rfl r128 rfl (Nat.le_of_ble_eq_true rfl) (Nat.le_of_ble_eq_true rfl) (rt_isReached h hx.1) ?_
      rintro _ _ _ _ ⟨⟨v, rfl, hv⟩, rfl, rfl, rfl⟩
      refine sg_a0 ?_
      rcases hv with ⟨rfl, q⟩ | ⟨rfl, q⟩
      · refine sg_wr 1 rfl ?_
        exact k82
      · exact absurd hx.2 q
    · exact absurd hx.1 q
end
end SGSD
