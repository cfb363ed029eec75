section SGSG0
/-- what a commit's look leaves in the locals behind the third -/
def sd_T (T : sg_L) : Prop := T = [] ∨ (∃ a b : Int32, T = [(3, .int a), (4, .int b)]) ∨ ∃ a b d : Int32, T = [(3, .int a), (4, .int b), (5, .int d)]
theorem sd_T.of {a b : Int32} {T : sg_L} (h : T = [] ∨ ∃ d : Int32, T = [(5, .int d)]) : sd_T ([(3, .int a), (4, .int b)] ++ T) := by
  rcases h with rfl | ⟨d, rfl⟩
  · exact Or.inr (Or.inl ⟨a, b, rfl⟩)
  · exact Or.inr (Or.inr ⟨a, b, d, rfl⟩)
end SGSG0
section SGSG
section
variable {Ls : Nat} {xs : Nat → Int32} {M : sg_M} {R : rt_R} {n : Nat} {g : Int64} {K : Nat → hs_K} {tp ds dc : Nat → Int32} {G : mg_C}
theorem sd_294 (hn : n ≤ 60) (hk : kc_ok n g K) {i : Nat} (hi : i < n) (hg : bt g (nI i) = false) {f : Nat} (hf : f < 3) (c : Int32) {Q : Option Value ⊕ Nat → sg_M → Nat → Nat → Prop} (hQ : ∀ (M1 : sg_M) (b : Int32) (T : sg_L), rt_is M1 R n g K tp ds dc G → sg_out [139, 140, 141, 142] M M1 → (T = [] ∨ ∃ d : Int32, T = [(5, .int d)]) → wpa Ls xs 140 358 ([(0, .ref 128), (1, .int c), (2, .int (nI i)), (3, .int (nI f)), (4, .int b)] ++ T) [] M1 Q) : ∀ (m k : Nat) (M2 : sg_M) (T : sg_L), 40 ≤ k + m → k ≤ 42 → rt_is M2 R n g K tp ds dc G → sg_out [139, 140, 141, 142] M M2 → (T = [] ∨ ∃ d : Int32, T = [(5, .int d)]) → wpa Ls xs 140 294 ([(0, .ref 128), (1, .int c), (2, .int (nI i)), (3, .int (nI f)), (4, .int (nI k))] ++ T) [] M2 Q := by
  have hx : hs_th n g (nI i) := hs_n_th hi hn hg
  have hf8 : ¬ nI f < 0 ∧ nI f < 8 := ⟨nI_pos (by omega), nI_lt (b := 8) (by omega) (by decide)⟩
  have hsz : tr_size (hs_fs (hs_D n K (nI i))) (nI f) ≤ 40 := by
    unfold tr_size
    rw [if_neg hf8.1, if_pos hf8.2, nI_clamp (by omega)]
    exact (kd_ti hk (nI i) f (by omega)).2
  have step : ∀ (k : Nat) (M2 : sg_M) (T : sg_L), k ≤ 42 → rt_is M2 R n g K tp ds dc G → sg_out [139, 140, 141, 142] M M2 → (T = [] ∨ ∃ d : Int32, T = [(5, .int d)]) → (∀ (M4 : sg_M) (w : Int32), k < 40 → rt_is M4 R n g K tp ds dc G → sg_out [139, 140, 141, 142] M M4 → wpa Ls xs 140 294 ([(0, .ref 128), (1, .int c), (2, .int (nI i)), (3, .int (nI f)), (4, .int (nI (k + 3)))] ++ [(5, .int w)]) [] M4 Q) → wpa Ls xs 140 294 ([(0, .ref 128), (1, .int c), (2, .int (nI i)), (3, .int (nI f)), (4, .int (nI k))] ++ T) [] M2 Q := by
    intro k M2 T hk42 h2 o2 hT hN
    have r128 := h2.1
    have main : ∀ T : sg_L, (T = [] ∨ ∃ d : Int32, T = [(5, .int d)]) → (∀ (w : Int32) (M3 : sg_M), hs_th n g w → bt (hs_a (hs_D n K (nI i))) w = true → 1 ≤ tr_size (hs_fs (hs_D n K w)) (nI f) → nI k < tr_size (hs_fs (hs_D n K (nI i))) (nI f) → rt_is M3 R n g K tp ds dc G → sg_out [139, 140, 141, 142] M M3 → wpa Ls xs 140 315 ([(0, .ref 128), (1, .int c), (2, .int (nI i)), (3, .int (nI f)), (4, .int (nI k))] ++ [(5, .int w)]) [] M3 Q) → wpa Ls xs 140 294 ([(0, .ref 128), (1, .int c), (2, .int (nI i)), (3, .int (nI f)), (4, .int (nI k))] ++ T) [] M2 Q := by
      intro T hT h315
      rcases hT with rfl | ⟨d, rfl⟩
      · refine sg_wr 4 rfl ?_
        refine sg_p_callV rfl rfl rfl r128 rfl (Nat.le_of_ble_eq_true rfl) (Nat.le_of_ble_eq_true rfl) (rt_lines h2 hx hf8) ?_
        refine sg_wb rfl rfl (fun _ => ?_) (fun h302 => ?_)
        · exact hQ M2 (nI k) [] h2 o2 (Or.inl rfl)
        · have hp := Int32.not_le.mp h302
          refine sg_wr 4 rfl ?_
          refine sg_r_callV rfl rfl rfl r128 rfl (Nat.le_of_ble_eq_true rfl) (Nat.le_of_ble_eq_true rfl) (rt_blame h2 hk hx hf8 ⟨nI_pos (by omega), hp⟩) ?_
          rintro _ M3 _ _ ⟨⟨w, rfl, w1, w2, w3⟩, ⟨h3, o3⟩, rfl, rfl⟩
          refine sg_a0 ?_
          refine sg_wr 1 rfl ?_
          exact h315 w M3 w1 w2 w3 hp h3 (o2.tr o3 (fun _ z => z))
      · refine sg_wr 4 rfl ?_
        refine sg_p_callV rfl rfl rfl r128 rfl (Nat.le_of_ble_eq_true rfl) (Nat.le_of_ble_eq_true rfl) (rt_lines h2 hx hf8) ?_
        refine sg_wb rfl rfl (fun _ => ?_) (fun h302 => ?_)
        · exact hQ M2 (nI k) [(5, .int d)] h2 o2 (Or.inr ⟨_, rfl⟩)
        · have hp := Int32.not_le.mp h302
          refine sg_wr 4 rfl ?_
          refine sg_r_callV rfl rfl rfl r128 rfl (Nat.le_of_ble_eq_true rfl) (Nat.le_of_ble_eq_true rfl) (rt_blame h2 hk hx hf8 ⟨nI_pos (by omega), hp⟩) ?_
          rintro _ M3 _ _ ⟨⟨w, rfl, w1, w2, w3⟩, ⟨h3, o3⟩, rfl, rfl⟩
          refine sg_a0 ?_
          refine sg_wr 1 rfl ?_
          exact h315 w M3 w1 w2 w3 hp h3 (o2.tr o3 (fun _ z => z))
    refine main T hT (fun w M3 w1 w2 w3 hp h3 o3 => ?_)
    have r128 := h3.1
    have hk40 : k < 40 := (nI_ltI (b := 40) (by omega) (by decide)).mp (Int32.lt_of_lt_of_le hp hsz)
    have hwl : ¬ w < 0 ∧ w < 60 ∧ bt (hs_a (hs_D n K (nI i))) w = true := by
      obtain ⟨j, j1, rfl, -⟩ := hs_th_n w1 hn
      exact ⟨nI_pos (by omega), nI_lt (b := 60) (by omega) (by decide), w2⟩
    refine sg_wr 3 rfl ?_
    refine sg_r_callV rfl rfl rfl r128 rfl (Nat.le_of_ble_eq_true rfl) (Nat.le_of_ble_eq_true rfl) (rt_isAncestor h3 w1 hx) ?_
    rintro _ _ _ _ ⟨⟨v, rfl, hv⟩, rfl, rfl, rfl⟩
    refine sg_a0 ?_
    rcases hv with ⟨rfl, q⟩ | ⟨rfl, q⟩
    rotate_left
    · exact absurd hwl q
    refine sg_wr 4 rfl ?_
    refine sg_p_callV rfl rfl rfl r128 rfl (Nat.le_of_ble_eq_true rfl) (Nat.le_of_ble_eq_true rfl) (rt_lines h3 w1 hf8) ?_
    refine sg_wr 1 rfl ?_
    refine sg_wb rfl rfl (fun z => absurd w3 (Int32.not_le.mpr z)) (fun _ => ?_)
    refine sg_wr 5 rfl ?_
    refine sg_r_callV rfl rfl rfl r128 rfl (Nat.le_of_ble_eq_true rfl) (Nat.le_of_ble_eq_true rfl) (rt_pairSelf h3 hk hx hf8 ⟨nI_pos (by omega), hp⟩) ?_
    rintro _ M4 _ _ ⟨⟨v, rfl, rfl⟩, ⟨h4, o4⟩, rfl, rfl⟩
    refine sg_a0 ?_
    refine sg_wr 1 rfl ?_
    refine sg_wb rfl rfl (fun _ => ?_) (fun z => absurd rfl z)
    refine sg_wr 2 rfl ?_
    have h9 := hN M4 w hk40 h4 (o3.tr o4 (fun _ z => z))
    rw [← nI_add] at h9
    exact h9
  intro m
  induction m with
  | zero =>
    intro k M2 T hm hk42 h2 o2 hT
    exact step k M2 T hk42 h2 o2 hT (fun M4 w z => by omega)
  | succ m ih =>
    intro k M2 T hm hk42 h2 o2 hT
    exact step k M2 T hk42 h2 o2 hT (fun M4 w z h4 o4 => ih (k + 3) M4 [(5, .int w)] (by omega) (by omega) h4 o4 (Or.inr ⟨w, rfl⟩))
theorem sd_263 (hn : n ≤ 60) (hk : kc_ok n g K) {i : Nat} (hi : i < n) (hg : bt g (nI i) = false) (c : Int32) {Q : Option Value ⊕ Nat → sg_M → Nat → Nat → Prop} (hQ : ∀ (M1 : sg_M) (b : Int32) (T : sg_L), rt_is M1 R n g K tp ds dc G → sg_out [139, 140, 141, 142] M M1 → (T = [] ∨ ∃ d : Int32, T = [(5, .int d)]) → wpa Ls xs 140 364 ([(0, .ref 128), (1, .int c), (2, .int (nI i)), (3, .int (nI 3)), (4, .int b)] ++ T) [] M1 Q) : ∀ (m f : Nat) (M2 : sg_M) (b : Int32) (T : sg_L), m = 3 - f → f ≤ 3 → rt_is M2 R n g K tp ds dc G → sg_out [139, 140, 141, 142] M M2 → (T = [] ∨ ∃ d : Int32, T = [(5, .int d)]) → wpa Ls xs 140 263 ([(0, .ref 128), (1, .int c), (2, .int (nI i)), (3, .int (nI f)), (4, .int b)] ++ T) [] M2 Q := by
  have hx : hs_th n g (nI i) := hs_n_th hi hn hg
  intro m
  induction m with
  | zero =>
    intro f M2 b T hm hf h2 o2 hT
    have e : f = 3 := by omega
    subst e
    refine sg_wr 3 rfl ?_
    exact hQ M2 b T h2 o2 hT
  | succ m ih =>
    intro f M2 b T hm hf h2 o2 hT
    have r128 := h2.1
    have hlt : f < 3 := by omega
    have hf8 : ¬ nI f < 0 ∧ nI f < 8 := ⟨nI_pos (by omega), nI_lt (b := 8) (by omega) (by decide)⟩
    have hsz : tr_size (hs_fs (hs_D n K (nI i))) (nI f) ≤ 40 := by
      unfold tr_size
      rw [if_neg hf8.1, if_pos hf8.2, nI_clamp (by omega)]
      exact (kd_ti hk (nI i) f (by omega)).2
    refine sg_wr 2 rfl ?_
    refine sg_wb rfl rfl (fun z => absurd z (nI_ge (b := 3) hlt (by decide))) (fun _ => ?_)
    refine sg_wr 3 rfl ?_
    refine sg_p_callV rfl rfl rfl r128 rfl (Nat.le_of_ble_eq_true rfl) (Nat.le_of_ble_eq_true rfl) (rt_lines h2 hx hf8) ?_
    refine sg_wr 1 rfl ?_
    refine sg_wb rfl rfl (fun z => absurd hsz (Int32.not_le.mpr z)) (fun _ => ?_)
    refine sg_wr 4 rfl ?_
    refine sg_r_callV rfl rfl rfl r128 rfl (Nat.le_of_ble_eq_true rfl) (Nat.le_of_ble_eq_true rfl) (rt_addedSelf h2 hk hx hf8) ?_
    rintro _ M3 _ _ ⟨⟨v, rfl, rfl⟩, ⟨h3, o3⟩, rfl, rfl⟩
    refine sg_a0 ?_
    have k294 : ∀ T : sg_L, (T = [] ∨ ∃ d : Int32, T = [(5, .int d)]) → wpa Ls xs 140 294 ([(0, .ref 128), (1, .int c), (2, .int (nI i)), (3, .int (nI f)), (4, .int (nI 0))] ++ T) [] M3 Q := by
      intro T hT
      refine sd_294 (M := M) hn hk hi hg hlt c (fun M4 b4 T4 h4 o4 hT4 => ?_) 40 0 M3 T (by omega) (by omega) h3 (o2.tr o3 (fun _ z => z)) hT
      have h9 := ih (f + 1) M4 b4 T4 (by omega) hlt h4 o4 hT4
      rw [nI_succ] at h9
      rcases hT4 with rfl | ⟨d4, rfl⟩
      · refine sg_wr 2 rfl ?_
        exact h9
      · refine sg_wr 2 rfl ?_
        exact h9
    rcases hT with rfl | ⟨d, rfl⟩
    · refine sg_wr 3 rfl ?_
      exact k294 [] (Or.inl rfl)
    · refine sg_wr 3 rfl ?_
      exact k294 [(5, .int d)] (Or.inr ⟨d, rfl⟩)
theorem sd_90 (hn : n ≤ 60) (hb : kb_ok n g tp) (hk : kc_ok n g K) {c : Int32} (hc : c < 0 ∨ ∃ hh : Nat, hh < n ∧ c = nI hh ∧ bt g (nI hh) = false ∧ ∃ b : Nat, b < 8 ∧ tp b = nI hh) {Q : Option Value ⊕ Nat → sg_M → Nat → Nat → Prop} (hQ : ∀ (M1 : sg_M) (T : sg_L), rt_is M1 R n g K tp ds dc G → sg_out [139, 140, 141, 142] M M1 → sd_T T → wpa Ls xs 140 370 ([(0, .ref 128), (1, .int c), (2, .int (nI n))] ++ T) [] M1 Q) : ∀ (m i : Nat) (M2 : sg_M) (T : sg_L), m = n - i → i ≤ n → rt_is M2 R n g K tp ds dc G → sg_out [139, 140, 141, 142] M M2 → sd_T T → wpa Ls xs 140 90 ([(0, .ref 128), (1, .int c), (2, .int (nI i))] ++ T) [] M2 Q := by
  intro m
  induction m with
  | zero =>
    intro i M2 T hm hi h2 o2 hT
    have e : i = n := by omega
    subst e
    have r128 := h2.1
    refine sg_wr 2 rfl ?_
    refine sg_p_callV rfl rfl rfl r128 rfl (Nat.le_of_ble_eq_true rfl) (Nat.le_of_ble_eq_true rfl) (rt_commits h2) ?_
    refine sg_wb rfl rfl (fun _ => ?_) (fun z => absurd Int32.le_rfl z)
    exact hQ M2 T h2 o2 hT
  | succ m ih =>
    intro i M2 T hm hi h2 o2 hT
    have r128 := h2.1
    have hlt : i < n := by omega
    refine sg_wr 2 rfl ?_
    refine sg_p_callV rfl rfl rfl r128 rfl (Nat.le_of_ble_eq_true rfl) (Nat.le_of_ble_eq_true rfl) (rt_commits h2) ?_
    refine sg_wb rfl rfl (fun z => absurd z (nI_ge hlt (by omega))) (fun _ => ?_)
    refine sg_wr 2 rfl ?_
    refine sg_r_callV rfl rfl rfl r128 rfl (Nat.le_of_ble_eq_true rfl) (Nat.le_of_ble_eq_true rfl) (rt_isThere h2 (nI i)) ?_
    rintro _ M2 _ _ ⟨⟨v, rfl, hv⟩, rfl, rfl, rfl⟩
    refine sg_a0 ?_
    rcases hv with ⟨rfl, q⟩ | ⟨rfl, q⟩
    rotate_left
    · have h9 := ih (i + 1) M2 T (by omega) hlt h2 o2 hT
      rw [nI_succ] at h9
      rcases hT with rfl | ⟨a, b, rfl⟩ | ⟨a, b, d, rfl⟩
      · refine sg_wr 4 rfl ?_
        exact h9
      · refine sg_wr 4 rfl ?_
        exact h9
      · refine sg_wr 4 rfl ?_
        exact h9
    have hg : bt g (nI i) = false := q.2.2
    have k261 : ∀ (a : Int32) (T : sg_L), (T = [] ∨ ∃ d : Int32, T = [(5, .int d)]) → wpa Ls xs 140 111 ([(0, .ref 128), (1, .int c), (2, .int (nI i)), (3, .int 2), (4, .int a)] ++ T) [] M2 Q := by
      intro a T hT
      refine sg_wr 3 rfl ?_
      refine sd_191 h2 hb hk hlt hg hc ([(3, .int 2), (4, .int a)] ++ T) ?_
      have k263 : wpa Ls xs 140 263 ([(0, .ref 128), (1, .int c), (2, .int (nI i)), (3, .int (nI 0)), (4, .int a)] ++ T) [] M2 Q := by
        refine sd_263 (M := M) hn hk hlt hg c (fun M4 b4 T4 h4 o4 hT4 => ?_) 3 0 M2 a T rfl (by decide) h2 o2 hT
        have h9 := ih (i + 1) M4 ([(3, .int (nI 3)), (4, .int b4)] ++ T4) (by omega) hlt h4 o4 (sd_T.of hT4)
        rw [nI_succ] at h9
        rcases hT4 with rfl | ⟨d4, rfl⟩
        · refine sg_wr 2 rfl ?_
          exact h9
        · refine sg_wr 2 rfl ?_
          exact h9
      rcases hT with rfl | ⟨d, rfl⟩
      · refine sg_wr 2 rfl ?_
        exact k263
      · refine sg_wr 2 rfl ?_
        exact k263
    rcases hT with rfl | ⟨a, b, rfl⟩ | ⟨a, b, d, rfl⟩
    · refine sg_wr 3 rfl ?_
      refine sd_p00 h2 hk hlt hg c ?_
      refine sd_p11 h2 hk hlt hg c _ ?_
      exact k261 _ [] (Or.inl rfl)
    · refine sg_wr 3 rfl ?_
      refine sd_p01 h2 hk hlt hg c _ ?_
      refine sd_p11 h2 hk hlt hg c _ ?_
      exact k261 _ [] (Or.inl rfl)
    · refine sg_wr 3 rfl ?_
      refine sd_p02 h2 hk hlt hg c _ _ ?_
      refine sd_p12 h2 hk hlt hg c _ _ ?_
      exact k261 _ [(5, .int d)] (Or.inr ⟨_, rfl⟩)
end
end SGSG
