section SGHI
/-! commits and their history -/
/-- a commit: the numbers of itself, its tree and that one's rows; word, first, second, depth, ancestors; sizes and lines -/
abbrev hs_K : Type := (Nat × Nat × Nat × Nat) × (Int32 × Int32 × Int32 × Int32 × Int64) × (Nat → Int32) × (Nat → Int32)
abbrev hs_q (k : hs_K) : Nat := k.1.1
abbrev hs_t (k : hs_K) : Nat := k.1.2.1
abbrev hs_s (k : hs_K) : Nat := k.1.2.2.1
abbrev hs_c (k : hs_K) : Nat := k.1.2.2.2
abbrev hs_w (k : hs_K) : Int32 := k.2.1.1
abbrev hs_f (k : hs_K) : Int32 := k.2.1.2.1
abbrev hs_e (k : hs_K) : Int32 := k.2.1.2.2.1
abbrev hs_d (k : hs_K) : Int32 := k.2.1.2.2.2.1
abbrev hs_a (k : hs_K) : Int64 := k.2.1.2.2.2.2
abbrev hs_fs (k : hs_K) : Nat → Int32 := k.2.2.1
abbrev hs_fc (k : hs_K) : Nat → Int32 := k.2.2.2
/-- it stands in the memory -/
def cm_is (M : sg_M) (k : hs_K) : Prop := M.1 (hs_q k) = some (.inr (0, [.ref (hs_t k), .int (hs_w k), .int (hs_f k), .int (hs_e k), .int (hs_d k), .long (hs_a k)])) ∧ tr_is M (hs_t k) (hs_s k) (hs_c k) (hs_fs k) (hs_fc k)
/-- the one that stands where there is none -/
def hs_N : hs_K := ((134, 135, 136, 137), (-1, -1, -1, 0, 0), tr_cl (fun _ => 0), fun _ => 0)
def hs_D (n : Nat) (K : Nat → hs_K) (x : Int32) : hs_K := if x < 0 then hs_N else if nI n ≤ x then hs_N else K x.toNatClampNeg
/-- the history's cells: n commits, those gone, their data -/
def hs_is (M : sg_M) (n : Nat) (g : Int64) (K : Nat → hs_K) : Prop :=
  M.1 132 = some (.inr (1, [.ref 133, .ref 134, .int (nI n), .long g])) ∧ (∃ mk : Nat → Option Nat, M.1 133 = some (.inl (1, 60, .inr (.inr (.inr (.inr mk))))) ∧ ∀ j, j < 60 → mk j = if j < n then some (hs_q (K j)) else none) ∧
  cm_is M hs_N ∧ n ≤ 60 ∧ 161 ≤ M.2 ∧ ∀ i, i < n → cm_is M (K i) ∧ (161 ≤ hs_q (K i) ∧ hs_q (K i) < M.2) ∧ (161 ≤ hs_t (K i) ∧ hs_t (K i) < M.2) ∧ (161 ≤ hs_s (K i) ∧ hs_s (K i) < M.2) ∧ (161 ≤ hs_c (K i) ∧ hs_c (K i) < M.2)
section
variable {Ls : Nat} {xs : Nat → Int32} {M : sg_M} {n : Nat} {g : Int64} {K : Nat → hs_K}
theorem hs_D_K {i : Nat} (hi : i < n) (hn : n ≤ 60) : hs_D n K (nI i) = K i := by
  unfold hs_D
  rw [if_neg (nI_pos (by omega)), if_neg (nI_ge hi (by omega)), nI_clamp (by omega)]
theorem hs_D_m1 : hs_D n K (-1) = hs_N := by
  unfold hs_D
  rw [if_pos (by decide)]
theorem hs_get (h : hs_is M n g K) (x : Int32) : cm_is M (hs_D n K x) := by
  obtain ⟨h1, h2, h3, h4, h5, h6⟩ := h
  unfold hs_D
  split
  · exact h3
  · rename_i c1
    split
    · exact h3
    · rename_i c2
      obtain ⟨j, hj, rfl⟩ := nI_of c1
      rw [nI_clamp hj]
      exact (h6 j (sg_ltn c2 hj)).1
theorem cm_is.out {k : hs_K} {F : List Nat} {M1 : sg_M} (h : cm_is M k) (ho : sg_out F M M1) (h1 : hs_q k ∉ F) (h2 : hs_t k ∉ F) (h3 : hs_s k ∉ F) (h4 : hs_c k ∉ F) : cm_is M1 k := ⟨(ho.1 _ h1).trans h.1, h.2.out ho h2 h3 h4⟩
/-- what is written elsewhere leaves the history as it is -/
theorem hs_is.out {F : List Nat} {M1 : sg_M} (h : hs_is M n g K) (ho : sg_out F M M1) (hF : ∀ q ∈ F, q < 132 ∨ (137 < q ∧ q < 161)) : hs_is M1 n g K := by
  obtain ⟨h1, ⟨mk, h2, h2'⟩, h3, h4, h5, h6⟩ := h
  have hno : ∀ q, 132 ≤ q → q ≤ 137 → q ∉ F := fun q a b z => by rcases hF q z with y | y <;> omega
  have hbig : ∀ q, 161 ≤ q → q ∉ F := fun q a z => by rcases hF q z with y | y <;> omega
  refine ⟨(ho.1 _ (hno _ (by omega) (by omega))).trans h1, ⟨mk, (ho.1 _ (hno _ (by omega) (by omega))).trans h2, h2'⟩, h3.out ho (hno 134 (by decide) (by decide)) (hno 135 (by decide) (by decide)) (hno 136 (by decide) (by decide)) (hno 137 (by decide) (by decide)), h4, by rw [ho.2]; exact h5, fun i hi => ?_⟩
  obtain ⟨k1, k2, k3, k4, k5⟩ := h6 i hi
  rw [ho.2]
  exact ⟨k1.out ho (hbig _ k2.1) (hbig _ k3.1) (hbig _ k4.1) (hbig _ k5.1), k2, k3, k4, k5⟩
theorem hs_at (h : hs_is M n g K) (x : Int32) : wpm Ls xs 19 [.ref 132, .int x] M (sg_eq (some (.ref (hs_q (hs_D n K x)))) M) := by
  obtain ⟨h1, ⟨mk, h2, h2'⟩, h3, h4, h5, h6⟩ := h

  refine sg_wr 1 rfl ?_
  refine sg_wb rfl rfl (fun h1_ => ?_) (fun h1_ => ?_)
  · refine sg_wr 1 rfl ?_
    refine sg_r_getf rfl h1 rfl ?_
    exact sg_we rfl rfl ⟨by unfold hs_D; rw [if_pos h1_]; rfl, rfl, rfl, rfl⟩
  · refine sg_wr 2 rfl ?_
    refine sg_wb rfl rfl (fun h7 => ?_) (fun h7 => ?_)
    · refine sg_wr 1 rfl ?_
      refine sg_r_getf rfl h1 rfl ?_
      refine sg_wr 1 rfl ?_
      obtain ⟨j, hj, rfl⟩ := nI_of h1_
      have hj60 : j < 60 := Nat.not_le.mp fun z => absurd h7 (nI_nlt (b := 60) z hj)
      refine sg_r_aald rfl h2 (sg_in_n hj60 (by decide)) ?_
      rw [nI_clamp hj, h2' j hj60]
      by_cases hjn : j < n
      · rw [if_pos hjn, hs_D_K hjn h4]
        refine sg_wr 4 rfl ?_
        exact sg_we rfl rfl ⟨rfl, rfl, rfl, rfl⟩
      · have e : hs_D n K (nI j) = hs_N := by
          unfold hs_D
          rw [if_neg (nI_pos hj), if_pos (nI_le (by omega) hj)]
        rw [if_neg hjn, e]
        refine sg_wr 4 rfl ?_
        refine sg_r_getf rfl h1 rfl ?_
        refine sg_wr 1 rfl ?_
        exact sg_we rfl rfl ⟨rfl, rfl, rfl, rfl⟩
    · refine sg_wr 1 rfl ?_
      refine sg_r_getf rfl h1 rfl ?_
      exact sg_we rfl rfl ⟨by unfold hs_D; rw [if_neg h1_, if_pos (Int32.le_trans (nI_le (b := 60) h4 (by decide)) (Int32.not_lt.mp h7))]; rfl, rfl, rfl, rfl⟩
/-- there is a commit with this number, and it isn't gone -/
def hs_th (n : Nat) (g : Int64) (x : Int32) : Prop := ¬ x < 0 ∧ ¬ nI n ≤ x ∧ bt g x = false
theorem hs_keeps (h : hs_is M n g K) (x : Int32) : wpm Ls xs 20 [.ref 132, .int x] M (sg_bq (hs_th n g x) M) := by
  obtain ⟨h1_, -⟩ := h
  refine sg_wr 1 rfl ?_
  refine sg_wb rfl rfl (fun h1 => ?_) (fun h1 => ?_)
  · refine sg_wr 1 rfl ?_
    exact sg_we rfl rfl ⟨⟨_, rfl, Or.inr ⟨rfl, fun q => q.1 h1⟩⟩, rfl, rfl, rfl⟩
  · refine sg_wr 2 rfl ?_
    refine sg_r_getf rfl h1_ rfl ?_
    refine sg_wb rfl rfl (fun h9 => ?_) (fun h9 => ?_)
    · refine sg_wr 1 rfl ?_
      exact sg_we rfl rfl ⟨⟨_, rfl, Or.inr ⟨rfl, fun q => q.2.1 h9⟩⟩, rfl, rfl, rfl⟩
    · refine sg_wr 1 rfl ?_
      refine sg_r_getf rfl h1_ rfl ?_
      refine sg_wr 6 rfl ?_
      refine sg_wb rfl rfl (fun h22 => ?_) (fun h22 => ?_)
      · refine sg_wr 1 rfl ?_
        exact sg_we rfl rfl ⟨⟨_, rfl, Or.inr ⟨rfl, fun q => absurd q.2.2 (by rw [bt_t h22]; decide)⟩⟩, rfl, rfl, rfl⟩
      · refine sg_wr 2 rfl ?_
        exact sg_we rfl rfl ⟨⟨_, rfl, Or.inl ⟨rfl, h1, h9, bt_f (Classical.byContradiction h22)⟩⟩, rfl, rfl, rfl⟩
theorem cm_desc {k : hs_K} (h : cm_is M k) (x : Int32) : wpm Ls xs 17 [.ref (hs_q k), .int x] M (sg_bq (¬ x < 0 ∧ x < 60 ∧ bt (hs_a k) x = true) M) := by
  obtain ⟨h1_, -⟩ := h
  refine sg_wr 1 rfl ?_
  refine sg_wb rfl rfl (fun h1 => ?_) (fun h1 => ?_)
  · refine sg_wr 1 rfl ?_
    exact sg_we rfl rfl ⟨⟨_, rfl, Or.inr ⟨rfl, fun q => q.1 h1⟩⟩, rfl, rfl, rfl⟩
  · refine sg_wr 2 rfl ?_
    refine sg_wb rfl rfl (fun h7 => ?_) (fun h7 => ?_)
    · refine sg_wr 1 rfl ?_
      exact sg_we rfl rfl ⟨⟨_, rfl, Or.inr ⟨rfl, fun q => Int32.not_lt.mpr h7 q.2.1⟩⟩, rfl, rfl, rfl⟩
    · refine sg_wr 1 rfl ?_
      refine sg_r_getf rfl h1_ rfl ?_
      refine sg_wr 6 rfl ?_
      refine sg_wb rfl rfl (fun h20 => ?_) (fun h20 => ?_)
      · refine sg_wr 1 rfl ?_
        exact sg_we rfl rfl ⟨⟨_, rfl, Or.inr ⟨rfl, fun q => absurd q.2.2 (by rw [bt_f h20]; decide)⟩⟩, rfl, rfl, rfl⟩
      · refine sg_wr 2 rfl ?_
        exact sg_we rfl rfl ⟨⟨_, rfl, Or.inl ⟨rfl, h1, Int32.not_le.mp h7, bt_t h20⟩⟩, rfl, rfl, rfl⟩
theorem hs_gr_loop (x : Int64) : ∀ i : Nat, i ≤ 60 → gr x 60 = gr x i → wpa Ls xs 123 3 [(0, .long x), (2, .int (nI i - 1))] [] M (sg_eq (some (.int (gr x 60))) M) := by
  intro i
  induction i with
  | zero =>
    intro hi hg
    refine sg_wr 1 rfl ?_
    refine sg_wr 1 rfl ?_
    refine sg_wr 1 rfl ?_
    exact sg_we rfl rfl ⟨by rw [hg]; rfl, rfl, rfl, rfl⟩
  | succ i ih =>
    intro hi hg
    rw [nI_pred]
    refine sg_wr 1 rfl ?_
    refine sg_wb rfl rfl (fun h4 => absurd h4 (nI_pos (by omega))) (fun h4 => ?_)
    refine sg_wr 7 rfl ?_
    refine sg_wb rfl rfl (fun h14 => ?_) (fun h14 => ?_)
    · refine sg_wr 2 rfl ?_
      have h9 := ih (by omega) (by rw [hg, gr, if_neg (by rw [bt_f h14]; decide)])
      have e : nI i + Int32.ofInt (-1) = nI i - 1 := by rw [Int32.sub_eq_add_neg]; rfl
      rw [← e] at h9
      exact h9
    · refine sg_wr 1 rfl ?_
      exact sg_we rfl rfl ⟨by rw [hg, gr, if_pos (bt_t h14)], rfl, rfl, rfl⟩
theorem hs_gr (x : Int64) : wpm Ls xs 123 [.long x] M (sg_eq (some (.int (gr x 60))) M) := by
  refine sg_wr 2 rfl ?_
  exact hs_gr_loop x 60 (by decide) rfl
theorem hs_base (h : hs_is M n g K) (a b : Int32) : wpm Ls xs 22 [.ref 132, .int a, .int b] M (sg_eq (some (.int (gr (hs_a (hs_D n K a) &&& hs_a (hs_D n K b)) 60))) M) := by
  have ga := (hs_get h a).1
  have gb := (hs_get h b).1
  refine sg_wr 2 rfl ?_
  refine sg_p_callV rfl rfl rfl h.1 rfl (Nat.le_of_ble_eq_true rfl) (Nat.le_of_ble_eq_true rfl) (hs_at h a) ?_
  refine sg_r_getf rfl ga rfl ?_
  refine sg_wr 2 rfl ?_
  refine sg_p_callV rfl rfl rfl h.1 rfl (Nat.le_of_ble_eq_true rfl) (Nat.le_of_ble_eq_true rfl) (hs_at h b) ?_
  refine sg_r_getf rfl gb rfl ?_
  refine sg_wr 1 rfl ?_
  refine sg_p_callS rfl rfl rfl rfl (Nat.le_of_ble_eq_true rfl) (Nat.le_of_ble_eq_true rfl) (hs_gr _) ?_
  exact sg_we rfl rfl ⟨rfl, rfl, rfl, rfl⟩
theorem hs_wm_loop (h : hs_is M n g K) (x0 : Int64) : ∀ (m i : Nat) (x : Int64), m = 60 - i → i ≤ 60 → wpa Ls xs 23 5 [(0, .ref 132), (1, .long x0), (3, .long x), (5, .int (nI i))] [] M (fun r M1 c s => (∃ v : Int64, r = .inl (some (.long v))) ∧ M1 = M ∧ c = 0 ∧ s = 0) := by
  intro m
  induction m using Nat.strongRecOn with
  | ind m ih =>
    intro i x hm hi
    refine sg_wr 2 rfl ?_
    refine sg_wb rfl rfl (fun h9 => ?_) (fun h9 => ?_)
    · refine sg_wr 1 rfl ?_
      exact sg_we rfl rfl ⟨⟨_, rfl⟩, rfl, rfl, rfl⟩
    · refine sg_wr 2 rfl ?_
      refine sg_p_callV rfl rfl rfl h.1 rfl (Nat.le_of_ble_eq_true rfl) (Nat.le_of_ble_eq_true rfl) (hs_at h _) ?_
      have hlt : i < 60 := sg_ltn h9 (by omega)
      refine sg_r_getf rfl (hs_get h (nI i)).1 rfl ?_
      refine sg_wr 1 rfl ?_
      refine sg_wb rfl rfl (fun h22 => ?_) (fun h22 => ?_)
      · refine sg_wr 2 rfl ?_
        have h9_ := fun x => ih (60 - (i + 1)) (by omega) (i + 1) x rfl hlt
        rw [nI_succ] at h9_
        exact h9_ _
      · refine sg_wr 10 rfl ?_
        have h9_ := fun x => ih (60 - (i + 1)) (by omega) (i + 1) x rfl hlt
        rw [nI_succ] at h9_
        exact h9_ _
theorem hs_wm (h : hs_is M n g K) (x : Int64) : wpm Ls xs 23 [.ref 132, .long x] M (fun r M1 c s => (∃ v : Int64, r = .inl (some (.long v))) ∧ M1 = M ∧ c = 0 ∧ s = 0) := by
  refine sg_wr 4 rfl ?_
  exact hs_wm_loop h x 60 0 x rfl (by decide)
def hs_lost (n : Nat) (g x : Int64) : Int64 := ((((1 : Int64) <<< ((nI n).toInt64 &&& 63)) - 1) &&& (g ^^^ (-1))) &&& (x ^^^ (-1))
theorem hs_keepOnly (h : hs_is M n g K) (x : Int64) : wpm Ls xs 24 [.ref 132, .long x] M (sg_eq (some (.int (jd_bc (hs_lost n g x)))) (sg_up M.1 132 (.inr (1, [.ref 133, .ref 134, .int (nI n), .long (g ||| hs_lost n g x)])), M.2)) := by
  obtain ⟨h1_, -⟩ := h
  refine sg_wr 2 rfl ?_
  refine sg_r_getf rfl h1_ rfl ?_
  refine sg_wr 4 rfl ?_
  refine sg_r_getf rfl h1_ rfl ?_
  refine sg_wr 10 rfl ?_
  refine sg_r_getf rfl h1_ rfl ?_
  refine sg_wr 2 rfl ?_
  refine sg_r_putf rfl h1_ (Nat.le_of_ble_eq_true rfl) rfl ?_
  refine sg_wr 1 rfl ?_
  refine sg_p_callS rfl rfl rfl rfl (Nat.le_of_ble_eq_true rfl) (Nat.le_of_ble_eq_true rfl) (jd_bit _) ?_
  exact sg_we rfl rfl ⟨rfl, rfl, rfl, rfl⟩
theorem hs_gone {g1 : Int64} (h : hs_is M n g K) : hs_is (sg_up M.1 132 (.inr (1, [.ref 133, .ref 134, .int (nI n), .long g1])), M.2) n g1 K := by
  obtain ⟨h1, ⟨mk, h2, h2'⟩, h3, h4, h5, h6⟩ := h
  have ho : sg_out [132] M (sg_up M.1 132 (.inr (1, [.ref 133, .ref 134, .int (nI n), .long g1])), M.2) := sg_out.rf.up (by simp)
  have hb : ∀ q, 132 < q → q ∉ [132] := fun q hq z => by simp at z; omega
  refine ⟨show sg_up M.1 132 _ 132 = some _ from sg_upself, ⟨mk, (ho.1 _ (hb _ (by decide))).trans h2, h2'⟩, h3.out ho (hb 134 (by decide)) (hb 135 (by decide)) (hb 136 (by decide)) (hb 137 (by decide)), h4, h5, fun i hi => ?_⟩
  obtain ⟨k1, k2, k3, k4, k5⟩ := h6 i hi
  exact ⟨k1.out ho (hb _ (by omega)) (hb _ (by omega)) (hb _ (by omega)) (hb _ (by omega)), k2, k3, k4, k5⟩
end
end SGHI
