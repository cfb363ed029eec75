section SGT
/-! what of the JDK is called, and Tree -/
abbrev wpm (Ls : Nat) (xs : Nat → Int32) (j : Nat) (av : List Value) (M : sg_M) (Q : Option Value ⊕ Nat → sg_M → Nat → Nat → Prop) : Prop := sg_wp (sg_tab Ls xs) sg_hd j 0 (lv_args 0 av) [] M Q
abbrev wpa (Ls : Nat) (xs : Nat → Int32) (j pc : Nat) (L : sg_L) (st : List Value) (M : sg_M) (Q : Option Value ⊕ Nat → sg_M → Nat → Nat → Prop) : Prop := sg_wp (sg_tab Ls xs) sg_hd j pc L st M Q
/-- some int, nothing changed -/
abbrev sg_ai (M : sg_M) : Option Value ⊕ Nat → sg_M → Nat → Nat → Prop := fun r M1 c s => (∃ v : Int32, r = .inl (some (.int v))) ∧ M1 = M ∧ c = 0 ∧ s = 0
/-- 1 or 0, as P is so or not, nothing changed -/
abbrev sg_bq (P : Prop) (M : sg_M) : Option Value ⊕ Nat → sg_M → Nat → Nat → Prop := fun r M1 c s => (∃ v : Int32, r = .inl (some (.int v)) ∧ ((v = 1 ∧ P) ∨ (v = 0 ∧ ¬ P))) ∧ M1 = M ∧ c = 0 ∧ s = 0
theorem sg_ltn {i n : Nat} (h : ¬ nI n ≤ nI i) (hi : i < 2 ^ 31) : i < n := Nat.not_le.mp fun z => h (nI_le z hi)
theorem sg_gen {i n : Nat} (h : nI n ≤ nI i) (hn : n < 2 ^ 31) (hi : i < 2 ^ 31) : n ≤ i := (nI_leI hn hi).mp h
section
variable {Ls : Nat} {xs : Nat → Int32} {M : sg_M}
def jd_us (x : Int64) (y : Int32) : Int64 := (x.toUInt64 >>> (y.toInt64.toUInt64 &&& Int64.toUInt64 63)).toInt64
def jd_b1 (x : Int64) : Int64 := x - (jd_us x 1 &&& 6148914691236517205)
def jd_b2 (x : Int64) : Int64 := (x &&& 3689348814741910323) + (jd_us x 2 &&& 3689348814741910323)
def jd_b3 (x : Int64) : Int64 := (x + jd_us x 4) &&& 1085102592571150095
def jd_b4 (x : Int64) (y : Int32) : Int64 := x + jd_us x y
/-- how many bits, as the JDK counts them -/
def jd_bc (x : Int64) : Int32 := (jd_b4 (jd_b4 (jd_b4 (jd_b3 (jd_b2 (jd_b1 x))) 8) 16) 32).toInt32 &&& 127
theorem jd_bc0 : jd_bc 0 = 0 := by decide +kernel
theorem jd_bit (x : Int64) : wpm Ls xs 142 [.long x] M (sg_eq (some (.int (jd_bc x))) M) := by
  refine sg_wr 8 rfl ?_
  refine sg_wr 10 rfl ?_
  refine sg_wr 8 rfl ?_
  refine sg_wr 6 rfl ?_
  refine sg_wr 6 rfl ?_
  refine sg_wr 6 rfl ?_
  refine sg_wr 4 rfl ?_
  exact sg_we rfl rfl ⟨rfl, rfl, rfl, rfl⟩
/-- what fill leaves -/
def sg_fl (n : Nat) (v : Int32) (f : Nat → Int32) : Nat → Int32 := fun j => if j < n then v else f j
theorem sg_fl_s {i : Nat} {v : Int32} {f : Nat → Int32} : upd (sg_fl i v f) i v = sg_fl (i + 1) v f := by
  funext j
  show (if j = i then v else if j < i then v else f j) = if j < i + 1 then v else f j
  by_cases h1 : j = i
  · rw [if_pos h1, if_pos (by omega)]
  · by_cases h2 : j < i
    · rw [if_neg h1, if_pos h2, if_pos (by omega)]
    · rw [if_neg h1, if_neg h2, if_neg (by omega)]
theorem jd_fill_loop {a n : Nat} {v : Int32} (ha : a ≠ 0) (hn : n < 2 ^ 31) (f : Nat → Int32) (M0 : Nat → Option sg_E) (nx : Nat) : ∀ (m i : Nat), m = n - i → i ≤ n → wpa Ls xs 141 5 [(0, .ref a), (1, .int v), (2, .int (nI i)), (3, .int (nI n))] [] (sg_up M0 a (.inl (0, n, .inl (sg_fl i v f))), nx) (sg_eq none (sg_up M0 a (.inl (0, n, .inl (sg_fl n v f))), nx)) := by
  intro m
  induction m using Nat.strongRecOn with
  | ind m ih =>
    intro i hm hi
    refine sg_wr 2 rfl ?_
    refine sg_wb rfl rfl (fun h7 => ?_) (fun h7 => ?_)
    · exact sg_we rfl rfl ⟨rfl, by rw [Nat.le_antisymm hi (sg_gen h7 hn (by omega))], rfl, rfl⟩
    · refine sg_wr 3 rfl ?_
      have hlt := sg_ltn h7 (by omega)
      refine sg_r_iast rfl sg_upself (sg_in_n hlt hn) ?_
      rw [sg_upup, nI_clamp (by omega), sg_fl_s]
      refine sg_wr 2 rfl ?_
      have h9 := ih (n - (i + 1)) (by omega) (i + 1) rfl hlt
      rw [nI_succ] at h9
      exact h9
theorem jd_fill {a n : Nat} {v : Int32} {f : Nat → Int32} (ha : a ≠ 0) (hn : n < 2 ^ 31) (hM : M.1 a = some (.inl (0, n, .inl f))) : wpm Ls xs 141 [.ref a, .int v] M (sg_eq none (sg_up M.1 a (.inl (0, n, .inl (sg_fl n v f))), M.2)) := by
  refine sg_wr 3 rfl ?_
  refine sg_r_alen rfl (by assumption) (by assumption) ?_
  refine sg_wr 1 rfl ?_
  have h := jd_fill_loop (Ls := Ls) (xs := xs) (v := v) ha hn f M.1 M.2 n 0 (by omega) (Nat.zero_le _)
  have e : sg_fl 0 v f = f := funext fun j => if_neg (Nat.not_lt_zero j)
  rw [e, sg_upsame hM] at h
  exact h
/-- a tree's three cells -/
def tr_is (M : sg_M) (t s c : Nat) (fs fc : Nat → Int32) : Prop := M.1 t = some (.inr (4, [.ref s, .ref c])) ∧ M.1 s = some (.inl (0, 8, .inl fs)) ∧ M.1 c = some (.inl (0, 320, .inl fc)) ∧ s ≠ 0 ∧ c ≠ 0
theorem tr_ne {s c : Nat} {fs fc : Nat → Int32} (h1 : M.1 s = some (.inl (0, 8, .inl fs))) (h2 : M.1 c = some (.inl (0, 320, .inl fc))) : s ≠ c := fun z => by
  subst z
  have h3 := Option.some.inj (h1.symm.trans h2)
  injection h3 with h4
  exact absurd (congrArg (fun z => z.2.1) h4) (by show ¬ (8 : Nat) = 320; decide)
theorem tr_ne2 {t s n ci : Nat} {vs : List Value} {f : Nat → Int32} (h1 : M.1 t = some (.inr (ci, vs))) (h2 : M.1 s = some (.inl (0, n, .inl f))) : t ≠ s := fun z => by
  subst z
  have h3 := Option.some.inj (h1.symm.trans h2)
  cases h3
def tr_size (fs : Nat → Int32) (x : Int32) : Int32 := if x < 0 then -1 else if x < 8 then fs x.toNatClampNeg else -1
def tr_line (fs fc : Nat → Int32) (x p : Int32) : Int32 := if x < 0 then -1 else if 8 ≤ x then -1 else if p < 0 then -1 else if 40 ≤ p then -1 else if p < fs x.toNatClampNeg then fc (x * 40 + p).toNatClampNeg else -1
def tr_cnt (fs : Nat → Int32) (x : Int32) : Int32 := if x < 0 then 0 else if x < 8 then (if fs x.toNatClampNeg < 0 then 0 else fs x.toNatClampNeg) else 0
/-- with other contents -/
def tr_st (M : sg_M) (s c : Nat) (fs fc : Nat → Int32) : sg_M := (sg_up (sg_up M.1 s (.inl (0, 8, .inl fs))) c (.inl (0, 320, .inl fc)), M.2)
theorem tr_st_self {t s c : Nat} {fs fc : Nat → Int32} (h : tr_is M t s c fs fc) : tr_st M s c fs fc = M := by
  unfold tr_st
  rw [sg_upsame h.2.1, sg_upsame h.2.2.1]
theorem tr_st_st {s c : Nat} {fs fc gs gc : Nat → Int32} (h : s ≠ c) : tr_st (tr_st M s c fs fc) s c gs gc = tr_st M s c gs gc := by
  unfold tr_st
  show ((sg_up (sg_up (sg_up (sg_up M.1 s _) c _) s _) c _ : Nat → Option sg_E), M.2) = _
  rw [sg_upcomm (a := c) (b := s) (Ne.symm h), sg_upup, sg_upup]
theorem tr_st_is {t s c : Nat} {fs fc gs gc : Nat → Int32} (h : tr_is M t s c fs fc) : tr_is (tr_st M s c gs gc) t s c gs gc := by
  have n1 := tr_ne2 h.1 h.2.1
  have n2 := tr_ne2 h.1 h.2.2.1
  have n3 := tr_ne h.2.1 h.2.2.1
  refine ⟨?_, ?_, sg_upself, h.2.2.2.1, h.2.2.2.2⟩
  · exact (sg_upne n2).trans ((sg_upne n1).trans h.1)
  · exact (sg_upne n3).trans sg_upself
theorem tr_st_out {s c : Nat} {fs fc : Nat → Int32} : sg_out [s, c] M (tr_st M s c fs fc) := (sg_out.rf.up (a := s) (by simp)).up (a := c) (by simp)
theorem tr_st_s {t s c : Nat} {fs fc gs : Nat → Int32} (h : tr_is M t s c fs fc) : (sg_up M.1 s (.inl (0, 8, .inl gs)), M.2) = tr_st M s c gs fc := by
  unfold tr_st
  rw [sg_upcomm (tr_ne h.2.1 h.2.2.1), sg_upsame h.2.2.1]
theorem tr_is.out {t s c : Nat} {fs fc : Nat → Int32} {F : List Nat} {M1 : sg_M} (h : tr_is M t s c fs fc) (ho : sg_out F M M1) (h1 : t ∉ F) (h2 : s ∉ F) (h3 : c ∉ F) : tr_is M1 t s c fs fc := ⟨(ho.1 t h1).trans h.1, (ho.1 s h2).trans h.2.1, (ho.1 c h3).trans h.2.2.1, h.2.2.2.1, h.2.2.2.2⟩
/-- no file has more than 40 lines -/
def tr_ti (fs : Nat → Int32) : Prop := ∀ f : Nat, f < 8 → -1 ≤ fs f ∧ fs f ≤ 40
theorem tr_ti_upd {fs : Nat → Int32} {i : Nat} {v : Int32} (h : tr_ti fs) (h1 : -1 ≤ v) (h2 : v ≤ 40) : tr_ti (upd fs i v) := fun f hf => by
  show -1 ≤ (if f = i then v else fs f) ∧ (if f = i then v else fs f) ≤ 40
  by_cases hz : f = i
  · rw [if_pos hz]; exact ⟨h1, h2⟩
  · rw [if_neg hz]; exact h f hf
/-- other contents, no file with more than 40 lines if there was none -/
abbrev tr_q (M : sg_M) (s c : Nat) (fs : Nat → Int32) : Option Value ⊕ Nat → sg_M → Nat → Nat → Prop := fun r M1 c1 s1 => r = .inl none ∧ (∃ gs gc : Nat → Int32, M1 = tr_st M s c gs gc ∧ (tr_ti fs → tr_ti gs)) ∧ c1 = 0 ∧ s1 = 0
section
variable {t s c : Nat} {fs fc : Nat → Int32}
theorem tr_sizeOf (h : tr_is M t s c fs fc) (x : Int32) : wpm Ls xs 1 [.ref t, .int x] M (sg_eq (some (.int (tr_size fs x))) M) := by
  obtain ⟨h1_, h2_, h3_, h4_, h5_⟩ := id h
  unfold tr_size
  refine sg_wr 1 rfl ?_
  refine sg_wb rfl rfl (fun h1 => ?_) (fun h1 => ?_)
  · rw [if_pos h1]
    refine sg_wr 2 rfl ?_
    exact sg_we rfl rfl ⟨rfl, rfl, rfl, rfl⟩
  · rw [if_neg h1]
    refine sg_wr 2 rfl ?_
    refine sg_wb rfl rfl (fun h7 => ?_) (fun h7 => ?_)
    · rw [if_pos h7]
      refine sg_wr 1 rfl ?_
      refine sg_r_getf rfl (by assumption) rfl ?_
      refine sg_wr 1 rfl ?_
      refine sg_r_iald rfl h4_ h2_ ((sg_in_lt (n := 8) (by decide) h1 h7).1) ?_
      exact sg_we rfl rfl ⟨rfl, rfl, rfl, rfl⟩
    · rw [if_neg h7]
      refine sg_wr 2 rfl ?_
      exact sg_we rfl rfl ⟨rfl, rfl, rfl, rfl⟩
theorem tr_countOf (h : tr_is M t s c fs fc) (x : Int32) : wpm Ls xs 2 [.ref t, .int x] M (sg_eq (some (.int (tr_cnt fs x))) M) := by
  obtain ⟨h1_, h2_, h3_, h4_, h5_⟩ := id h
  unfold tr_cnt
  refine sg_wr 1 rfl ?_
  refine sg_wb rfl rfl (fun h1 => ?_) (fun h1 => ?_)
  · rw [if_pos h1]
    refine sg_wr 2 rfl ?_
    exact sg_we rfl rfl ⟨rfl, rfl, rfl, rfl⟩
  · rw [if_neg h1]
    refine sg_wr 2 rfl ?_
    refine sg_wb rfl rfl (fun h7 => ?_) (fun h7 => ?_)
    · rw [if_pos h7]
      refine sg_wr 1 rfl ?_
      refine sg_r_getf rfl (by assumption) rfl ?_
      refine sg_wr 1 rfl ?_
      refine sg_r_iald rfl h4_ h2_ ((sg_in_lt (n := 8) (by decide) h1 h7).1) ?_
      refine sg_wr 2 rfl ?_
      exact sg_we rfl rfl ⟨rfl, rfl, rfl, rfl⟩
    · rw [if_neg h7]
      refine sg_wr 2 rfl ?_
      exact sg_we rfl rfl ⟨rfl, rfl, rfl, rfl⟩
theorem tr_has (h : tr_is M t s c fs fc) (x : Int32) : wpm Ls xs 3 [.ref t, .int x] M (sg_eq (some (.int (if tr_size fs x < 0 then 0 else 1))) M) := by
  refine sg_wr 2 rfl ?_
  refine sg_p_callV rfl rfl rfl h.1 rfl (Nat.le_of_ble_eq_true rfl) (Nat.le_of_ble_eq_true rfl) (tr_sizeOf h x) ?_
  refine sg_wb rfl rfl (fun h5 => ?_) (fun h5 => ?_)
  · rw [if_pos h5]
    refine sg_wr 1 rfl ?_
    exact sg_we rfl rfl ⟨rfl, rfl, rfl, rfl⟩
  · rw [if_neg h5]
    refine sg_wr 2 rfl ?_
    exact sg_we rfl rfl ⟨rfl, rfl, rfl, rfl⟩
theorem tr_ix {x p : Int32} (c1 : ¬ x < 0) (c2 : ¬ 8 ≤ x) (c3 : ¬ p < 0) (c4 : ¬ 40 ≤ p) : sg_in (x * 40 + p) 320 = true := by
  obtain ⟨a, ha, rfl⟩ := nI_of c1
  obtain ⟨b, hb, rfl⟩ := nI_of c3
  have h1 : a < 8 := Nat.not_le.mp fun z => c2 (nI_le (a := 8) z ha)
  have h2 : b < 40 := Nat.not_le.mp fun z => c4 (nI_le (a := 40) z hb)
  have e : nI a * 40 + nI b = nI (a * 40 + b) := by rw [show (40 : Int32) = nI 40 from rfl, pk_mul, nI_add]
  rw [e]
  exact sg_in_n (by omega) (by decide)
theorem tr_lineOf (h : tr_is M t s c fs fc) (x p : Int32) : wpm Ls xs 4 [.ref t, .int x, .int p] M (sg_eq (some (.int (tr_line fs fc x p))) M) := by
  obtain ⟨h1_, h2_, h3_, h4_, h5_⟩ := id h
  unfold tr_line
  refine sg_wr 1 rfl ?_
  refine sg_wb rfl rfl (fun h1 => ?_) (fun h1 => ?_)
  · rw [if_pos h1]
    refine sg_wr 1 rfl ?_
    exact sg_we rfl rfl ⟨rfl, rfl, rfl, rfl⟩
  · rw [if_neg h1]
    refine sg_wr 2 rfl ?_
    refine sg_wb rfl rfl (fun h7 => ?_) (fun h7 => ?_)
    · rw [if_pos h7]
      refine sg_wr 1 rfl ?_
      exact sg_we rfl rfl ⟨rfl, rfl, rfl, rfl⟩
    · rw [if_neg h7]
      refine sg_wr 1 rfl ?_
      refine sg_wb rfl rfl (fun h11 => ?_) (fun h11 => ?_)
      · rw [if_pos h11]
        refine sg_wr 1 rfl ?_
        exact sg_we rfl rfl ⟨rfl, rfl, rfl, rfl⟩
      · rw [if_neg h11]
        refine sg_wr 2 rfl ?_
        refine sg_wb rfl rfl (fun h17 => ?_) (fun h17 => ?_)
        · rw [if_pos h17]
          refine sg_wr 1 rfl ?_
          exact sg_we rfl rfl ⟨rfl, rfl, rfl, rfl⟩
        · rw [if_neg h17]
          refine sg_wr 2 rfl ?_
          refine sg_r_getf rfl (by assumption) rfl ?_
          refine sg_wr 1 rfl ?_
          refine sg_r_iald rfl h4_ h2_ (sg_in_ge (n := 8) (by decide) h1 h7) ?_
          refine sg_wb rfl rfl (fun h27 => ?_) (fun h27 => ?_)
          · rw [if_pos h27]
            refine sg_wr 1 rfl ?_
            refine sg_r_getf rfl (by assumption) rfl ?_
            refine sg_wr 5 rfl ?_
            refine sg_r_iald rfl h5_ h3_ (tr_ix h1 h7 h11 h17) ?_
            exact sg_we rfl rfl ⟨rfl, rfl, rfl, rfl⟩
          · rw [if_neg h27]
            refine sg_wr 1 rfl ?_
            exact sg_we rfl rfl ⟨rfl, rfl, rfl, rfl⟩
theorem tr_fc_loop (h : tr_is M t s c fs fc) : ∀ (m i : Nat) (v : Int32), m = 8 - i → i ≤ 8 → wpa Ls xs 5 4 [(0, .ref t), (1, .int v), (2, .int (nI i))] [] M (sg_ai M) := by
  intro m
  induction m using Nat.strongRecOn with
  | ind m ih =>
    intro i v hm hi
    obtain ⟨h1_, h2_, h3_, h4_, h5_⟩ := id h
    refine sg_wr 2 rfl ?_
    refine sg_wb rfl rfl (fun h7 => ?_) (fun h7 => ?_)
    · refine sg_wr 1 rfl ?_
      exact sg_we rfl rfl ⟨⟨_, rfl⟩, rfl, rfl, rfl⟩
    · refine sg_wr 1 rfl ?_
      refine sg_r_getf rfl (by assumption) rfl ?_
      refine sg_wr 1 rfl ?_
      have hlt : i < 8 := sg_ltn h7 (by omega)
      refine sg_r_iald rfl h4_ h2_ (sg_in_n hlt (by decide)) ?_
      refine sg_wb rfl rfl (fun h16 => ?_) (fun h16 => ?_)
      · refine sg_wr 2 rfl ?_
        have h9 := fun v => ih (8 - (i + 1)) (by omega) (i + 1) v rfl hlt
        rw [nI_succ] at h9
        exact h9 _
      · refine sg_wr 3 rfl ?_
        have h9 := fun v => ih (8 - (i + 1)) (by omega) (i + 1) v rfl hlt
        rw [nI_succ] at h9
        exact h9 _
theorem tr_fileCount (h : tr_is M t s c fs fc) : wpm Ls xs 5 [.ref t] M (sg_ai M) := by
  refine sg_wr 4 rfl ?_
  exact tr_fc_loop h 8 0 _ rfl (by decide)
def tr_pf (fs : Nat → Int32) (x : Int32) : Nat → Int32 := if x < 0 then fs else if 8 ≤ x then fs else if 0 ≤ fs x.toNatClampNeg then fs else upd fs x.toNatClampNeg 0
theorem tr_putFile (h : tr_is M t s c fs fc) (x : Int32) : wpm Ls xs 6 [.ref t, .int x] M (sg_eq none (tr_st M s c (tr_pf fs x) fc)) := by
  obtain ⟨h1_, h2_, h3_, h4_, h5_⟩ := id h
  rw [← tr_st_s h]
  unfold tr_pf
  refine sg_wr 1 rfl ?_
  refine sg_wb rfl rfl (fun h1 => ?_) (fun h1 => ?_)
  · rw [if_pos h1]
    exact sg_we rfl rfl ⟨rfl, by rw [sg_upsame h2_], rfl, rfl⟩
  · rw [if_neg h1]
    refine sg_wr 2 rfl ?_
    refine sg_wb rfl rfl (fun h7 => ?_) (fun h7 => ?_)
    · rw [if_pos h7]
      exact sg_we rfl rfl ⟨rfl, by rw [sg_upsame h2_], rfl, rfl⟩
    · rw [if_neg h7]
      refine sg_wr 1 rfl ?_
      refine sg_r_getf rfl (by assumption) rfl ?_
      refine sg_wr 1 rfl ?_
      refine sg_r_iald rfl h4_ h2_ (sg_in_ge (n := 8) (by decide) h1 h7) ?_
      refine sg_wb rfl rfl (fun h16 => ?_) (fun h16 => ?_)
      · rw [if_pos h16]
        exact sg_we rfl rfl ⟨rfl, by rw [sg_upsame h2_], rfl, rfl⟩
      · rw [if_neg h16]
        refine sg_wr 1 rfl ?_
        refine sg_r_getf rfl (by assumption) rfl ?_
        refine sg_wr 2 rfl ?_
        refine sg_r_iast rfl h2_ (sg_in_ge (n := 8) (by decide) h1 h7) ?_
        exact sg_we rfl rfl ⟨rfl, rfl, rfl, rfl⟩
theorem tr_pf_ti {x : Int32} (h : tr_ti fs) : tr_ti (tr_pf fs x) := by
  unfold tr_pf
  split
  · exact h
  · split
    · exact h
    · split
      · exact h
      · exact tr_ti_upd h (by decide) (by decide)
theorem tr_pf_has {x : Int32} (h1 : ¬ x < 0) (h2 : ¬ 8 ≤ x) : 0 ≤ tr_pf fs x x.toNatClampNeg := by
  unfold tr_pf
  rw [if_neg h1, if_neg h2]
  split
  · assumption
  · show 0 ≤ (if x.toNatClampNeg = x.toNatClampNeg then (0 : Int32) else _)
    rw [if_pos rfl]
    decide
theorem tr_takeFile (h : tr_is M t s c fs fc) (x : Int32) : wpm Ls xs 7 [.ref t, .int x] M (tr_q M s c fs) := by
  obtain ⟨h1_, h2_, h3_, h4_, h5_⟩ := id h
  refine sg_wr 1 rfl ?_
  refine sg_wb rfl rfl (fun h1 => ?_) (fun h1 => ?_)
  · exact sg_we rfl rfl ⟨rfl, ⟨fs, fc, (tr_st_self h).symm, fun z => z⟩, rfl, rfl⟩
  · refine sg_wr 2 rfl ?_
    refine sg_wb rfl rfl (fun h7 => ?_) (fun h7 => ?_)
    · exact sg_we rfl rfl ⟨rfl, ⟨fs, fc, (tr_st_self h).symm, fun z => z⟩, rfl, rfl⟩
    · refine sg_wr 1 rfl ?_
      refine sg_r_getf rfl (by assumption) rfl ?_
      refine sg_wr 2 rfl ?_
      refine sg_r_iast rfl h2_ (sg_in_ge (n := 8) (by decide) h1 h7) ?_
      rw [tr_st_s h]
      exact sg_we rfl rfl ⟨rfl, ⟨_, _, rfl, fun z => tr_ti_upd z (by decide) (by decide)⟩, rfl, rfl⟩
def tr_cl (fs : Nat → Int32) : Nat → Int32 := sg_fl 8 (-1) fs
theorem tr_cl_ti : tr_ti (tr_cl fs) := fun f hf => by
  show -1 ≤ (if f < 8 then (-1 : Int32) else _) ∧ (if f < 8 then (-1 : Int32) else _) ≤ 40
  rw [if_pos hf]
  decide
theorem tr_clear (h : tr_is M t s c fs fc) : wpm Ls xs 8 [.ref t] M (sg_eq none (tr_st M s c (tr_cl fs) fc)) := by
  obtain ⟨h1_, h2_, h3_, h4_, h5_⟩ := id h
  rw [← tr_st_s h]
  refine sg_wr 1 rfl ?_
  refine sg_r_getf rfl (by assumption) rfl ?_
  refine sg_wr 1 rfl ?_
  refine sg_p_callS rfl rfl rfl rfl (Nat.le_of_ble_eq_true rfl) (Nat.le_of_ble_eq_true rfl) (jd_fill h4_ (by decide) h2_) ?_
  exact sg_we rfl rfl ⟨rfl, rfl, rfl, rfl⟩
theorem tr_m40 {v : Int32} (h1 : ¬ v < 0) (h2 : ¬ 40 ≤ v) : -1 ≤ v + 1 ∧ v + 1 ≤ 40 := by
  obtain ⟨a, ha, rfl⟩ := nI_of h1
  have h3 : a < 40 := Nat.not_le.mp fun z => h2 (nI_le (a := 40) z ha)
  rw [show nI a + 1 = nI (a + 1) from nI_1 a]
  refine ⟨Int32.le_trans (b := nI 0) (by decide) (nI_le (by omega) (by omega)), nI_le (b := 40) (by omega) (by decide)⟩
theorem tr_setLine (h : tr_is M t s c fs fc) (x p v : Int32) : wpm Ls xs 9 [.ref t, .int x, .int p, .int v] M (tr_q M s c fs) := by
  obtain ⟨h1_, h2_, h3_, h4_, h5_⟩ := id h
  refine sg_wr 1 rfl ?_
  refine sg_wb rfl rfl (fun h1 => ?_) (fun h1 => ?_)
  · exact sg_we rfl rfl ⟨rfl, ⟨fs, fc, (tr_st_self h).symm, fun z => z⟩, rfl, rfl⟩
  · refine sg_wr 2 rfl ?_
    refine sg_wb rfl rfl (fun h7 => ?_) (fun h7 => ?_)
    · exact sg_we rfl rfl ⟨rfl, ⟨fs, fc, (tr_st_self h).symm, fun z => z⟩, rfl, rfl⟩
    · refine sg_wr 1 rfl ?_
      refine sg_wb rfl rfl (fun h11 => ?_) (fun h11 => ?_)
      · exact sg_we rfl rfl ⟨rfl, ⟨fs, fc, (tr_st_self h).symm, fun z => z⟩, rfl, rfl⟩
      · refine sg_wr 2 rfl ?_
        refine sg_wb rfl rfl (fun h17 => ?_) (fun h17 => ?_)
        · exact sg_we rfl rfl ⟨rfl, ⟨fs, fc, (tr_st_self h).symm, fun z => z⟩, rfl, rfl⟩
        · refine sg_wr 2 rfl ?_
          refine sg_r_getf rfl (by assumption) rfl ?_
          refine sg_wr 1 rfl ?_
          refine sg_r_iald rfl h4_ h2_ (sg_in_ge (n := 8) (by decide) h1 h7) ?_
          refine sg_wb rfl rfl (fun h27 => ?_) (fun h27 => ?_)
          · exact sg_we rfl rfl ⟨rfl, ⟨fs, fc, (tr_st_self h).symm, fun z => z⟩, rfl, rfl⟩
          · refine sg_wr 1 rfl ?_
            refine sg_r_getf rfl (by assumption) rfl ?_
            refine sg_wr 6 rfl ?_
            refine sg_r_iast rfl h3_ (tr_ix h1 h7 h11 h17) ?_
            exact sg_we rfl rfl ⟨rfl, ⟨fs, _, by unfold tr_st; rw [sg_upsame h2_], fun z => z⟩, rfl, rfl⟩
theorem tr_addLine (h : tr_is M t s c fs fc) (x v : Int32) : wpm Ls xs 12 [.ref t, .int x, .int v] M (tr_q M s c fs) := by
  obtain ⟨h1_, h2_, h3_, h4_, h5_⟩ := id h
  have n3 := tr_ne h2_ h3_
  have n2 := tr_ne2 h1_ h3_
  refine sg_wr 1 rfl ?_
  refine sg_wb rfl rfl (fun h1 => ?_) (fun h1 => ?_)
  · exact sg_we rfl rfl ⟨rfl, ⟨fs, fc, (tr_st_self h).symm, fun z => z⟩, rfl, rfl⟩
  · refine sg_wr 2 rfl ?_
    refine sg_wb rfl rfl (fun h7 => ?_) (fun h7 => ?_)
    · refine sg_wr 1 rfl ?_
      refine sg_r_getf rfl (by assumption) rfl ?_
      refine sg_wr 1 rfl ?_
      refine sg_r_iald rfl h4_ h2_ (sg_in_lt (n := 8) (by decide) h1 h7).1 ?_
      refine sg_wr 2 rfl ?_
      refine sg_wb rfl rfl (fun h19 => ?_) (fun h19 => ?_)
      · exact sg_we rfl rfl ⟨rfl, ⟨fs, fc, (tr_st_self h).symm, fun z => z⟩, rfl, rfl⟩
      · refine sg_wr 2 rfl ?_
        refine sg_wb rfl rfl (fun h25 => ?_) (fun h25 => ?_)
        · exact sg_we rfl rfl ⟨rfl, ⟨fs, fc, (tr_st_self h).symm, fun z => z⟩, rfl, rfl⟩
        · refine sg_wr 1 rfl ?_
          refine sg_r_getf rfl (by assumption) rfl ?_
          refine sg_wr 6 rfl ?_
          refine sg_r_iast rfl h3_ (tr_ix h1 (Int32.not_le.mpr h7) h19 h25) ?_
          refine sg_wr 1 rfl ?_
          refine sg_r_getf rfl ((sg_upne n2).trans h1_) rfl ?_
          refine sg_wr 4 rfl ?_
          refine sg_r_iast rfl ((sg_upne n3).trans h2_) (sg_in_lt (n := 8) (by decide) h1 h7).1 ?_
          exact sg_we rfl rfl ⟨rfl, ⟨_, _, by unfold tr_st; rw [sg_upcomm n3], fun z => tr_ti_upd z (tr_m40 h19 h25).1 (tr_m40 h19 h25).2⟩, rfl, rfl⟩
    · exact sg_we rfl rfl ⟨rfl, ⟨fs, fc, (tr_st_self h).symm, fun z => z⟩, rfl, rfl⟩
theorem tr_become {t2 s2 c2 : Nat} {gs gc : Nat → Int32} (h : tr_is M t s c fs fc) (g : tr_is M t2 s2 c2 gs gc) : wpm Ls xs 13 [.ref t, .ref t2] M (sg_eq none (tr_st M s c (va_cpy gs fs 0 0 8) (va_cpy gc fc 0 0 320))) := by
  obtain ⟨h1_, h2_, h3_, h4_, h5_⟩ := id h
  obtain ⟨g1_, g2_, g3_, g4_, g5_⟩ := id g
  have n1 := tr_ne2 h1_ h2_
  have n2 := tr_ne2 g1_ h2_
  have n3 := tr_ne h2_ g3_
  have n4 := tr_ne h2_ h3_
  refine sg_wr 1 rfl ?_
  refine sg_r_getf rfl g1_ rfl ?_
  refine sg_wr 2 rfl ?_
  refine sg_r_getf rfl h1_ rfl ?_
  refine sg_wr 2 rfl ?_
  refine sg_r_copy rfl g2_ h2_ (by decide +kernel) ?_
  refine sg_wr 1 rfl ?_
  refine sg_r_getf rfl ((sg_upne n2).trans g1_) rfl ?_
  refine sg_wr 2 rfl ?_
  refine sg_r_getf rfl ((sg_upne n1).trans h1_) rfl ?_
  refine sg_wr 2 rfl ?_
  refine sg_r_copy rfl ((sg_upne (Ne.symm n3)).trans g3_) ((sg_upne (Ne.symm n4)).trans h3_) (by decide +kernel) ?_
  exact sg_we rfl rfl ⟨rfl, rfl, rfl, rfl⟩
/-- a file is the same in both -/
def tr_same (fs fc gs gc : Nat → Int32) (x : Int32) : Prop := tr_size fs x = tr_size gs x ∧ ∀ p : Nat, p < 2 ^ 31 → nI p < tr_size fs x → tr_line fs fc x (nI p) = tr_line gs gc x (nI p)
theorem tr_same_rf {x : Int32} : tr_same fs fc fs fc x := ⟨rfl, fun _ _ _ => rfl⟩
theorem sg_int (x : Int32) : x < 0 ∨ ∃ j : Nat, j < 2 ^ 31 ∧ x = nI j := by
  by_cases h : x < 0
  · exact Or.inl h
  · exact Or.inr (nI_of h)
theorem tr_hs_loop {t2 s2 c2 : Nat} {gs gc : Nat → Int32} (h : tr_is M t s c fs fc) (g : tr_is M t2 s2 c2 gs gc) (x z : Int32) (hz : tr_size fs x = z) (hz2 : tr_size gs x = z) : ∀ (m i : Nat), m = z.toNatClampNeg - i → i < 2 ^ 31 → (∀ p : Nat, p < i → tr_line fs fc x (nI p) = tr_line gs gc x (nI p)) → wpa Ls xs 15 20 [(0, .ref t), (1, .int x), (2, .ref t2), (3, .int z), (4, .int (nI i))] [] M (sg_bq (tr_same fs fc gs gc x) M) := by
  intro m
  induction m using Nat.strongRecOn with
  | ind m ih =>
    intro i hm hi hpre
    refine sg_wr 2 rfl ?_
    refine sg_wb rfl rfl (fun h23 => ?_) (fun h23 => ?_)
    · refine sg_wr 1 rfl ?_
      exact sg_we rfl rfl ⟨⟨_, rfl, Or.inl ⟨rfl, hz.trans hz2.symm, fun p hp1 hp2 => hpre p ((nI_ltI hp1 hi).mp (Int32.lt_of_lt_of_le (hz ▸ hp2) h23))⟩⟩, rfl, rfl, rfl⟩
    · refine sg_wr 3 rfl ?_
      refine sg_p_callV rfl rfl rfl h.1 rfl (Nat.le_of_ble_eq_true rfl) (Nat.le_of_ble_eq_true rfl) (tr_lineOf h x _) ?_
      refine sg_wr 3 rfl ?_
      refine sg_p_callV rfl rfl rfl g.1 rfl (Nat.le_of_ble_eq_true rfl) (Nat.le_of_ble_eq_true rfl) (tr_lineOf g x _) ?_
      refine sg_wb rfl rfl (fun h40 => ?_) (fun h40 => ?_)
      · refine sg_wr 2 rfl ?_
        have hlt : nI i < z := Int32.not_le.mp h23
        rcases sg_int z with hz0 | ⟨j, hj, rfl⟩
        · exact absurd (Int32.lt_trans hlt hz0) (nI_pos hi)
        · have hij := (nI_ltI hi hj).mp hlt
          have h9 := ih ((nI j).toNatClampNeg - (i + 1)) (by rw [nI_clamp hj] at hm ⊢; omega) (i + 1) rfl (by omega) (fun p hp => by
            rcases Nat.lt_succ_iff_lt_or_eq.mp hp with q | q
            · exact hpre p q
            · rw [q]; exact h40)
          rw [nI_succ] at h9
          exact h9
      · refine sg_wr 1 rfl ?_
        exact sg_we rfl rfl ⟨⟨_, rfl, Or.inr ⟨rfl, fun q => h40 (q.2 i hi (by rw [hz]; exact Int32.not_le.mp h23))⟩⟩, rfl, rfl, rfl⟩
theorem tr_hasSame {t2 s2 c2 : Nat} {gs gc : Nat → Int32} (h : tr_is M t s c fs fc) (g : tr_is M t2 s2 c2 gs gc) (x : Int32) : wpm Ls xs 15 [.ref t, .int x, .ref t2] M (sg_bq (tr_same fs fc gs gc x) M) := by
  refine sg_wr 2 rfl ?_
  refine sg_p_callV rfl rfl rfl h.1 rfl (Nat.le_of_ble_eq_true rfl) (Nat.le_of_ble_eq_true rfl) (tr_sizeOf h x) ?_
  refine sg_wr 4 rfl ?_
  refine sg_p_callV rfl rfl rfl g.1 rfl (Nat.le_of_ble_eq_true rfl) (Nat.le_of_ble_eq_true rfl) (tr_sizeOf g x) ?_
  refine sg_wb rfl rfl (fun h12 => ?_) (fun h12 => ?_)
  · refine sg_wr 2 rfl ?_
    exact tr_hs_loop h g x _ rfl h12.symm _ 0 rfl (by decide) (fun p hp => absurd hp (Nat.not_lt_zero p))
  · refine sg_wr 1 rfl ?_
    exact sg_we rfl rfl ⟨⟨_, rfl, Or.inr ⟨rfl, fun q => h12 q.1⟩⟩, rfl, rfl, rfl⟩
/-- both trees are the same -/
def tr_eq (fs fc gs gc : Nat → Int32) : Prop := ∀ f : Nat, f < 8 → tr_same fs fc gs gc (nI f)
theorem tr_eq_rf : tr_eq fs fc fs fc := fun _ _ => tr_same_rf
/-- how many files are other: none, just if the trees are the same -/
abbrev tr_oq (M : sg_M) (fs fc gs gc : Nat → Int32) : Option Value ⊕ Nat → sg_M → Nat → Nat → Prop := fun r M1 c s => (∃ v : Nat, r = .inl (some (.int (nI v))) ∧ v ≤ 8 ∧ (v = 0 ↔ tr_eq fs fc gs gc)) ∧ M1 = M ∧ c = 0 ∧ s = 0
theorem tr_ot_loop {t2 s2 c2 : Nat} {gs gc : Nat → Int32} (h : tr_is M t s c fs fc) (g : tr_is M t2 s2 c2 gs gc) : ∀ (m i v : Nat), m = 8 - i → i ≤ 8 → v ≤ i → (v = 0 ↔ ∀ f : Nat, f < i → tr_same fs fc gs gc (nI f)) → wpa Ls xs 14 4 [(0, .ref t), (1, .ref t2), (2, .int (nI v)), (3, .int (nI i))] [] M (tr_oq M fs fc gs gc) := by
  intro m
  induction m using Nat.strongRecOn with
  | ind m ih =>
    intro i v hm hi hv hpre
    refine sg_wr 2 rfl ?_
    refine sg_wb rfl rfl (fun h7 => ?_) (fun h7 => ?_)
    · refine sg_wr 1 rfl ?_
      exact sg_we rfl rfl ⟨⟨v, rfl, by omega, by rw [hpre]; exact ⟨fun q f hf => q f (Nat.lt_of_lt_of_le hf (sg_gen h7 (by decide) (by omega))), fun q f hf => q f (Nat.lt_of_lt_of_le hf hi)⟩⟩, rfl, rfl, rfl⟩
    · refine sg_wr 3 rfl ?_
      have hlt : i < 8 := sg_ltn h7 (by omega)
      refine sg_r_callV rfl rfl rfl h.1 rfl (Nat.le_of_ble_eq_true rfl) (Nat.le_of_ble_eq_true rfl) (tr_hasSame h g _) ?_
      rintro _ _ _ _ ⟨⟨b, rfl, hb⟩, rfl, rfl, rfl⟩
      refine sg_a0 ?_
      refine sg_wb rfl rfl (fun h16 => ?_) (fun h16 => ?_)
      · refine sg_wr 2 rfl ?_
        have hsame : tr_same fs fc gs gc (nI i) := by
          rcases hb with ⟨_, q⟩ | ⟨q, _⟩
          · exact q
          · exact absurd q h16
        have h9 := ih (8 - (i + 1)) (by omega) (i + 1) v rfl hlt (by omega) (by
          rw [hpre]
          exact ⟨fun q f hf => by
            rcases Nat.lt_succ_iff_lt_or_eq.mp hf with z | z
            · exact q f z
            · rw [z]; exact hsame, fun q f hf => q f (by omega)⟩)
        rw [nI_succ] at h9
        exact h9
      · refine sg_wr 3 rfl ?_
        have hsame : ¬ tr_same fs fc gs gc (nI i) := by
          rcases hb with ⟨q, _⟩ | ⟨_, q⟩
          · exact absurd (show b = 0 from Classical.byContradiction h16) (by rw [q]; decide)
          · exact q
        have h9 := ih (8 - (i + 1)) (by omega) (i + 1) (v + 1) rfl hlt (by omega) ⟨fun q => by omega, fun q => absurd (q i (Nat.lt_succ_self i)) hsame⟩
        rw [nI_succ, nI_succ] at h9
        exact h9
theorem tr_othersThan {t2 s2 c2 : Nat} {gs gc : Nat → Int32} (h : tr_is M t s c fs fc) (g : tr_is M t2 s2 c2 gs gc) : wpm Ls xs 14 [.ref t, .ref t2] M (tr_oq M fs fc gs gc) := by
  refine sg_wr 4 rfl ?_
  exact tr_ot_loop h g 8 0 0 rfl (by decide) (by decide) ⟨fun _ f hf => absurd hf (Nat.not_lt_zero f), fun _ => rfl⟩
end
end
end SGT
