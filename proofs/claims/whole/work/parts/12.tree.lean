section SGT
/-! Tree, and what of the JDK it calls -/
abbrev sg_eq (v : Option Value) (M : sg_M) : Option Value ⊕ Nat → sg_M → Nat → Nat → Prop := fun r M1 c s => r = .inl v ∧ M1 = M ∧ c = 0 ∧ s = 0
section
variable {tab : Nat → Nat → Option sg_F} {hd : Nat → Nat → Nat → Option (Option Nat)} {k pc : Nat} {L : sg_L} {st r : List Value} {M : sg_M} {Q : Option Value ⊕ Nat → sg_M → Nat → Nat → Prop}
theorem sg_a0 {rest : List Value} {v : Option Value} (h : sg_wp tab hd k (pc + 3) L (v.toList ++ rest) M Q) : sg_aft tab hd k pc L rest Q (.inl v) M 0 0 := h.mono fun r M c s q => by rw [Nat.zero_add, Nat.zero_add]; exact q
theorem sg_p_callV {j n ci nL a : Nat} {fs As rest : List Value} {v : Option Value} {M1 : sg_M} (hf : tab k pc = some (sg_callV j n ci nL)) (hs : (st.take n).reverse = .ref a :: As) (hr : st.drop n = rest) (hM : M.1 a = some (.inr (ci, fs))) (h1 : As.length + 1 = n) (h2 : sg_cs rest ≤ 8) (h3 : sg_cs (.ref a :: As) ≤ nL) (hm : sg_wp tab hd j 0 (lv_args 0 (.ref a :: As)) [] M (sg_eq v M1)) (h : sg_wp tab hd k (pc + 3) L (v.toList ++ rest) M1 Q) : sg_wp tab hd k pc L st M Q :=
  sg_r_callV hf hs hr hM h1 h2 h3 hm (by rintro _ _ _ _ ⟨rfl, rfl, rfl, rfl⟩; exact sg_a0 h)
theorem sg_p_callS {j n nL : Nat} {av rest : List Value} {v : Option Value} {M1 : sg_M} (hf : tab k pc = some (sg_callS j n nL)) (hs : (st.take n).reverse = av) (hr : st.drop n = rest) (h1 : av.length = n) (h2 : sg_cs rest ≤ 8) (h3 : sg_cs av ≤ nL) (hm : sg_wp tab hd j 0 (lv_args 0 av) [] M (sg_eq v M1)) (h : sg_wp tab hd k (pc + 3) L (v.toList ++ rest) M1 Q) : sg_wp tab hd k pc L st M Q :=
  sg_r_callS hf hs hr h1 h2 h3 hm (by rintro _ _ _ _ ⟨rfl, rfl, rfl, rfl⟩; exact sg_a0 h)
theorem sg_upup {f : Nat → Option sg_E} {a : Nat} {e1 e2 : sg_E} : sg_up (sg_up f a e1) a e2 = sg_up f a e2 := by
  funext q
  show (if q = a then some e2 else if q = a then some e1 else f q) = if q = a then some e2 else f q
  by_cases h : q = a
  · rw [if_pos h, if_pos h]
  · rw [if_neg h, if_neg h, if_neg h]
theorem sg_upself {f : Nat → Option sg_E} {a : Nat} {e : sg_E} : sg_up f a e a = some e := if_pos rfl
theorem sg_upne {f : Nat → Option sg_E} {a q : Nat} {e : sg_E} (h : q ≠ a) : sg_up f a e q = f q := if_neg h
theorem sg_upsame {f : Nat → Option sg_E} {a : Nat} {e : sg_E} (h : f a = some e) : sg_up f a e = f := by
  funext q
  show (if q = a then some e else f q) = f q
  by_cases hq : q = a
  · rw [if_pos hq, hq, h]
  · rw [if_neg hq]
end
section
variable {tl : Nat → Nat → Option sg_F} {g : Nat → Nat → Nat → Option (Option Nat)} {Ls : Nat} {xs : Nat → Int32} {M : sg_M}
theorem jd_max (x y : Int32) : sg_wp (sg_tb tl Ls xs) (sg_hd g) 144 0 (lv_args 0 [.int x, .int y]) [] M (sg_eq (some (.int (if x < y then y else x))) M) := by
  by_cases c1 : x < y
  · repeat (first | refine sg_w0 rfl rfl ?_ | refine sg_w0 rfl (if_pos (by assumption)) ?_ | refine sg_w0 rfl (if_neg (by assumption)) ?_ | refine sg_r_getf rfl (by assumption) rfl ?_ | refine sg_r_iald rfl (by assumption) (by assumption) (by assumption) ?_)
    exact sg_we rfl rfl ⟨by rw [if_pos c1], rfl, rfl, rfl⟩
  · repeat (first | refine sg_w0 rfl rfl ?_ | refine sg_w0 rfl (if_pos (by assumption)) ?_ | refine sg_w0 rfl (if_neg (by assumption)) ?_ | refine sg_r_getf rfl (by assumption) rfl ?_ | refine sg_r_iald rfl (by assumption) (by assumption) (by assumption) ?_)
    exact sg_we rfl rfl ⟨by rw [if_neg c1], rfl, rfl, rfl⟩
theorem jd_min (x y : Int32) : sg_wp (sg_tb tl Ls xs) (sg_hd g) 145 0 (lv_args 0 [.int x, .int y]) [] M (sg_eq (some (.int (if y < x then y else x))) M) := by
  by_cases c1 : y < x
  · repeat (first | refine sg_w0 rfl rfl ?_ | refine sg_w0 rfl (if_pos (by assumption)) ?_ | refine sg_w0 rfl (if_neg (by assumption)) ?_ | refine sg_r_getf rfl (by assumption) rfl ?_ | refine sg_r_iald rfl (by assumption) (by assumption) (by assumption) ?_)
    exact sg_we rfl rfl ⟨by rw [if_pos c1], rfl, rfl, rfl⟩
  · repeat (first | refine sg_w0 rfl rfl ?_ | refine sg_w0 rfl (if_pos (by assumption)) ?_ | refine sg_w0 rfl (if_neg (by assumption)) ?_ | refine sg_r_getf rfl (by assumption) rfl ?_ | refine sg_r_iald rfl (by assumption) (by assumption) (by assumption) ?_)
    exact sg_we rfl rfl ⟨by rw [if_neg c1], rfl, rfl, rfl⟩
/-- what fill leaves -/
def sg_fl (n : Nat) (v : Int32) (f : Nat → Int32) : Nat → Int32 := fun j => if j < n then v else f j
theorem sg_fl_s {i : Nat} {v : Int32} {f : Nat → Int32} : upd (sg_fl i v f) i v = sg_fl (i + 1) v f := by
  funext j
  show (if j = i then v else if j < i then v else f j) = if j < i + 1 then v else f j
  by_cases h1 : j = i
  · rw [if_pos h1, if_pos (by omega)]
  · by_cases h2 : j < i
    · rw [if_neg h1, if_pos h2, if_pos (by omega)]
    · rw [if_neg h1, if_neg h2, if_neg (by omega)]
theorem jd_fill_loop {a n : Nat} {v : Int32} (ha : a ≠ 0) (hn : n < 2 ^ 31) (f : Nat → Int32) (M0 : Nat → Option sg_E) (nx : Nat) : ∀ (d i : Nat), i + d = n → sg_wp (sg_tb tl Ls xs) (sg_hd g) 143 5 [(0, .ref a), (1, .int v), (2, .int (nI i)), (3, .int (nI n))] [] (sg_up M0 a (.inl (0, n, .inl (sg_fl i v f))), nx) (sg_eq none (sg_up M0 a (.inl (0, n, .inl (sg_fl n v f))), nx)) := by
  intro d
  induction d with
  | zero =>
    intro i hi
    have hi : i = n := by omega
    subst hi
    have c1 : nI i ≤ nI i := nI_le (Nat.le_refl _) hn
    repeat (first | refine sg_w0 rfl rfl ?_ | refine sg_w0 rfl (if_pos (by assumption)) ?_ | refine sg_w0 rfl (if_neg (by assumption)) ?_ | refine sg_r_getf rfl (by assumption) rfl ?_ | refine sg_r_iald rfl (by assumption) (by assumption) (by assumption) ?_)
    exact sg_we rfl rfl ⟨rfl, rfl, rfl, rfl⟩
  | succ d ih =>
    intro i hi
    have c1 : ¬ nI n ≤ nI i := nI_ge (by omega) hn
    have h1 := ih (i + 1) (by omega)
    repeat (first | refine sg_w0 rfl rfl ?_ | refine sg_w0 rfl (if_pos (by assumption)) ?_ | refine sg_w0 rfl (if_neg (by assumption)) ?_ | refine sg_r_getf rfl (by assumption) rfl ?_ | refine sg_r_iald rfl (by assumption) (by assumption) (by assumption) ?_)
    refine sg_r_iast rfl sg_upself (sg_in_n (by omega) hn) ?_
    rw [sg_upup, nI_clamp (by omega), sg_fl_s]
    rw [nI_succ] at h1
    refine sg_w0 rfl rfl ?_
    refine sg_w0 rfl rfl ?_
    exact h1
theorem jd_fill {a n : Nat} {v : Int32} {f : Nat → Int32} (ha : a ≠ 0) (hn : n < 2 ^ 31) (hM : M.1 a = some (.inl (0, n, .inl f))) : sg_wp (sg_tb tl Ls xs) (sg_hd g) 143 0 (lv_args 0 [.ref a, .int v]) [] M (sg_eq none (sg_up M.1 a (.inl (0, n, .inl (sg_fl n v f))), M.2)) := by
  repeat (first | refine sg_w0 rfl rfl ?_ | refine sg_w0 rfl (if_pos (by assumption)) ?_ | refine sg_w0 rfl (if_neg (by assumption)) ?_ | refine sg_r_getf rfl (by assumption) rfl ?_ | refine sg_r_iald rfl (by assumption) (by assumption) (by assumption) ?_)
  refine sg_r_alen rfl ha hM ?_
  have h := jd_fill_loop (tl := tl) (g := g) (Ls := Ls) (xs := xs) (v := v) ha hn f M.1 M.2 n 0 (by omega)
  have e : sg_fl 0 v f = f := funext fun j => if_neg (Nat.not_lt_zero j)
  rw [e, sg_upsame hM] at h
  refine sg_w0 rfl rfl ?_
  exact h
/-- a tree's three cells -/
def tr_is (M : sg_M) (t s c : Nat) (fs fc : Nat → Int32) : Prop := M.1 t = some (.inr (6, [.ref s, .ref c])) ∧ M.1 s = some (.inl (0, 8, .inl fs)) ∧ M.1 c = some (.inl (0, 320, .inl fc)) ∧ s ≠ 0 ∧ c ≠ 0
def tr_size (fs : Nat → Int32) (x : Int32) : Int32 := if x < 0 then -1 else if x < 8 then fs x.toNatClampNeg else -1
def tr_line (fs fc : Nat → Int32) (x p : Int32) : Int32 := if x < 0 then -1 else if 8 ≤ x then -1 else if p < 0 then -1 else if 40 ≤ p then -1 else if p < fs x.toNatClampNeg then fc (x * 40 + p).toNatClampNeg else -1
theorem tr_sizeOf {t s c : Nat} {fs fc : Nat → Int32} (h : tr_is M t s c fs fc) (x : Int32) : sg_wp (sg_tb tl Ls xs) (sg_hd g) 39 0 (lv_args 0 [.ref t, .int x]) [] M (sg_eq (some (.int (tr_size fs x))) M) := by
  obtain ⟨h1, h2, h3, h4, h5⟩ := h
  unfold tr_size
  by_cases c1 : x < 0
  · rw [if_pos c1]
    repeat (first | refine sg_w0 rfl rfl ?_ | refine sg_w0 rfl (if_pos (by assumption)) ?_ | refine sg_w0 rfl (if_neg (by assumption)) ?_ | refine sg_r_getf rfl (by assumption) rfl ?_ | refine sg_r_iald rfl (by assumption) (by assumption) (by assumption) ?_)
    exact sg_we rfl rfl ⟨rfl, rfl, rfl, rfl⟩
  · rw [if_neg c1]
    by_cases c2 : x < 8
    · rw [if_pos c2]
      have c3 := (sg_in_lt (n := 8) (by decide) c1 c2).1
      repeat (first | refine sg_w0 rfl rfl ?_ | refine sg_w0 rfl (if_pos (by assumption)) ?_ | refine sg_w0 rfl (if_neg (by assumption)) ?_ | refine sg_r_getf rfl (by assumption) rfl ?_ | refine sg_r_iald rfl (by assumption) (by assumption) (by assumption) ?_)
      exact sg_we rfl rfl ⟨rfl, rfl, rfl, rfl⟩
    · rw [if_neg c2]
      repeat (first | refine sg_w0 rfl rfl ?_ | refine sg_w0 rfl (if_pos (by assumption)) ?_ | refine sg_w0 rfl (if_neg (by assumption)) ?_ | refine sg_r_getf rfl (by assumption) rfl ?_ | refine sg_r_iald rfl (by assumption) (by assumption) (by assumption) ?_)
      exact sg_we rfl rfl ⟨rfl, rfl, rfl, rfl⟩
theorem tr_countOf {t s c : Nat} {fs fc : Nat → Int32} (h : tr_is M t s c fs fc) (x : Int32) : sg_wp (sg_tb tl Ls xs) (sg_hd g) 40 0 (lv_args 0 [.ref t, .int x]) [] M (sg_eq (some (.int (if tr_size fs x < 0 then 0 else tr_size fs x))) M) := by
  obtain ⟨h1, h2, h3, h4, h5⟩ := h
  unfold tr_size
  by_cases c1 : x < 0
  · rw [if_pos c1, if_pos (by decide)]
    repeat (first | refine sg_w0 rfl rfl ?_ | refine sg_w0 rfl (if_pos (by assumption)) ?_ | refine sg_w0 rfl (if_neg (by assumption)) ?_ | refine sg_r_getf rfl (by assumption) rfl ?_ | refine sg_r_iald rfl (by assumption) (by assumption) (by assumption) ?_)
    exact sg_we rfl rfl ⟨rfl, rfl, rfl, rfl⟩
  · rw [if_neg c1]
    by_cases c2 : x < 8
    · rw [if_pos c2]
      have c3 := (sg_in_lt (n := 8) (by decide) c1 c2).1
      repeat (first | refine sg_w0 rfl rfl ?_ | refine sg_w0 rfl (if_pos (by assumption)) ?_ | refine sg_w0 rfl (if_neg (by assumption)) ?_ | refine sg_r_getf rfl (by assumption) rfl ?_ | refine sg_r_iald rfl (by assumption) (by assumption) (by assumption) ?_)
      refine sg_p_callS rfl rfl rfl rfl (Nat.le_of_ble_eq_true rfl) (Nat.le_of_ble_eq_true rfl) (jd_max _ _) ?_
      exact sg_we rfl rfl ⟨rfl, rfl, rfl, rfl⟩
    · rw [if_neg c2, if_pos (by decide)]
      repeat (first | refine sg_w0 rfl rfl ?_ | refine sg_w0 rfl (if_pos (by assumption)) ?_ | refine sg_w0 rfl (if_neg (by assumption)) ?_ | refine sg_r_getf rfl (by assumption) rfl ?_ | refine sg_r_iald rfl (by assumption) (by assumption) (by assumption) ?_)
      exact sg_we rfl rfl ⟨rfl, rfl, rfl, rfl⟩
theorem tr_has {t s c : Nat} {fs fc : Nat → Int32} (h : tr_is M t s c fs fc) (x : Int32) : sg_wp (sg_tb tl Ls xs) (sg_hd g) 41 0 (lv_args 0 [.ref t, .int x]) [] M (sg_eq (some (.int (if tr_size fs x < 0 then 0 else 1))) M) := by
  refine sg_w0 rfl rfl ?_
  refine sg_w0 rfl rfl ?_
  refine sg_p_callV rfl rfl rfl h.1 rfl (Nat.le_of_ble_eq_true rfl) (Nat.le_of_ble_eq_true rfl) (tr_sizeOf h x) ?_
  by_cases c1 : tr_size fs x < 0
  · rw [if_pos c1]
    repeat (first | refine sg_w0 rfl rfl ?_ | refine sg_w0 rfl (if_pos (by assumption)) ?_ | refine sg_w0 rfl (if_neg (by assumption)) ?_ | refine sg_r_getf rfl (by assumption) rfl ?_ | refine sg_r_iald rfl (by assumption) (by assumption) (by assumption) ?_)
    exact sg_we rfl rfl ⟨rfl, rfl, rfl, rfl⟩
  · rw [if_neg c1]
    repeat (first | refine sg_w0 rfl rfl ?_ | refine sg_w0 rfl (if_pos (by assumption)) ?_ | refine sg_w0 rfl (if_neg (by assumption)) ?_ | refine sg_r_getf rfl (by assumption) rfl ?_ | refine sg_r_iald rfl (by assumption) (by assumption) (by assumption) ?_)
    exact sg_we rfl rfl ⟨rfl, rfl, rfl, rfl⟩
theorem tr_ix {x p : Int32} (c1 : ¬ x < 0) (c2 : ¬ 8 ≤ x) (c3 : ¬ p < 0) (c4 : ¬ 40 ≤ p) : sg_in (x * 40 + p) 320 = true := by
  obtain ⟨a, ha, rfl⟩ := nI_of c1
  obtain ⟨b, hb, rfl⟩ := nI_of c3
  have h1 : a < 8 := Nat.not_le.mp fun z => c2 (nI_le (a := 8) z ha)
  have h2 : b < 40 := Nat.not_le.mp fun z => c4 (nI_le (a := 40) z hb)
  have e : nI a * 40 + nI b = nI (a * 40 + b) := by rw [show (40 : Int32) = nI 40 from rfl, pk_mul, nI_add]
  rw [e]
  exact sg_in_n (by omega) (by decide)
theorem tr_lineOf {t s c : Nat} {fs fc : Nat → Int32} (h : tr_is M t s c fs fc) (x p : Int32) : sg_wp (sg_tb tl Ls xs) (sg_hd g) 42 0 (lv_args 0 [.ref t, .int x, .int p]) [] M (sg_eq (some (.int (tr_line fs fc x p))) M) := by
  obtain ⟨h1, h2, h3, h4, h5⟩ := h
  unfold tr_line
  by_cases c1 : x < 0
  · rw [if_pos c1]
    repeat (first | refine sg_w0 rfl rfl ?_ | refine sg_w0 rfl (if_pos (by assumption)) ?_ | refine sg_w0 rfl (if_neg (by assumption)) ?_ | refine sg_r_getf rfl (by assumption) rfl ?_ | refine sg_r_iald rfl (by assumption) (by assumption) (by assumption) ?_)
    exact sg_we rfl rfl ⟨rfl, rfl, rfl, rfl⟩
  · rw [if_neg c1]
    by_cases c2 : 8 ≤ x
    · rw [if_pos c2]
      repeat (first | refine sg_w0 rfl rfl ?_ | refine sg_w0 rfl (if_pos (by assumption)) ?_ | refine sg_w0 rfl (if_neg (by assumption)) ?_ | refine sg_r_getf rfl (by assumption) rfl ?_ | refine sg_r_iald rfl (by assumption) (by assumption) (by assumption) ?_)
      exact sg_we rfl rfl ⟨rfl, rfl, rfl, rfl⟩
    · rw [if_neg c2]
      by_cases c3 : p < 0
      · rw [if_pos c3]
        repeat (first | refine sg_w0 rfl rfl ?_ | refine sg_w0 rfl (if_pos (by assumption)) ?_ | refine sg_w0 rfl (if_neg (by assumption)) ?_ | refine sg_r_getf rfl (by assumption) rfl ?_ | refine sg_r_iald rfl (by assumption) (by assumption) (by assumption) ?_)
        exact sg_we rfl rfl ⟨rfl, rfl, rfl, rfl⟩
      · rw [if_neg c3]
        by_cases c4 : 40 ≤ p
        · rw [if_pos c4]
          repeat (first | refine sg_w0 rfl rfl ?_ | refine sg_w0 rfl (if_pos (by assumption)) ?_ | refine sg_w0 rfl (if_neg (by assumption)) ?_ | refine sg_r_getf rfl (by assumption) rfl ?_ | refine sg_r_iald rfl (by assumption) (by assumption) (by assumption) ?_)
          exact sg_we rfl rfl ⟨rfl, rfl, rfl, rfl⟩
        · rw [if_neg c4]
          have c5 := (sg_in_lt (n := 8) (by decide) c1 (Int32.not_le.mp c2)).1
          by_cases c6 : p < fs x.toNatClampNeg
          · rw [if_pos c6]
            have c7 := tr_ix c1 c2 c3 c4
            repeat (first | refine sg_w0 rfl rfl ?_ | refine sg_w0 rfl (if_pos (by assumption)) ?_ | refine sg_w0 rfl (if_neg (by assumption)) ?_ | refine sg_r_getf rfl (by assumption) rfl ?_ | refine sg_r_iald rfl (by assumption) (by assumption) (by assumption) ?_)
            exact sg_we rfl rfl ⟨rfl, rfl, rfl, rfl⟩
          · rw [if_neg c6]
            repeat (first | refine sg_w0 rfl rfl ?_ | refine sg_w0 rfl (if_pos (by assumption)) ?_ | refine sg_w0 rfl (if_neg (by assumption)) ?_ | refine sg_r_getf rfl (by assumption) rfl ?_ | refine sg_r_iald rfl (by assumption) (by assumption) (by assumption) ?_)
            exact sg_we rfl rfl ⟨rfl, rfl, rfl, rfl⟩
end
end SGT
