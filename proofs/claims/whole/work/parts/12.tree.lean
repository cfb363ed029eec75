section SGT
/-! Tree -/
section
variable {tl : Nat → Nat → Option sg_F} {g : Nat → Nat → Nat → Option (Option Nat)} {Ls : Nat} {xs : Nat → Int32} {M : sg_M}
/-- a tree's three cells -/
def tr_is (M : sg_M) (t s c : Nat) (fs fc : Nat → Int32) : Prop := M.1 t = some (.inr (6, [.ref s, .ref c])) ∧ M.1 s = some (.inl (0, 8, .inl fs)) ∧ M.1 c = some (.inl (0, 320, .inl fc)) ∧ s ≠ 0 ∧ c ≠ 0
def tr_size (fs : Nat → Int32) (x : Int32) : Int32 := if x < 0 then -1 else if x < 8 then fs x.toNatClampNeg else -1
theorem tr_sizeOf {t s c : Nat} {fs fc : Nat → Int32} (h : tr_is M t s c fs fc) (x : Int32) : sg_wp (sg_tb tl Ls xs) (sg_hd g) 39 0 (lv_args 0 [.ref t, .int x]) [] M (fun r M1 c s => r = .inl (some (.int (tr_size fs x))) ∧ M1 = M ∧ c = 0 ∧ s = 0) := by
  obtain ⟨h1, h2, h3, h4, h5⟩ := h
  refine sg_w0 rfl rfl ?_
  by_cases c1 : x < 0
  · refine sg_w0 rfl (if_pos c1) ?_
    refine sg_w0 rfl rfl ?_
    refine sg_w0 rfl rfl ?_
    exact sg_we rfl rfl ⟨by rw [tr_size, if_pos c1], rfl, rfl, rfl⟩
  · refine sg_w0 rfl (if_neg c1) ?_
    refine sg_w0 rfl rfl ?_
    refine sg_w0 rfl rfl ?_
    by_cases c2 : x < 8
    · refine sg_w0 rfl (if_pos c2) ?_
      refine sg_w0 rfl rfl ?_
      refine sg_r_getf rfl h1 rfl ?_
      refine sg_w0 rfl rfl ?_
      refine sg_r_iald rfl h4 h2 (sg_in_lt (n := 8) (by decide) c1 c2).1 ?_
      exact sg_we rfl rfl ⟨by rw [tr_size, if_neg c1, if_pos c2], rfl, rfl, rfl⟩
    · refine sg_w0 rfl (if_neg c2) ?_
      refine sg_w0 rfl rfl ?_
      refine sg_w0 rfl rfl ?_
      exact sg_we rfl rfl ⟨by rw [tr_size, if_neg c1, if_neg c2], rfl, rfl, rfl⟩
end
end SGT
