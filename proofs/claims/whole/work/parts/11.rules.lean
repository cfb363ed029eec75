section SGR
/-! rules for the steps that look at cells, and the program with a law of any kind behind it -/
/-- the class's tables, and any law's behind them, from 200 on -/
def sg_tb (tl : Nat → Nat → Option sg_F) (Ls : Nat) (xs : Nat → Int32) (k pc : Nat) : Option sg_F := bif Nat.ble 200 k then tl k pc else sg_tab Ls xs k pc
def sg_hd (g : Nat → Nat → Nat → Option (Option Nat)) (k pc E : Nat) : Option (Option Nat) := bif Nat.ble 200 k then g k pc E else some none
section
variable {tab : Nat → Nat → Option sg_F} {hd : Nat → Nat → Nat → Option (Option Nat)} {k pc : Nat} {L : sg_L} {st r : List Value} {M : sg_M} {Q : Option Value ⊕ Nat → sg_M → Nat → Nat → Prop}
theorem sg_r_getf {a ci f : Nat} {fs : List Value} {v : Value} (hf : tab k pc = some (sg_getf pc ci f)) (hM : M.1 a = some (.inr (ci, fs))) (hv : fs[f]? = some v) (h : sg_wp tab hd k (pc + 3) L (v :: r) M Q) : sg_wp tab hd k pc L (.ref a :: r) M Q :=
  sg_w0 hf (by simp [sg_getf, hM, hv, sg_go]) h
theorem sg_r_putf {a ci f : Nat} {fs : List Value} {v : Value} {ty : FieldType} (hf : tab k pc = some (sg_putf pc ci f ty)) (hM : M.1 a = some (.inr (ci, fs))) (hl : f < fs.length) (hk : sg_kd ty v = true) (h : sg_wp tab hd k (pc + 3) L r (sg_up M.1 a (.inr (ci, fs.set f v)), M.2) Q) : sg_wp tab hd k pc L (v :: .ref a :: r) M Q :=
  sg_w0 hf (by simp [sg_putf, hM, hl, hk]) h
theorem sg_r_iald {Ls : Nat} {xs : Nat → Int32} {a n : Nat} {i : Int32} {g : Nat → Int32} (hf : tab k pc = some (sg_iald Ls xs pc)) (ha : a ≠ 0) (hM : M.1 a = some (.inl (0, n, .inl g))) (hi : sg_in i n = true) (h : sg_wp tab hd k (pc + 1) L (.int (g i.toNatClampNeg) :: r) M Q) : sg_wp tab hd k pc L (.int i :: .ref a :: r) M Q :=
  sg_w0 hf (by simp [sg_iald, ha, hM, hi, sg_go]) h
theorem sg_r_iast {a n : Nat} {i x : Int32} {g : Nat → Int32} (hf : tab k pc = some (sg_iast pc)) (hM : M.1 a = some (.inl (0, n, .inl g))) (hi : sg_in i n = true) (h : sg_wp tab hd k (pc + 1) L r (sg_up M.1 a (.inl (0, n, .inl (upd g i.toNatClampNeg x))), M.2) Q) : sg_wp tab hd k pc L (.int x :: .int i :: .ref a :: r) M Q :=
  sg_w0 hf (by simp [sg_iast, hM, hi]) h
theorem sg_r_alen {Ls : Nat} {a n : Nat} {g : Nat → Int32} (hf : tab k pc = some (sg_alen Ls pc)) (ha : a ≠ 0) (hM : M.1 a = some (.inl (0, n, .inl g))) (h : sg_wp tab hd k (pc + 1) L (.int (Int32.ofNat n) :: r) M Q) : sg_wp tab hd k pc L (.ref a :: r) M Q :=
  sg_w0 hf (by simp [sg_alen, ha, hM, sg_go]) h
theorem sg_r_aald {a n t : Nat} {i : Int32} {g : Nat → Option Nat} (hf : tab k pc = some (sg_aald pc t)) (hM : M.1 a = some (.inl (t, n, .inr (.inr (.inr (.inr g)))))) (hi : sg_in i n = true) (h : sg_wp tab hd k (pc + 1) L (va_rf (g i.toNatClampNeg) :: r) M Q) : sg_wp tab hd k pc L (.int i :: .ref a :: r) M Q :=
  sg_w0 hf (by simp [sg_aald, hM, hi, sg_go]) h
theorem sg_r_aast {a v n t ci : Nat} {i : Int32} {g : Nat → Option Nat} {fs : List Value} (hf : tab k pc = some (sg_aast pc t ci)) (hM : M.1 a = some (.inl (t, n, .inr (.inr (.inr (.inr g)))))) (hV : M.1 v = some (.inr (ci, fs))) (hi : sg_in i n = true) (h : sg_wp tab hd k (pc + 1) L r (sg_up M.1 a (.inl (t, n, .inr (.inr (.inr (.inr (va_up g i.toNatClampNeg (some v))))))), M.2) Q) : sg_wp tab hd k pc L (.ref v :: .int i :: .ref a :: r) M Q :=
  sg_w0 hf (by simp [sg_aast, hM, hV, hi]) h
/-- a virtual call of a method that throws nothing, by what is known of it -/
theorem sg_r_callV {j n ci nL a : Nat} {fs As rest : List Value} {Q1 : Option Value ⊕ Nat → sg_M → Nat → Nat → Prop} (hf : tab k pc = some (sg_callV j n ci nL)) (hs : (st.take n).reverse = .ref a :: As) (hr : st.drop n = rest) (hM : M.1 a = some (.inr (ci, fs))) (h1 : As.length + 1 = n) (h2 : sg_cs rest ≤ 8) (h3 : sg_cs (.ref a :: As) ≤ nL) (hm : sg_wp tab hd j 0 (lv_args 0 (.ref a :: As)) [] M Q1) (h : ∀ r M1 c s, Q1 r M1 c s → sg_aft tab hd k pc L rest Q r M1 c s) : sg_wp tab hd k pc L st M Q :=
  sg_wk hm hf (by subst hr; simp only [sg_callV, hs, hM]; rw [if_pos ⟨trivial, h1, h2, h3⟩]) h
theorem sg_r_callS {j n nL : Nat} {av rest : List Value} {Q1 : Option Value ⊕ Nat → sg_M → Nat → Nat → Prop} (hf : tab k pc = some (sg_callS j n nL)) (hs : (st.take n).reverse = av) (hr : st.drop n = rest) (h1 : av.length = n) (h2 : sg_cs rest ≤ 8) (h3 : sg_cs av ≤ nL) (hm : sg_wp tab hd j 0 (lv_args 0 av) [] M Q1) (h : ∀ r M1 c s, Q1 r M1 c s → sg_aft tab hd k pc L rest Q r M1 c s) : sg_wp tab hd k pc L st M Q :=
  sg_wk hm hf (by subst hr; subst hs; simp only [sg_callS]; rw [if_pos ⟨h1, h2, h3⟩]) h
end
/-- numbers -/
theorem sg_in_lt {x : Int32} {n : Nat} (hn : n < 2 ^ 31) (h1 : ¬ x < 0) (h2 : x < nI n) : sg_in x n = true ∧ x.toNatClampNeg < n := by
  obtain ⟨j, hj, rfl⟩ := nI_of h1
  have hjn : j < n := (nI_ltI hj hn).mp h2
  have hc : (nI j).toNatClampNeg = j := nI_clamp hj
  refine ⟨?_, by rw [hc]; exact hjn⟩
  have h3 := nI_in (c := j) (N := n) hjn hn
  simpa [sg_in] using h3
theorem sg_in_n {j n : Nat} (h : j < n) (hn : n < 2 ^ 31) : sg_in (nI j) n = true := by
  have h3 := nI_in (c := j) (N := n) h hn
  simpa [sg_in] using h3
end SGR
