section SGR
section
variable {tab : Nat → Nat → Option sg_F} {hd : Nat → Nat → Nat → Option (Option Nat)} {k pc : Nat} {L : sg_L} {st r : List Value} {M : sg_M} {Q : Option Value ⊕ Nat → sg_M → Nat → Nat → Prop}
/-- some steps at once that make nothing -/
def sg_rs (tab : Nat → Nat → Option sg_F) (k : Nat) : Nat → Nat → sg_L → List Value → sg_M → Option (Nat × sg_L × List Value × sg_M)
  | 0, pc, L, st, M => some (pc, L, st, M)
  | n + 1, pc, L, st, M => match tab k pc with
    | some f => match f L st M with
      | some (.inl (pc1, L1, st1, M1, 0, 0)) => sg_rs tab k n pc1 L1 st1 M1
      | _ => none
    | none => none
theorem sg_wr (n : Nat) {pc1 : Nat} {L1 : sg_L} {st1 : List Value} {M1 : sg_M} (h : sg_rs tab k n pc L st M = some (pc1, L1, st1, M1)) (hw : sg_wp tab hd k pc1 L1 st1 M1 Q) : sg_wp tab hd k pc L st M Q := by
  induction n generalizing pc L st M with
  | zero => cases h; exact hw
  | succ n ih =>
    unfold sg_rs at h
    split at h
    · rename_i f hf
      split at h
      · rename_i hs
        exact sg_w0 hf hs (ih h)
      · cases h
    · cases h
/-- a branch -/
theorem sg_wb {c : Prop} [Decidable c] {f : sg_F} {p1 p2 : Nat} {L1 L2 : sg_L} {s1 s2 : List Value} {M1 M2 : sg_M} (hf : tab k pc = some f) (hs : f L st M = if c then sg_go p1 L1 s1 M1 else sg_go p2 L2 s2 M2) (h1 : c → sg_wp tab hd k p1 L1 s1 M1 Q) (h2 : ¬ c → sg_wp tab hd k p2 L2 s2 M2 Q) : sg_wp tab hd k pc L st M Q := by
  by_cases hc : c
  · rw [if_pos hc] at hs; exact sg_w0 hf hs (h1 hc)
  · rw [if_neg hc] at hs; exact sg_w0 hf hs (h2 hc)
theorem sg_r_getf {a ci f : Nat} {fs : List Value} {v : Value} (hf : tab k pc = some (sg_getf pc ci f)) (hM : M.1 a = some (.inr (ci, fs))) (hv : fs[f]? = some v) (h : sg_wp tab hd k (pc + 3) L (v :: r) M Q) : sg_wp tab hd k pc L (.ref a :: r) M Q :=
  sg_w0 hf (by simp [sg_getf, hM, hv, sg_go]) h
theorem sg_r_putf {a ci f : Nat} {fs : List Value} {v : Value} {ty : FieldType} (hf : tab k pc = some (sg_putf pc ci f ty)) (hM : M.1 a = some (.inr (ci, fs))) (hl : f < fs.length) (hk : sg_kd ty v = true) (h : sg_wp tab hd k (pc + 3) L r (sg_up M.1 a (.inr (ci, fs.set f v)), M.2) Q) : sg_wp tab hd k pc L (v :: .ref a :: r) M Q :=
  sg_w0 hf (by simp [sg_putf, hM, hl, hk]) h
theorem sg_r_iald {Ls : Nat} {xs : Nat → Int32} {a n : Nat} {i : Int32} {g : Nat → Int32} (hf : tab k pc = some (sg_iald Ls xs pc)) (ha : a ≠ 0) (hM : M.1 a = some (.inl (0, n, .inl g))) (hi : sg_in i n = true) (h : sg_wp tab hd k (pc + 1) L (.int (g i.toNatClampNeg) :: r) M Q) : sg_wp tab hd k pc L (.int i :: .ref a :: r) M Q :=
  sg_w0 hf (by simp [sg_iald, ha, hM, hi, sg_go]) h
theorem sg_r_iast {a n : Nat} {i x : Int32} {g : Nat → Int32} (hf : tab k pc = some (sg_iast pc)) (hM : M.1 a = some (.inl (0, n, .inl g))) (hi : sg_in i n = true) (h : sg_wp tab hd k (pc + 1) L r (sg_up M.1 a (.inl (0, n, .inl (upd g i.toNatClampNeg x))), M.2) Q) : sg_wp tab hd k pc L (.int x :: .int i :: .ref a :: r) M Q :=
  sg_w0 hf (by simp [sg_iast, hM, hi]) h
theorem sg_r_alen {Ls : Nat} {a n : Nat} {g : Nat → Int32} (hf : tab k pc = some (sg_alen Ls pc)) (ha : a ≠ 0) (hM : M.1 a = some (.inl (0, n, .inl g))) (h : sg_wp tab hd k (pc + 1) L (.int (Int32.ofNat n) :: r) M Q) : sg_wp tab hd k pc L (.ref a :: r) M Q :=
  sg_w0 hf (by simp [sg_alen, ha, hM, sg_go]) h
theorem sg_r_aald {a n t : Nat} {i : Int32} {g : Nat → Option Nat} (hf : tab k pc = some (sg_aald pc t)) (hM : M.1 a = some (.inl (t, n, .inr (.inr (.inr (.inr g)))))) (hi : sg_in i n = true) (h : sg_wp tab hd k (pc + 1) L (va_rf (g i.toNatClampNeg) :: r) M Q) : sg_wp tab hd k pc L (.int i :: .ref a :: r) M Q :=
  sg_w0 hf (by simp [sg_aald, hM, hi, sg_go]) h
theorem sg_r_aast {a v n t ci : Nat} {i : Int32} {g : Nat → Option Nat} {fs : List Value} (hf : tab k pc = some (sg_aast pc t ci)) (hM : M.1 a = some (.inl (t, n, .inr (.inr (.inr (.inr g)))))) (hV : M.1 v = some (.inr (ci, fs))) (hi : sg_in i n = true) (h : sg_wp tab hd k (pc + 1) L r (sg_up M.1 a (.inl (t, n, .inr (.inr (.inr (.inr (va_up g i.toNatClampNeg (some v))))))), M.2) Q) : sg_wp tab hd k pc L (.ref v :: .int i :: .ref a :: r) M Q :=
  sg_w0 hf (by simp [sg_aast, hM, hV, hi]) h
theorem sg_r_copy {P : sg_P} {a a0 n0 n1 : Nat} {f g : Nat → Int32} {n sp dp : Int32} (hf : tab k pc = some (sg_copy pc P k)) (h0 : M.1 a0 = some (.inl (0, n0, .inl f))) (h1 : M.1 a = some (.inl (0, n1, .inl g))) (hb : ¬ (sp < 0 ∨ dp < 0 ∨ n < 0 ∨ n0 < sp.toNatClampNeg + n.toNatClampNeg ∨ n1 < dp.toNatClampNeg + n.toNatClampNeg ∨ sg_fr P k < 1 ∨ sg_lo P k < (r.map fun v => v.category).sum + (nativeFrameWords "java/lang/System" "arraycopy" 5 + 11))) (h : sg_wp tab hd k (pc + 3) L r (sg_up M.1 a (.inl (0, n1, .inl (va_cpy f g sp.toNatClampNeg dp.toNatClampNeg n.toNatClampNeg))), M.2) Q) : sg_wp tab hd k pc L (.int n :: .int dp :: .ref a :: .int sp :: .ref a0 :: r) M Q :=
  sg_w0 hf (by simp only [sg_copy, h0, h1]; rw [if_neg hb]) h
theorem sg_r_thr {P : sg_P} {E : Nat} (hf : tab k pc = some (sg_thr P k E)) (hl : sg_cs st + 82 ≤ sg_lo P k) (h : Q (.inr E) M 1 6) : sg_wp tab hd k pc L st M Q :=
  sg_wt hf (by unfold sg_thr; rw [if_pos hl]) h
theorem sg_r_irem {x y : Int32} (hf : tab k pc = some (sg_irem pc)) (hy : ¬ y = 0) (h : sg_wp tab hd k (pc + 1) L (.int (x - x / y * y) :: r) M Q) : sg_wp tab hd k pc L (.int y :: .int x :: r) M Q :=
  sg_w0 hf (by unfold sg_irem; simp only; rw [if_neg hy]; rfl) h
/-- a virtual call, by what is known of the callee -/
theorem sg_r_callV {j n ci nL a : Nat} {fs As rest : List Value} {Q1 : Option Value ⊕ Nat → sg_M → Nat → Nat → Prop} (hf : tab k pc = some (sg_callV j n ci nL)) (hs : (st.take n).reverse = .ref a :: As) (hr : st.drop n = rest) (hM : M.1 a = some (.inr (ci, fs))) (h1 : As.length + 1 = n) (h2 : sg_cs rest ≤ 8) (h3 : sg_cs (.ref a :: As) ≤ nL) (hm : sg_wp tab hd j 0 (lv_args 0 (.ref a :: As)) [] M Q1) (h : ∀ r M1 c s, Q1 r M1 c s → sg_aft tab hd k pc L rest Q r M1 c s) : sg_wp tab hd k pc L st M Q :=
  sg_wk hm hf (by subst hr; simp only [sg_callV, hs, hM]; rw [if_pos ⟨trivial, h1, h2, h3⟩]) h
theorem sg_r_callS {j n nL : Nat} {av rest : List Value} {Q1 : Option Value ⊕ Nat → sg_M → Nat → Nat → Prop} (hf : tab k pc = some (sg_callS j n nL)) (hs : (st.take n).reverse = av) (hr : st.drop n = rest) (h1 : av.length = n) (h2 : sg_cs rest ≤ 8) (h3 : sg_cs av ≤ nL) (hm : sg_wp tab hd j 0 (lv_args 0 av) [] M Q1) (h : ∀ r M1 c s, Q1 r M1 c s → sg_aft tab hd k pc L rest Q r M1 c s) : sg_wp tab hd k pc L st M Q :=
  sg_wk hm hf (by subst hr; subst hs; simp only [sg_callS]; rw [if_pos ⟨h1, h2, h3⟩]) h
theorem sg_r_callI {j n nL a : Nat} {As rest : List Value} {Q1 : Option Value ⊕ Nat → sg_M → Nat → Nat → Prop} (hf : tab k pc = some (sg_callI j n nL)) (hs : (st.take n).reverse = .ref a :: As) (hr : st.drop n = rest) (h1 : As.length + 1 = n) (h2 : sg_cs rest ≤ 8) (h3 : sg_cs (.ref a :: As) ≤ nL) (hm : sg_wp tab hd j 0 (lv_args 0 (.ref a :: As)) [] M Q1) (h : ∀ r M1 c s, Q1 r M1 c s → sg_aft tab hd k pc L rest Q r M1 c s) : sg_wp tab hd k pc L st M Q :=
  sg_wk hm hf (by subst hr; simp only [sg_callI, hs]; rw [if_pos ⟨h1, h2, h3⟩]) h
abbrev sg_eq (v : Option Value) (M : sg_M) : Option Value ⊕ Nat → sg_M → Nat → Nat → Prop := fun r M1 c s => r = .inl v ∧ M1 = M ∧ c = 0 ∧ s = 0
theorem sg_a0 {rest : List Value} {v : Option Value} (h : sg_wp tab hd k (pc + 3) L (v.toList ++ rest) M Q) : sg_aft tab hd k pc L rest Q (.inl v) M 0 0 := h.mono fun r M c s q => by rw [Nat.zero_add, Nat.zero_add]; exact q
theorem sg_p_callV {j n ci nL a : Nat} {fs As rest : List Value} {v : Option Value} {M1 : sg_M} (hf : tab k pc = some (sg_callV j n ci nL)) (hs : (st.take n).reverse = .ref a :: As) (hr : st.drop n = rest) (hM : M.1 a = some (.inr (ci, fs))) (h1 : As.length + 1 = n) (h2 : sg_cs rest ≤ 8) (h3 : sg_cs (.ref a :: As) ≤ nL) (hm : sg_wp tab hd j 0 (lv_args 0 (.ref a :: As)) [] M (sg_eq v M1)) (h : sg_wp tab hd k (pc + 3) L (v.toList ++ rest) M1 Q) : sg_wp tab hd k pc L st M Q :=
  sg_r_callV hf hs hr hM h1 h2 h3 hm (by rintro _ _ _ _ ⟨rfl, rfl, rfl, rfl⟩; exact sg_a0 h)
theorem sg_p_callS {j n nL : Nat} {av rest : List Value} {v : Option Value} {M1 : sg_M} (hf : tab k pc = some (sg_callS j n nL)) (hs : (st.take n).reverse = av) (hr : st.drop n = rest) (h1 : av.length = n) (h2 : sg_cs rest ≤ 8) (h3 : sg_cs av ≤ nL) (hm : sg_wp tab hd j 0 (lv_args 0 av) [] M (sg_eq v M1)) (h : sg_wp tab hd k (pc + 3) L (v.toList ++ rest) M1 Q) : sg_wp tab hd k pc L st M Q :=
  sg_r_callS hf hs hr h1 h2 h3 hm (by rintro _ _ _ _ ⟨rfl, rfl, rfl, rfl⟩; exact sg_a0 h)
theorem sg_upup {f : Nat → Option sg_E} {a : Nat} {e1 e2 : sg_E} : sg_up (sg_up f a e1) a e2 = sg_up f a e2 := by
  funext q
  show (if q = a then some e2 else if q = a then some e1 else f q) = if q = a then some e2 else f q
  by_cases h : q = a
  · rw [if_pos h, if_pos h]
  · rw [if_neg h, if_neg h, if_neg h]
theorem sg_upcomm {f : Nat → Option sg_E} {a b : Nat} {e1 e2 : sg_E} (h : a ≠ b) : sg_up (sg_up f a e1) b e2 = sg_up (sg_up f b e2) a e1 := by
  funext q
  show (if q = b then some e2 else if q = a then some e1 else f q) = if q = a then some e1 else if q = b then some e2 else f q
  by_cases h1 : q = a
  · by_cases h2 : q = b
    · exact absurd (h1.symm.trans h2) h
    · rw [if_neg h2, if_pos h1, if_pos h1]
  · by_cases h2 : q = b
    · rw [if_pos h2, if_neg h1, if_pos h2]
    · rw [if_neg h2, if_neg h1, if_neg h1, if_neg h2]
theorem sg_upself {f : Nat → Option sg_E} {a : Nat} {e : sg_E} : sg_up f a e a = some e := if_pos rfl
theorem sg_upne {f : Nat → Option sg_E} {a q : Nat} {e : sg_E} (h : q ≠ a) : sg_up f a e q = f q := if_neg h
theorem sg_upsame {f : Nat → Option sg_E} {a : Nat} {e : sg_E} (h : f a = some e) : sg_up f a e = f := by
  funext q
  show (if q = a then some e else f q) = f q
  by_cases hq : q = a
  · rw [if_pos hq, hq, h]
  · rw [if_neg hq]
end
/-- numbers -/
theorem sg_in_lt {x : Int32} {n : Nat} (hn : n < 2 ^ 31) (h1 : ¬ x < 0) (h2 : x < nI n) : sg_in x n = true ∧ x.toNatClampNeg < n := by
  obtain ⟨j, hj, rfl⟩ := nI_of h1
  have hjn : j < n := (nI_ltI hj hn).mp h2
  have hc : (nI j).toNatClampNeg = j := nI_clamp hj
  refine ⟨?_, by rw [hc]; exact hjn⟩
  have h3 := nI_in (c := j) (N := n) hjn hn
  simpa [sg_in] using h3
theorem sg_in_ge {x : Int32} {n : Nat} (hn : n < 2 ^ 31) (h1 : ¬ x < 0) (h2 : ¬ nI n ≤ x) : sg_in x n = true := (sg_in_lt hn h1 (Int32.not_le.mp h2)).1
theorem sg_in_n {j n : Nat} (h : j < n) (hn : n < 2 ^ 31) : sg_in (nI j) n = true := by
  have h3 := nI_in (c := j) (N := n) h hn
  simpa [sg_in] using h3
/-- memory is as it was but for the cells F -/
def sg_out (F : List Nat) (M M1 : sg_M) : Prop := (∀ q, q ∉ F → M1.1 q = M.1 q) ∧ M1.2 = M.2
theorem sg_out.rf {F : List Nat} {M : sg_M} : sg_out F M M := ⟨fun _ _ => rfl, rfl⟩
theorem sg_out.tr {F G : List Nat} {M M1 M2 : sg_M} (h1 : sg_out F M M1) (h2 : sg_out G M1 M2) (hG : ∀ q ∈ G, q ∈ F) : sg_out F M M2 := ⟨fun q hq => (h2.1 q (fun z => hq (hG q z))).trans (h1.1 q hq), h2.2.trans h1.2⟩
theorem sg_out.mono {F G : List Nat} {M M1 : sg_M} (h : sg_out F M M1) (hG : ∀ q ∈ F, q ∈ G) : sg_out G M M1 := ⟨fun q hq => h.1 q (fun z => hq (hG q z)), h.2⟩
theorem sg_out.up {F : List Nat} {M M1 : sg_M} (h : sg_out F M M1) {a : Nat} {e : sg_E} (ha : a ∈ F) : sg_out F M (sg_up M1.1 a e, M1.2) := ⟨fun q hq => (sg_upne (fun z => hq (by rw [z]; exact ha))).trans (h.1 q hq), h.2⟩
end SGR
