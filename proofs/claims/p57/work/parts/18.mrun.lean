section SGMB
theorem mt_pre_self {la : Nat → Int32} {na : Nat} : ∀ (d i : Nat) (S : mt_S), d = na - i → i ≤ na → ∃ S1 : mt_S, mt_pre la la na na d i S = (na, S1) ∧ (∀ j, i ≤ j → j < na → S1.1 j = nI j) ∧ (∀ j, j < i → S1.1 j = S.1 j) ∧ S1.2.2 = S.2.2 + nI (na - i) := by
  intro d
  induction d with
  | zero =>
    intro i S hd hi
    have hz : i = na := by omega
    subst hz
    exact ⟨S, by rw [mt_pre], fun j a b => absurd b (by omega), fun _ _ => rfl, by rw [Nat.sub_self]; exact (Int32.add_zero _).symm⟩
  | succ d ih =>
    intro i S hd hi
    have hlt : i < na := by omega
    obtain ⟨S1, h1, h2, h3, h4⟩ := ih (i + 1) (mt_pr S i i) (by omega) (by omega)
    refine ⟨S1, by rw [mt_pre, if_pos ⟨hlt, hlt, rfl⟩]; exact h1, fun j a b => ?_, fun j a => ?_, ?_⟩
    · by_cases z : j = i
      · subst z
        rw [h3 j (by omega)]
        exact if_pos rfl
      · exact h2 j (by omega) b
    · rw [h3 j (by omega)]
      exact if_neg (by omega)
    · rw [h4]
      show S.2.2 + 1 + nI (na - (i + 1)) = _
      rw [Int32.add_assoc, show (1 : Int32) + nI (na - (i + 1)) = nI (1 + (na - (i + 1))) from nI_add 1 _, show 1 + (na - (i + 1)) = na - i by omega]
theorem mt_rn_self (la : Nat → Int32) (na : Nat) : (∀ j, j < na → (mt_rn la la na na).1 j = nI j) ∧ (mt_rn la la na na).2.2 = nI na := by
  obtain ⟨S1, h1, h2, -, h4⟩ := mt_pre_self (la := la) (na := na) na 0 mt_S0 rfl (Nat.zero_le _)
  have e : mt_rn la la na na = S1 := by
    unfold mt_rn
    rw [h1]
    show mt_wk la la na na (na + na) na na S1 = S1
    generalize na + na = d
    cases d with
    | zero => rw [mt_wk]
    | succ d => rw [mt_wk, if_neg (fun z => absurd z.1 (Nat.lt_irrefl _))]
  rw [e]
  exact ⟨fun j hj => h2 j (Nat.zero_le _) hj, by rw [h4]; show (0 : Int32) + nI (na - 0) = _; rw [Nat.sub_zero, Int32.zero_add]⟩
/-- places in the first one only -/
def mt_rg (na : Nat) (S : mt_S) : Prop := ∀ k : Nat, S.2.1 k = -1 ∨ ∃ i : Nat, i < na ∧ S.2.1 k = nI i
theorem mt_rg_pr {na i k : Nat} {S : mt_S} (h : mt_rg na S) (hi : i < na) : mt_rg na (mt_pr S i k) := fun q => by
  show (if q = k then nI i else S.2.1 q) = -1 ∨ ∃ j : Nat, j < na ∧ (if q = k then nI i else S.2.1 q) = nI j
  by_cases z : q = k
  · rw [if_pos z]; exact Or.inr ⟨i, hi, rfl⟩
  · rw [if_neg z]; exact h q
theorem mt_rg_pre {la lb : Nat → Int32} {na nb : Nat} : ∀ (d i : Nat) (S : mt_S), mt_rg na S → mt_rg na (mt_pre la lb na nb d i S).2 := by
  intro d
  induction d with
  | zero => intro i S h; rw [mt_pre]; exact h
  | succ d ih =>
    intro i S h
    rw [mt_pre]
    split
    · rename_i c; exact ih _ _ (mt_rg_pr h c.1)
    · exact h
theorem mt_rg_wk {la lb : Nat → Int32} {na nb : Nat} : ∀ (d i k : Nat) (S : mt_S), mt_rg na S → mt_rg na (mt_wk la lb na nb d i k S) := by
  intro d
  induction d with
  | zero => intro i k S h; rw [mt_wk]; exact h
  | succ d ih =>
    intro i k S h
    rw [mt_wk]
    split
    · rename_i c
      split
      · exact ih _ _ _ (mt_rg_pr h c.1)
      · split
        · exact ih _ _ _ h
        · exact ih _ _ _ h
    · exact h
theorem mt_rn_rg (la lb : Nat → Int32) (na nb : Nat) : mt_rg na (mt_rn la lb na nb) := mt_rg_wk _ _ _ _ (mt_rg_pre _ _ _ (fun _ => Or.inl rfl))
end SGMB
