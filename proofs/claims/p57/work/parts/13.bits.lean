section SGBT
/-! bits of a long -/
/-- the bit that the class looks at -/
def bt (x : Int64) (i : Int32) : Bool := !decide (lg_cmp (x &&& ((1 : Int64) <<< (i.toInt64 &&& 63))) 0 = 0)
theorem bt_f {x : Int64} {i : Int32} (h : lg_cmp (x &&& ((1 : Int64) <<< (i.toInt64 &&& 63))) 0 = 0) : bt x i = false := by simp [bt, h]
theorem bt_t {x : Int64} {i : Int32} (h : ¬ lg_cmp (x &&& ((1 : Int64) <<< (i.toInt64 &&& 63))) 0 = 0) : bt x i = true := by simp [bt, h]
theorem bt_one : ∀ j : Fin 64, ((1 : Int64) <<< ((nI j.val).toInt64 &&& 63)).toBitVec = 1#64 <<< j.val := by decide +kernel
theorem bt_one2 : ∀ j k : Fin 64, (1#64 <<< j.val).getLsbD k.val = decide (k = j) := by decide +kernel
theorem lg_cmp0 (x y : Int64) : lg_cmp x y = 0 ↔ x = y := by
  unfold lg_cmp
  split
  · rename_i h
    exact ⟨fun z => absurd z (by decide), fun z => by subst z; exact absurd h Int64.lt_irrefl⟩
  · split
    · rename_i h; exact ⟨fun _ => h, fun _ => rfl⟩
    · rename_i h; exact ⟨fun z => absurd z (by decide), fun z => absurd z h⟩
theorem bt_get {x : Int64} {j : Nat} (hj : j < 64) : bt x (nI j) = x.toBitVec.getLsbD j := by
  have h1 := bt_one ⟨j, hj⟩
  have key : lg_cmp (x &&& ((1 : Int64) <<< ((nI j).toInt64 &&& 63))) 0 = 0 ↔ x.toBitVec.getLsbD j = false := by
    rw [lg_cmp0]
    have h2 : (x &&& ((1 : Int64) <<< ((nI j).toInt64 &&& 63)) = 0) ↔ (x.toBitVec &&& (1#64 <<< j) = 0#64) := by
      rw [← Int64.toBitVec_inj, Int64.toBitVec_and, h1]
      exact Iff.rfl
    rw [h2]
    constructor
    · intro h
      have h3 := congrArg (fun z => z.getLsbD j) h
      simp only [BitVec.getLsbD_and] at h3
      rw [bt_one2 ⟨j, hj⟩ ⟨j, hj⟩] at h3
      simpa using h3
    · intro h
      apply BitVec.eq_of_getLsbD_eq
      intro k hk
      rw [BitVec.getLsbD_and, bt_one2 ⟨j, hj⟩ ⟨k, hk⟩]
      by_cases hkj : k = j
      · subst hkj; simp [h]
      · simp [hkj]
  unfold bt
  cases hb : x.toBitVec.getLsbD j with
  | false => simp [key.mpr hb]
  | true =>
    have : ¬ lg_cmp (x &&& ((1 : Int64) <<< ((nI j).toInt64 &&& 63))) 0 = 0 := fun z => by rw [key.mp z] at hb; cases hb
    simp [this]
theorem bt_or {x y : Int64} {j : Nat} (hj : j < 64) : bt (x ||| y) (nI j) = (bt x (nI j) || bt y (nI j)) := by
  rw [bt_get hj, bt_get hj, bt_get hj, Int64.toBitVec_or, BitVec.getLsbD_or]
theorem bt_and {x y : Int64} {j : Nat} (hj : j < 64) : bt (x &&& y) (nI j) = (bt x (nI j) && bt y (nI j)) := by
  rw [bt_get hj, bt_get hj, bt_get hj, Int64.toBitVec_and, BitVec.getLsbD_and]
theorem bt_notx {x : Int64} {j : Nat} (hj : j < 64) : bt (x ^^^ (-1)) (nI j) = !bt x (nI j) := by
  have h : ∀ k : Fin 64, ((-1 : Int64).toBitVec).getLsbD k.val = true := by decide +kernel
  rw [bt_get hj, bt_get hj, Int64.toBitVec_xor, BitVec.getLsbD_xor, h ⟨j, hj⟩]
  simp
theorem bt_0 {j : Nat} (hj : j < 64) : bt 0 (nI j) = false := by
  rw [bt_get hj]
  simp
theorem bt_1 {i j : Nat} (hi : i < 64) (hj : j < 64) : bt ((1 : Int64) <<< ((nI i).toInt64 &&& 63)) (nI j) = decide (j = i) := by
  rw [bt_get hj, bt_one ⟨i, hi⟩, bt_one2 ⟨i, hi⟩ ⟨j, hj⟩]
  simp
theorem bt_low {n j : Nat} (hn : n ≤ 60) (hj : j < 64) : bt (((1 : Int64) <<< ((nI n).toInt64 &&& 63)) - 1) (nI j) = decide (j < n) := by
  have h : ∀ (n : Fin 61) (j : Fin 64), (((1 : Int64) <<< ((nI n.val).toInt64 &&& 63)) - 1).toBitVec.getLsbD j.val = decide (j.val < n.val) := by decide +kernel
  rw [bt_get hj]
  exact h ⟨n, by omega⟩ ⟨j, hj⟩
theorem bt_ext {x y : Int64} (h : ∀ j : Nat, j < 64 → bt x (nI j) = bt y (nI j)) : x = y := by
  rw [← Int64.toBitVec_inj]
  apply BitVec.eq_of_getLsbD_eq
  intro j hj
  rw [← bt_get hj, ← bt_get hj]
  exact h j hj
theorem bt_self (x : Int64) : x &&& (x ^^^ (-1)) = 0 := bt_ext fun j hj => by
  rw [bt_and hj, bt_notx hj, bt_0 hj]
  cases bt x (nI j) <;> rfl
/-- the greatest bit below i -/
def gr (x : Int64) : Nat → Int32
  | 0 => -1
  | i + 1 => if bt x (nI i) = true then nI i else gr x i
theorem gr_max {x : Int64} {c : Nat} (h1 : bt x (nI c) = true) : ∀ n, c < n → (∀ j, c < j → j < n → bt x (nI j) = false) → gr x n = nI c := by
  intro n
  induction n with
  | zero => intro h; exact absurd h (Nat.not_lt_zero _)
  | succ n ih =>
    intro h2 h3
    unfold gr
    by_cases hc : c = n
    · subst hc; rw [if_pos h1]
    · rw [if_neg (by rw [h3 n (by omega) (Nat.lt_succ_self n)]; decide)]
      exact ih (by omega) (fun j a b => h3 j a (by omega))
theorem gr_bit {x : Int64} : ∀ n, n ≤ 64 → (gr x n = -1 ∧ ∀ j, j < n → bt x (nI j) = false) ∨ ∃ c, c < n ∧ gr x n = nI c ∧ bt x (nI c) = true := by
  intro n
  induction n with
  | zero => intro _; exact Or.inl ⟨rfl, fun j h => absurd h (Nat.not_lt_zero j)⟩
  | succ n ih =>
    intro h
    unfold gr
    by_cases hc : bt x (nI n) = true
    · rw [if_pos hc]; exact Or.inr ⟨n, Nat.lt_succ_self n, rfl, hc⟩
    · rw [if_neg hc]
      rcases ih (by omega) with ⟨a, b⟩ | ⟨c, a, b, d⟩
      · exact Or.inl ⟨a, fun j hj => by
          rcases Nat.lt_succ_iff_lt_or_eq.mp hj with z | z
          · exact b j z
          · rw [z]; simpa using hc⟩
      · exact Or.inr ⟨c, by omega, b, d⟩
end SGBT
