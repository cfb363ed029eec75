section SGK
/-- a number's kind holds of an int -/
def sg_mt (p : Nat) (x : Int32) : Prop := if p < 16 then (sg_kl p).1 ≤ x.toInt ∧ x.toInt ≤ (sg_kl p).2 else x = Int32.ofNat (p - 16)
/-- what the bound numbers stand for -/
def sg_b (b0 e0 : Nat) (xs : Nat → Int32) (n : Nat) : Nat := if n = 0 then b0 else if n = 1 then e0 else
  (if (sg_kl (n % 16)).1 ≤ (xs (n / 16 - 1)).toInt ∧ (xs (n / 16 - 1)).toInt ≤ (sg_kl (n % 16)).2 then xs (n / 16 - 1) else Int32.ofInt (sg_kl (n % 16)).1).toUInt32.toNat
theorem sg_kl_ok (c : Nat) : -2147483648 ≤ (sg_kl c).1 ∧ (sg_kl c).1 ≤ (sg_kl c).2 ∧ (sg_kl c).2 ≤ 2147483647 := by
  unfold sg_kl
  split <;> decide
theorem sg_b_big {b0 e0 : Nat} {xs : Nat → Int32} {n : Nat} (h : 16 ≤ n) : sg_iv (sg_b b0 e0 xs n) = if (sg_kl (n % 16)).1 ≤ (xs (n / 16 - 1)).toInt ∧ (xs (n / 16 - 1)).toInt ≤ (sg_kl (n % 16)).2 then xs (n / 16 - 1) else Int32.ofInt (sg_kl (n % 16)).1 := by
  unfold sg_b
  rw [if_neg (by omega), if_neg (by omega), sg_iv_of]
theorem sg_b_sy {b0 e0 : Nat} {xs : Nat → Int32} : sg_sy (sg_b b0 e0 xs) := by
  intro n h1 h2
  rw [sg_b_big h1]
  split
  · assumption
  · obtain ⟨k1, k2, k3⟩ := sg_kl_ok (n % 16)
    rw [Int32.toInt_ofInt_of_le (by omega) (by omega)]
    exact ⟨Int.le_refl _, k2⟩
theorem sg_pv_ok {b0 e0 : Nat} {xs : Nat → Int32} {j p : Nat} (hj : j < 6) (hp : sg_mt p (xs j)) : sg_v (sg_b b0 e0 xs) (sg_pv j p) = .int (xs j) ∧ sg_wV sg_pn (sg_pv j p) := by
  unfold sg_mt at hp
  unfold sg_pv
  by_cases h : p < 16
  · rw [if_pos h] at hp
    have hb : Nat.blt p 16 = true := by simpa using h
    rw [hb]
    have e1 : (16 * (j + 1) + p) % 16 = p := by omega
    have e2 : (16 * (j + 1) + p) / 16 - 1 = j := by omega
    refine ⟨?_, fun a e => ?_⟩
    · show Value.int (sg_iv (sg_b b0 e0 xs (16 * (j + 1) + p))) = _
      rw [sg_b_big (by omega), e1, e2, if_pos hp]
    · have e : Value.retAddr (16 * (j + 1) + p) = .ref a ∨ Value.retAddr (16 * (j + 1) + p) = .retAddr a := e
      rcases e with e | e
      · cases e
      · cases e
        show 16 * (j + 1) + p < 128
        omega
  · rw [if_neg h] at hp
    have hb : Nat.blt p 16 = false := by
      cases hz : Nat.blt p 16 with
      | false => rfl
      | true => exact absurd (by simpa using hz) h
    rw [hb]
    refine ⟨?_, fun a e => ?_⟩
    · show Value.int (Int32.ofNat (p - 16)) = _
      rw [hp]
    · have e : Value.int (Int32.ofNat (p - 16)) = .ref a ∨ Value.int (Int32.ofNat (p - 16)) = .retAddr a := e
      rcases e with e | e <;> cases e
/-- partings of all ints -/
def sg_part (c : Nat) : List Nat := match c with
  | 1 => [1, 16, 17, 18, 19, 20, 21, 22, 23, 3]
  | 2 => [1, 2]
  | 3 => [1, 4, 5]
  | 4 => [1, 16, 6]
  | _ => [0]
theorem sg_part_ok (c : Nat) (x : Int32) : ∃ p ∈ sg_part c, sg_mt p x := by
  have hlo := Int32.le_toInt x
  have hhi := Int32.toInt_lt x
  have hc : ∀ v : Nat, v < 8 → x.toInt = (v : Int) → x = Int32.ofNat v := fun v hv h => by
    rw [← Int32.ofInt_toInt x, h]
    rfl
  unfold sg_part
  split
  · by_cases h1 : x.toInt < 0
    · exact ⟨1, by decide, by show -2147483648 ≤ x.toInt ∧ x.toInt ≤ -1; omega⟩
    · by_cases h2 : 8 ≤ x.toInt
      · exact ⟨3, by decide, by show 8 ≤ x.toInt ∧ x.toInt ≤ 2147483647; omega⟩
      · obtain ⟨v, hv⟩ : ∃ v : Nat, x.toInt = (v : Int) := ⟨x.toInt.toNat, by omega⟩
        have hv8 : v < 8 := by omega
        have hx := hc v hv8 hv
        refine ⟨v + 16, ?_, ?_⟩
        · match v, hv8 with
          | 0, _ => decide
          | 1, _ => decide
          | 2, _ => decide
          | 3, _ => decide
          | 4, _ => decide
          | 5, _ => decide
          | 6, _ => decide
          | 7, _ => decide
          | v + 8, hz => exact absurd hz (by omega)
        · unfold sg_mt
          rw [if_neg (by omega), Nat.add_sub_cancel]
          exact hx
  · by_cases h1 : x.toInt < 0
    · exact ⟨1, by decide, by show -2147483648 ≤ x.toInt ∧ x.toInt ≤ -1; omega⟩
    · exact ⟨2, by decide, by show 0 ≤ x.toInt ∧ x.toInt ≤ 2147483647; omega⟩
  · by_cases h1 : x.toInt < 0
    · exact ⟨1, by decide, by show -2147483648 ≤ x.toInt ∧ x.toInt ≤ -1; omega⟩
    · by_cases h2 : x.toInt ≤ 999
      · exact ⟨4, by decide, by show 0 ≤ x.toInt ∧ x.toInt ≤ 999; omega⟩
      · exact ⟨5, by decide, by show 1000 ≤ x.toInt ∧ x.toInt ≤ 2147483647; omega⟩
  · by_cases h1 : x.toInt < 0
    · exact ⟨1, by decide, by show -2147483648 ≤ x.toInt ∧ x.toInt ≤ -1; omega⟩
    · by_cases h2 : x.toInt = 0
      · exact ⟨16, by decide, by show x = Int32.ofNat 0; exact hc 0 (by decide) h2⟩
      · exact ⟨6, by decide, by show 1 ≤ x.toInt ∧ x.toInt ≤ 2147483647; omega⟩
  · exact ⟨0, by decide, by show -2147483648 ≤ x.toInt ∧ x.toInt ≤ 2147483647; omega⟩
end SGK
