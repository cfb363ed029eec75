section SGI
def sg_Nx : List (String × String) := [("java/lang/IllegalStateException", "java/lang/IndexOutOfBoundsException"), ("java/lang/IllegalArgumentException", "java/lang/IndexOutOfBoundsException"), ("java/lang/IllegalStateException", "java/lang/IllegalArgumentException"), ("java/lang/IndexOutOfBoundsException", "java/lang/IllegalStateException"), ("java/lang/IllegalArgumentException", "java/lang/IllegalStateException")]
def sg_HE (k pc E h : Nat) : Prop := ∃ (pre : List ExceptionTableEntry) (x : ExceptionTableEntry) (suf : List ExceptionTableEntry) (nm : String), tableOf (sg_hh sg_Pg k) = pre ++ x :: suf ∧ x.handlerPc = h ∧ covers x pc = true ∧ x.catchType ≠ 0 ∧ Cond.classLink (sg_Y sg_Pg k).cls x.catchType nm ∈ sg_Tw ∧ Cond.castable (sg_nm E) nm ∈ sg_Tw ∧
    ∀ z ∈ pre, covers z pc = false ∨ (z.catchType ≠ 0 ∧ ∃ n1 : String, Cond.classLink (sg_Y sg_Pg k).cls z.catchType n1 ∈ sg_Tw ∧ (sg_nm E, n1) ∈ sg_Nx)
def sg_HP (k pc E : Nat) (o : Option (Option Nat)) : Prop := (o = some none → False) ∧ ∀ h, o = some (some h) → sg_HE k pc E h
theorem sg_HP.no {k pc E : Nat} : sg_HP k pc E none := ⟨fun h => (by cases h), fun h e => (by cases e)⟩
theorem sg_HP.nd {k pc E : Nat} {c : Bool} {A B : Option (Option Nat)} (h1 : sg_HP k pc E A) (h2 : sg_HP k pc E B) : sg_HP k pc E (bif c then A else B) := by
  cases c
  · exact h2
  · exact h1
theorem sg_HP.lk {k n pc E : Nat} {A : Option (Option Nat)} (h : sg_HP n pc E A) : sg_HP k pc E (bif Nat.beq k n then A else none) := by
  cases hb : Nat.beq k n with
  | false => exact .no
  | true => rw [Nat.eq_of_beq_eq_true hb]; exact h
theorem sg_HP.lf {k p0 E0 pc E h : Nat} {B : Option (Option Nat)} (h1 : sg_HE k p0 E0 h) (h2 : sg_HP k pc E B) : sg_HP k pc E (bif Nat.beq pc p0 && Nat.beq E E0 then some (some h) else B) := by
  cases hb : Nat.beq pc p0 with
  | false => exact h2
  | true => cases hb2 : Nat.beq E E0 with
    | false => exact h2
    | true =>
      rw [Nat.eq_of_beq_eq_true hb, Nat.eq_of_beq_eq_true hb2]
      exact ⟨fun z => (by cases z), fun h' e => by cases e; exact h1⟩
theorem sg_hl175_0 : sg_HE 175 4 0 12 := ⟨[], ⟨0, 9, 12, 13⟩, [⟨0, 9, 15, 15⟩], "java/lang/IndexOutOfBoundsException", rfl, rfl, by decide, by decide, sg_wd576, sg_wd456, fun _ h => nomatch h⟩
theorem sg_hl175_2 : sg_HE 175 4 2 15 := ⟨[⟨0, 9, 12, 13⟩], ⟨0, 9, 15, 15⟩, [], "java/lang/IllegalStateException", rfl, rfl, by decide, by decide, sg_wd577, sg_wd592, List.forall_mem_cons.mpr ⟨Or.inr ⟨by decide, "java/lang/IndexOutOfBoundsException", sg_wd576, by decide +kernel⟩, fun _ h => nomatch h⟩⟩
theorem sg_hl176_0 : sg_HE 176 4 0 12 := ⟨[], ⟨0, 9, 12, 13⟩, [⟨0, 9, 15, 15⟩], "java/lang/IndexOutOfBoundsException", rfl, rfl, by decide, by decide, sg_wd576, sg_wd456, fun _ h => nomatch h⟩
theorem sg_hl176_2 : sg_HE 176 4 2 15 := ⟨[⟨0, 9, 12, 13⟩], ⟨0, 9, 15, 15⟩, [], "java/lang/IllegalStateException", rfl, rfl, by decide, by decide, sg_wd577, sg_wd592, List.forall_mem_cons.mpr ⟨Or.inr ⟨by decide, "java/lang/IndexOutOfBoundsException", sg_wd576, by decide +kernel⟩, fun _ h => nomatch h⟩⟩
theorem sg_hl177_0 : sg_HE 177 7 0 15 := ⟨[], ⟨0, 12, 15, 13⟩, [⟨0, 12, 19, 24⟩, ⟨0, 12, 23, 15⟩], "java/lang/IndexOutOfBoundsException", rfl, rfl, by decide, by decide, sg_wd576, sg_wd456, fun _ h => nomatch h⟩
theorem sg_hl177_1 : sg_HE 177 7 1 19 := ⟨[⟨0, 12, 15, 13⟩], ⟨0, 12, 19, 24⟩, [⟨0, 12, 23, 15⟩], "java/lang/IllegalArgumentException", rfl, rfl, by decide, by decide, sg_wd634, sg_wd644, List.forall_mem_cons.mpr ⟨Or.inr ⟨by decide, "java/lang/IndexOutOfBoundsException", sg_wd576, by decide +kernel⟩, fun _ h => nomatch h⟩⟩
theorem sg_hl177_2 : sg_HE 177 7 2 23 := ⟨[⟨0, 12, 15, 13⟩, ⟨0, 12, 19, 24⟩], ⟨0, 12, 23, 15⟩, [], "java/lang/IllegalStateException", rfl, rfl, by decide, by decide, sg_wd577, sg_wd592, List.forall_mem_cons.mpr ⟨Or.inr ⟨by decide, "java/lang/IndexOutOfBoundsException", sg_wd576, by decide +kernel⟩, List.forall_mem_cons.mpr ⟨Or.inr ⟨by decide, "java/lang/IllegalArgumentException", sg_wd634, by decide +kernel⟩, fun _ h => nomatch h⟩⟩⟩
theorem sg_hl178_0 : sg_HE 178 5 0 13 := ⟨[], ⟨0, 10, 13, 13⟩, [⟨0, 10, 17, 15⟩], "java/lang/IndexOutOfBoundsException", rfl, rfl, by decide, by decide, sg_wd576, sg_wd456, fun _ h => nomatch h⟩
theorem sg_hl178_2 : sg_HE 178 5 2 17 := ⟨[⟨0, 10, 13, 13⟩], ⟨0, 10, 17, 15⟩, [], "java/lang/IllegalStateException", rfl, rfl, by decide, by decide, sg_wd577, sg_wd592, List.forall_mem_cons.mpr ⟨Or.inr ⟨by decide, "java/lang/IndexOutOfBoundsException", sg_wd576, by decide +kernel⟩, fun _ h => nomatch h⟩⟩
theorem sg_hl179_0 : sg_HE 179 7 0 15 := ⟨[], ⟨0, 12, 15, 13⟩, [⟨0, 12, 19, 24⟩, ⟨0, 12, 23, 15⟩], "java/lang/IndexOutOfBoundsException", rfl, rfl, by decide, by decide, sg_wd576, sg_wd456, fun _ h => nomatch h⟩
theorem sg_hl179_1 : sg_HE 179 7 1 19 := ⟨[⟨0, 12, 15, 13⟩], ⟨0, 12, 19, 24⟩, [⟨0, 12, 23, 15⟩], "java/lang/IllegalArgumentException", rfl, rfl, by decide, by decide, sg_wd634, sg_wd644, List.forall_mem_cons.mpr ⟨Or.inr ⟨by decide, "java/lang/IndexOutOfBoundsException", sg_wd576, by decide +kernel⟩, fun _ h => nomatch h⟩⟩
theorem sg_hl179_2 : sg_HE 179 7 2 23 := ⟨[⟨0, 12, 15, 13⟩, ⟨0, 12, 19, 24⟩], ⟨0, 12, 23, 15⟩, [], "java/lang/IllegalStateException", rfl, rfl, by decide, by decide, sg_wd577, sg_wd592, List.forall_mem_cons.mpr ⟨Or.inr ⟨by decide, "java/lang/IndexOutOfBoundsException", sg_wd576, by decide +kernel⟩, List.forall_mem_cons.mpr ⟨Or.inr ⟨by decide, "java/lang/IllegalArgumentException", sg_wd634, by decide +kernel⟩, fun _ h => nomatch h⟩⟩⟩
theorem sg_hl180_2 : sg_HE 180 3 2 11 := ⟨[], ⟨0, 8, 11, 15⟩, [], "java/lang/IllegalStateException", rfl, rfl, by decide, by decide, sg_wd577, sg_wd592, fun _ h => nomatch h⟩
theorem sg_hl181_1 : sg_HE 181 4 1 12 := ⟨[], ⟨0, 9, 12, 24⟩, [⟨0, 9, 15, 15⟩], "java/lang/IllegalArgumentException", rfl, rfl, by decide, by decide, sg_wd634, sg_wd644, fun _ h => nomatch h⟩
theorem sg_hl181_2 : sg_HE 181 4 2 15 := ⟨[⟨0, 9, 12, 24⟩], ⟨0, 9, 15, 15⟩, [], "java/lang/IllegalStateException", rfl, rfl, by decide, by decide, sg_wd577, sg_wd592, List.forall_mem_cons.mpr ⟨Or.inr ⟨by decide, "java/lang/IllegalArgumentException", sg_wd634, by decide +kernel⟩, fun _ h => nomatch h⟩⟩
theorem sg_hl182_1 : sg_HE 182 4 1 12 := ⟨[], ⟨0, 9, 12, 24⟩, [⟨0, 9, 15, 15⟩], "java/lang/IllegalArgumentException", rfl, rfl, by decide, by decide, sg_wd634, sg_wd644, fun _ h => nomatch h⟩
theorem sg_hl182_2 : sg_HE 182 4 2 15 := ⟨[⟨0, 9, 12, 24⟩], ⟨0, 9, 15, 15⟩, [], "java/lang/IllegalStateException", rfl, rfl, by decide, by decide, sg_wd577, sg_wd592, List.forall_mem_cons.mpr ⟨Or.inr ⟨by decide, "java/lang/IllegalArgumentException", sg_wd634, by decide +kernel⟩, fun _ h => nomatch h⟩⟩
theorem sg_hl183_0 : sg_HE 183 4 0 12 := ⟨[], ⟨0, 9, 12, 13⟩, [⟨0, 9, 15, 15⟩], "java/lang/IndexOutOfBoundsException", rfl, rfl, by decide, by decide, sg_wd576, sg_wd456, fun _ h => nomatch h⟩
theorem sg_hl183_2 : sg_HE 183 4 2 15 := ⟨[⟨0, 9, 12, 13⟩], ⟨0, 9, 15, 15⟩, [], "java/lang/IllegalStateException", rfl, rfl, by decide, by decide, sg_wd577, sg_wd592, List.forall_mem_cons.mpr ⟨Or.inr ⟨by decide, "java/lang/IndexOutOfBoundsException", sg_wd576, by decide +kernel⟩, fun _ h => nomatch h⟩⟩
theorem sg_hl184_0 : sg_HE 184 4 0 12 := ⟨[], ⟨0, 9, 12, 13⟩, [⟨0, 9, 15, 15⟩], "java/lang/IndexOutOfBoundsException", rfl, rfl, by decide, by decide, sg_wd576, sg_wd456, fun _ h => nomatch h⟩
theorem sg_hl184_2 : sg_HE 184 4 2 15 := ⟨[⟨0, 9, 12, 13⟩], ⟨0, 9, 15, 15⟩, [], "java/lang/IllegalStateException", rfl, rfl, by decide, by decide, sg_wd577, sg_wd592, List.forall_mem_cons.mpr ⟨Or.inr ⟨by decide, "java/lang/IndexOutOfBoundsException", sg_wd576, by decide +kernel⟩, fun _ h => nomatch h⟩⟩
theorem sg_hl185_0 : sg_HE 185 4 0 12 := ⟨[], ⟨0, 9, 12, 13⟩, [⟨0, 9, 15, 15⟩], "java/lang/IndexOutOfBoundsException", rfl, rfl, by decide, by decide, sg_wd576, sg_wd456, fun _ h => nomatch h⟩
theorem sg_hl185_2 : sg_HE 185 4 2 15 := ⟨[⟨0, 9, 12, 13⟩], ⟨0, 9, 15, 15⟩, [], "java/lang/IllegalStateException", rfl, rfl, by decide, by decide, sg_wd577, sg_wd592, List.forall_mem_cons.mpr ⟨Or.inr ⟨by decide, "java/lang/IndexOutOfBoundsException", sg_wd576, by decide +kernel⟩, fun _ h => nomatch h⟩⟩
theorem sg_hl186_2 : sg_HE 186 3 2 11 := ⟨[], ⟨0, 8, 11, 15⟩, [], "java/lang/IllegalStateException", rfl, rfl, by decide, by decide, sg_wd577, sg_wd592, fun _ h => nomatch h⟩
theorem sg_hl187_0 : sg_HE 187 4 0 12 := ⟨[], ⟨0, 9, 12, 13⟩, [⟨0, 9, 15, 15⟩], "java/lang/IndexOutOfBoundsException", rfl, rfl, by decide, by decide, sg_wd576, sg_wd456, fun _ h => nomatch h⟩
theorem sg_hl187_2 : sg_HE 187 4 2 15 := ⟨[⟨0, 9, 12, 13⟩], ⟨0, 9, 15, 15⟩, [], "java/lang/IllegalStateException", rfl, rfl, by decide, by decide, sg_wd577, sg_wd592, List.forall_mem_cons.mpr ⟨Or.inr ⟨by decide, "java/lang/IndexOutOfBoundsException", sg_wd576, by decide +kernel⟩, fun _ h => nomatch h⟩⟩
theorem sg_hl188_0 : sg_HE 188 4 0 12 := ⟨[], ⟨0, 9, 12, 13⟩, [⟨0, 9, 15, 15⟩], "java/lang/IndexOutOfBoundsException", rfl, rfl, by decide, by decide, sg_wd576, sg_wd456, fun _ h => nomatch h⟩
theorem sg_hl188_2 : sg_HE 188 4 2 15 := ⟨[⟨0, 9, 12, 13⟩], ⟨0, 9, 15, 15⟩, [], "java/lang/IllegalStateException", rfl, rfl, by decide, by decide, sg_wd577, sg_wd592, List.forall_mem_cons.mpr ⟨Or.inr ⟨by decide, "java/lang/IndexOutOfBoundsException", sg_wd576, by decide +kernel⟩, fun _ h => nomatch h⟩⟩
theorem sg_hl189_0 : sg_HE 189 4 0 12 := ⟨[], ⟨0, 9, 12, 13⟩, [⟨0, 9, 15, 15⟩], "java/lang/IndexOutOfBoundsException", rfl, rfl, by decide, by decide, sg_wd576, sg_wd456, fun _ h => nomatch h⟩
theorem sg_hl189_2 : sg_HE 189 4 2 15 := ⟨[⟨0, 9, 12, 13⟩], ⟨0, 9, 15, 15⟩, [], "java/lang/IllegalStateException", rfl, rfl, by decide, by decide, sg_wd577, sg_wd592, List.forall_mem_cons.mpr ⟨Or.inr ⟨by decide, "java/lang/IndexOutOfBoundsException", sg_wd576, by decide +kernel⟩, fun _ h => nomatch h⟩⟩
theorem sg_hl190_0 : sg_HE 190 4 0 12 := ⟨[], ⟨0, 9, 12, 13⟩, [⟨0, 9, 15, 15⟩], "java/lang/IndexOutOfBoundsException", rfl, rfl, by decide, by decide, sg_wd576, sg_wd456, fun _ h => nomatch h⟩
theorem sg_hl190_2 : sg_HE 190 4 2 15 := ⟨[⟨0, 9, 12, 13⟩], ⟨0, 9, 15, 15⟩, [], "java/lang/IllegalStateException", rfl, rfl, by decide, by decide, sg_wd577, sg_wd592, List.forall_mem_cons.mpr ⟨Or.inr ⟨by decide, "java/lang/IndexOutOfBoundsException", sg_wd576, by decide +kernel⟩, fun _ h => nomatch h⟩⟩
theorem sg_hl191_0 : sg_HE 191 5 0 17 := ⟨[⟨0, 10, 13, 15⟩], ⟨0, 10, 17, 13⟩, [⟨0, 10, 21, 24⟩], "java/lang/IndexOutOfBoundsException", rfl, rfl, by decide, by decide, sg_wd576, sg_wd456, List.forall_mem_cons.mpr ⟨Or.inr ⟨by decide, "java/lang/IllegalStateException", sg_wd577, by decide +kernel⟩, fun _ h => nomatch h⟩⟩
theorem sg_hl191_1 : sg_HE 191 5 1 21 := ⟨[⟨0, 10, 13, 15⟩, ⟨0, 10, 17, 13⟩], ⟨0, 10, 21, 24⟩, [], "java/lang/IllegalArgumentException", rfl, rfl, by decide, by decide, sg_wd634, sg_wd644, List.forall_mem_cons.mpr ⟨Or.inr ⟨by decide, "java/lang/IllegalStateException", sg_wd577, by decide +kernel⟩, List.forall_mem_cons.mpr ⟨Or.inr ⟨by decide, "java/lang/IndexOutOfBoundsException", sg_wd576, by decide +kernel⟩, fun _ h => nomatch h⟩⟩⟩
theorem sg_hl191_2 : sg_HE 191 5 2 13 := ⟨[], ⟨0, 10, 13, 15⟩, [⟨0, 10, 17, 13⟩, ⟨0, 10, 21, 24⟩], "java/lang/IllegalStateException", rfl, rfl, by decide, by decide, sg_wd577, sg_wd592, fun _ h => nomatch h⟩
theorem sg_hl192_2 : sg_HE 192 3 2 11 := ⟨[], ⟨0, 8, 11, 15⟩, [], "java/lang/IllegalStateException", rfl, rfl, by decide, by decide, sg_wd577, sg_wd592, fun _ h => nomatch h⟩
theorem sg_hl193_2 : sg_HE 193 3 2 11 := ⟨[], ⟨0, 8, 11, 15⟩, [], "java/lang/IllegalStateException", rfl, rfl, by decide, by decide, sg_wd577, sg_wd592, fun _ h => nomatch h⟩
theorem sg_hl194_0 : sg_HE 194 4 0 12 := ⟨[], ⟨0, 9, 12, 13⟩, [], "java/lang/IndexOutOfBoundsException", rfl, rfl, by decide, by decide, sg_wd576, sg_wd456, fun _ h => nomatch h⟩
theorem sg_hl195_0 : sg_HE 195 5 0 13 := ⟨[], ⟨0, 10, 13, 13⟩, [], "java/lang/IndexOutOfBoundsException", rfl, rfl, by decide, by decide, sg_wd576, sg_wd456, fun _ h => nomatch h⟩
theorem sg_hl196_0 : sg_HE 196 7 0 15 := ⟨[], ⟨0, 12, 15, 13⟩, [], "java/lang/IndexOutOfBoundsException", rfl, rfl, by decide, by decide, sg_wd576, sg_wd456, fun _ h => nomatch h⟩
theorem sg_hl197_0 : sg_HE 197 4 0 12 := ⟨[], ⟨0, 9, 12, 13⟩, [], "java/lang/IndexOutOfBoundsException", rfl, rfl, by decide, by decide, sg_wd576, sg_wd456, fun _ h => nomatch h⟩
theorem sg_hl198_0 : sg_HE 198 5 0 13 := ⟨[], ⟨0, 10, 13, 13⟩, [], "java/lang/IndexOutOfBoundsException", rfl, rfl, by decide, by decide, sg_wd576, sg_wd456, fun _ h => nomatch h⟩
theorem sg_hl199_0 : sg_HE 199 4 0 19 := ⟨[], ⟨0, 16, 19, 13⟩, [], "java/lang/IndexOutOfBoundsException", rfl, rfl, by decide, by decide, sg_wd576, sg_wd456, fun _ h => nomatch h⟩
theorem sg_hl200_0 : sg_HE 200 5 0 13 := ⟨[], ⟨0, 10, 13, 13⟩, [], "java/lang/IndexOutOfBoundsException", rfl, rfl, by decide, by decide, sg_wd576, sg_wd456, fun _ h => nomatch h⟩
theorem sg_hl201_0 : sg_HE 201 4 0 12 := ⟨[], ⟨0, 9, 12, 13⟩, [], "java/lang/IndexOutOfBoundsException", rfl, rfl, by decide, by decide, sg_wd576, sg_wd456, fun _ h => nomatch h⟩
theorem sg_hl202_0 : sg_HE 202 5 0 13 := ⟨[], ⟨0, 10, 13, 13⟩, [], "java/lang/IndexOutOfBoundsException", rfl, rfl, by decide, by decide, sg_wd576, sg_wd456, fun _ h => nomatch h⟩
theorem sg_hl203_0 : sg_HE 203 7 0 15 := ⟨[], ⟨0, 12, 15, 13⟩, [], "java/lang/IndexOutOfBoundsException", rfl, rfl, by decide, by decide, sg_wd576, sg_wd456, fun _ h => nomatch h⟩
theorem sg_hl204_0 : sg_HE 204 5 0 20 := ⟨[], ⟨0, 17, 20, 13⟩, [], "java/lang/IndexOutOfBoundsException", rfl, rfl, by decide, by decide, sg_wd576, sg_wd456, fun _ h => nomatch h⟩
theorem sg_hl205_0 : sg_HE 205 5 0 13 := ⟨[], ⟨0, 10, 13, 13⟩, [], "java/lang/IndexOutOfBoundsException", rfl, rfl, by decide, by decide, sg_wd576, sg_wd456, fun _ h => nomatch h⟩
theorem sg_hl206_0 : sg_HE 206 5 0 13 := ⟨[], ⟨0, 10, 13, 13⟩, [], "java/lang/IndexOutOfBoundsException", rfl, rfl, by decide, by decide, sg_wd576, sg_wd456, fun _ h => nomatch h⟩
theorem sg_hl207_0 : sg_HE 207 5 0 13 := ⟨[], ⟨0, 10, 13, 13⟩, [], "java/lang/IndexOutOfBoundsException", rfl, rfl, by decide, by decide, sg_wd576, sg_wd456, fun _ h => nomatch h⟩
theorem sg_hl208_0 : sg_HE 208 7 0 15 := ⟨[], ⟨0, 12, 15, 13⟩, [], "java/lang/IndexOutOfBoundsException", rfl, rfl, by decide, by decide, sg_wd576, sg_wd456, fun _ h => nomatch h⟩
theorem sg_hl209_0 : sg_HE 209 9 0 17 := ⟨[], ⟨0, 14, 17, 13⟩, [], "java/lang/IndexOutOfBoundsException", rfl, rfl, by decide, by decide, sg_wd576, sg_wd456, fun _ h => nomatch h⟩
theorem sg_hl210_0 : sg_HE 210 7 0 15 := ⟨[], ⟨0, 12, 15, 13⟩, [], "java/lang/IndexOutOfBoundsException", rfl, rfl, by decide, by decide, sg_wd576, sg_wd456, fun _ h => nomatch h⟩
theorem sg_hl211_0 : sg_HE 211 4 0 12 := ⟨[], ⟨0, 9, 12, 13⟩, [], "java/lang/IndexOutOfBoundsException", rfl, rfl, by decide, by decide, sg_wd576, sg_wd456, fun _ h => nomatch h⟩
theorem sg_hl212_0 : sg_HE 212 5 0 13 := ⟨[], ⟨0, 10, 13, 13⟩, [⟨0, 10, 17, 24⟩], "java/lang/IndexOutOfBoundsException", rfl, rfl, by decide, by decide, sg_wd576, sg_wd456, fun _ h => nomatch h⟩
theorem sg_hl212_1 : sg_HE 212 5 1 17 := ⟨[⟨0, 10, 13, 13⟩], ⟨0, 10, 17, 24⟩, [], "java/lang/IllegalArgumentException", rfl, rfl, by decide, by decide, sg_wd634, sg_wd644, List.forall_mem_cons.mpr ⟨Or.inr ⟨by decide, "java/lang/IndexOutOfBoundsException", sg_wd576, by decide +kernel⟩, fun _ h => nomatch h⟩⟩
theorem sg_hl213_2 : sg_HE 213 4 2 12 := ⟨[], ⟨0, 9, 12, 15⟩, [], "java/lang/IllegalStateException", rfl, rfl, by decide, by decide, sg_wd577, sg_wd592, fun _ h => nomatch h⟩
theorem sg_hl214_0 : sg_HE 214 4 0 12 := ⟨[], ⟨0, 9, 12, 13⟩, [⟨0, 9, 15, 15⟩], "java/lang/IndexOutOfBoundsException", rfl, rfl, by decide, by decide, sg_wd576, sg_wd456, fun _ h => nomatch h⟩
theorem sg_hl214_2 : sg_HE 214 4 2 15 := ⟨[⟨0, 9, 12, 13⟩], ⟨0, 9, 15, 15⟩, [], "java/lang/IllegalStateException", rfl, rfl, by decide, by decide, sg_wd577, sg_wd592, List.forall_mem_cons.mpr ⟨Or.inr ⟨by decide, "java/lang/IndexOutOfBoundsException", sg_wd576, by decide +kernel⟩, fun _ h => nomatch h⟩⟩
theorem sg_hl215_0 : sg_HE 215 4 0 12 := ⟨[], ⟨0, 9, 12, 13⟩, [⟨0, 9, 15, 15⟩], "java/lang/IndexOutOfBoundsException", rfl, rfl, by decide, by decide, sg_wd576, sg_wd456, fun _ h => nomatch h⟩
theorem sg_hl215_2 : sg_HE 215 4 2 15 := ⟨[⟨0, 9, 12, 13⟩], ⟨0, 9, 15, 15⟩, [], "java/lang/IllegalStateException", rfl, rfl, by decide, by decide, sg_wd577, sg_wd592, List.forall_mem_cons.mpr ⟨Or.inr ⟨by decide, "java/lang/IndexOutOfBoundsException", sg_wd576, by decide +kernel⟩, fun _ h => nomatch h⟩⟩
theorem sg_hxok (k pc E : Nat) : sg_HP k pc E (sg_hx k pc E) := (.nd (.nd (.nd (.nd (.nd (.nd (.lk (.lf sg_hl215_0 (.lf sg_hl215_2 .no))) (.lk (.lf sg_hl214_0 (.lf sg_hl214_2 .no)))) (.lk (.lf sg_hl213_2 .no))) (.nd (.nd (.lk (.lf sg_hl212_0 (.lf sg_hl212_1 .no))) (.lk (.lf sg_hl211_0 .no))) (.lk (.lf sg_hl210_0 .no)))) (.nd (.nd (.nd (.lk (.lf sg_hl209_0 .no)) (.lk (.lf sg_hl208_0 .no))) (.lk (.lf sg_hl207_0 .no))) (.nd (.lk (.lf sg_hl206_0 .no)) (.lk (.lf sg_hl205_0 .no))))) (.nd (.nd (.nd (.nd (.lk (.lf sg_hl204_0 .no)) (.lk (.lf sg_hl203_0 .no))) (.lk (.lf sg_hl202_0 .no))) (.nd (.lk (.lf sg_hl201_0 .no)) (.lk (.lf sg_hl200_0 .no)))) (.nd (.nd (.nd (.lk (.lf sg_hl199_0 .no)) (.lk (.lf sg_hl198_0 .no))) (.lk (.lf sg_hl197_0 .no))) (.nd (.lk (.lf sg_hl196_0 .no)) (.lk (.lf sg_hl195_0 .no)))))) (.nd (.nd (.nd (.nd (.nd (.lk (.lf sg_hl194_0 .no)) (.lk (.lf sg_hl193_2 .no))) (.lk (.lf sg_hl192_2 .no))) (.nd (.lk (.lf sg_hl191_0 (.lf sg_hl191_1 (.lf sg_hl191_2 .no)))) (.lk (.lf sg_hl190_0 (.lf sg_hl190_2 .no))))) (.nd (.nd (.nd (.lk (.lf sg_hl189_0 (.lf sg_hl189_2 .no))) (.lk (.lf sg_hl188_0 (.lf sg_hl188_2 .no)))) (.lk (.lf sg_hl187_0 (.lf sg_hl187_2 .no)))) (.nd (.lk (.lf sg_hl186_2 .no)) (.lk (.lf sg_hl185_0 (.lf sg_hl185_2 .no)))))) (.nd (.nd (.nd (.nd (.lk (.lf sg_hl184_0 (.lf sg_hl184_2 .no))) (.lk (.lf sg_hl183_0 (.lf sg_hl183_2 .no)))) (.lk (.lf sg_hl182_1 (.lf sg_hl182_2 .no)))) (.nd (.lk (.lf sg_hl181_1 (.lf sg_hl181_2 .no))) (.lk (.lf sg_hl180_2 .no)))) (.nd (.nd (.nd (.lk (.lf sg_hl179_0 (.lf sg_hl179_1 (.lf sg_hl179_2 .no)))) (.lk (.lf sg_hl178_0 (.lf sg_hl178_2 .no)))) (.lk (.lf sg_hl177_0 (.lf sg_hl177_1 (.lf sg_hl177_2 .no))))) (.nd (.lk (.lf sg_hl176_0 (.lf sg_hl176_2 .no))) (.lk (.lf sg_hl175_0 (.lf sg_hl175_2 .no))))))))
theorem sg_hhd : sg_Hd sg_hd sg_Nx sg_Pg sg_Tw := by
  intro k pc E
  unfold sg_hd
  cases h1 : Nat.ble 175 k with
  | false =>
    refine ⟨fun _ z hz => ?_, fun h e => by cases e⟩
    have h9 : sg_hh sg_Pg k = [] := by
      show sg_pH k = []
      unfold sg_pH
      rw [h1]
      rfl
    rw [h9] at hz
    cases hz
  | true =>
    cases h2 : Nat.blt k 216 with
    | false => exact ⟨fun e => (by cases e), fun h e => (by cases e)⟩
    | true =>
      obtain ⟨g1, g2⟩ := sg_hxok k pc E
      exact ⟨fun e => (g1 e).elim, fun h e => g2 h e⟩
end SGI
