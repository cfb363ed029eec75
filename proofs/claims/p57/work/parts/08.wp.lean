section SGW
/-- more steps change nothing -/
theorem sg_more {tab : Nat → Nat → Option sg_F} {hd : Nat → Nat → Nat → Option (Option Nat)} : ∀ (n k pc : Nat) (L : sg_L) (st : List Value) (M : sg_M) (r : sg_R), sg_ev tab hd n k pc L st M = some r → sg_ev tab hd (n + 1) k pc L st M = some r := by
  intro n
  induction n with
  | zero => intro k pc L st M r h; cases h
  | succ n ih =>
    intro k pc L st M r h
    rw [sg_ev] at h ⊢
    split at h
    · cases h
    · rename_i f hf
      (try rw [hf])
      (try dsimp only)
      split at h
      · cases h
      · rename_i pc1 L1 st1 M1 dc ds hfe
        (try rw [hfe])
        (try dsimp only)
        split at h
        · cases h
        · rename_i r2 M2 c2 s2 h2
          rw [ih _ _ _ _ _ _ h2]
          exact h
      · rename_i j av rest hfe
        (try rw [hfe])
        (try dsimp only)
        split at h
        · cases h
        · rename_i v M1 c1 s1 h1
          rw [ih _ _ _ _ _ _ h1]
          (try dsimp only)
          split at h
          · cases h
          · rename_i r2 M2 c2 s2 h2
            rw [ih _ _ _ _ _ _ h2]
            exact h
        · rename_i E M1 c1 s1 h1
          rw [ih _ _ _ _ _ _ h1]
          (try dsimp only)
          split at h
          · cases h
          · rename_i hh
            (try rw [hh])
            exact h
          · rename_i hh0 hh
            (try rw [hh])
            (try dsimp only)
            split at h
            · cases h
            · rename_i r2 M2 c2 s2 h2
              rw [ih _ _ _ _ _ _ h2]
              exact h
      · rename_i v hfe
        (try rw [hfe])
        exact h
      · rename_i E hfe
        (try rw [hfe])
        exact h
theorem sg_mores {tab : Nat → Nat → Option sg_F} {hd : Nat → Nat → Nat → Option (Option Nat)} {n k pc : Nat} {L : sg_L} {st : List Value} {M : sg_M} {r : sg_R} (h : sg_ev tab hd n k pc L st M = some r) (i : Nat) : sg_ev tab hd (n + i) k pc L st M = some r := by
  induction i with
  | zero => exact h
  | succ i ih => exact sg_more _ _ _ _ _ _ _ ih
/-- from here a run ends, and its end is so -/
def sg_wp (tab : Nat → Nat → Option sg_F) (hd : Nat → Nat → Nat → Option (Option Nat)) (k pc : Nat) (L : sg_L) (st : List Value) (M : sg_M) (Q : Option Value ⊕ Nat → sg_M → Nat → Nat → Prop) : Prop :=
  ∃ (n : Nat) (r : Option Value ⊕ Nat) (M1 : sg_M) (c s : Nat), sg_ev tab hd n k pc L st M = some (r, M1, c, s) ∧ Q r M1 c s
section
variable {tab : Nat → Nat → Option sg_F} {hd : Nat → Nat → Nat → Option (Option Nat)} {k pc : Nat} {L : sg_L} {st : List Value} {M : sg_M} {Q : Option Value ⊕ Nat → sg_M → Nat → Nat → Prop}
theorem sg_wp.mono {Q1 : Option Value ⊕ Nat → sg_M → Nat → Nat → Prop} (h : sg_wp tab hd k pc L st M Q1) (hq : ∀ r M1 c s, Q1 r M1 c s → Q r M1 c s) : sg_wp tab hd k pc L st M Q := by
  obtain ⟨n, r, M1, c, s, h1, h2⟩ := h
  exact ⟨n, r, M1, c, s, h1, hq _ _ _ _ h2⟩
/-- a step -/
theorem sg_wn {f : sg_F} {pc1 : Nat} {L1 : sg_L} {st1 : List Value} {M1 : sg_M} {dc ds : Nat} (hf : tab k pc = some f) (hs : f L st M = some (.inl (pc1, L1, st1, M1, dc, ds))) (h : sg_wp tab hd k pc1 L1 st1 M1 (fun r M c s => Q r M (dc + c) (ds + s))) : sg_wp tab hd k pc L st M Q := by
  obtain ⟨n, r, M2, c, s, h1, h2⟩ := h
  refine ⟨n + 1, r, M2, dc + c, ds + s, ?_, h2⟩
  rw [sg_ev, hf]
  dsimp only
  rw [hs]
  dsimp only
  rw [h1]
/-- a step that makes nothing -/
theorem sg_w0 {f : sg_F} {pc1 : Nat} {L1 : sg_L} {st1 : List Value} {M1 : sg_M} (hf : tab k pc = some f) (hs : f L st M = some (.inl (pc1, L1, st1, M1, 0, 0))) (h : sg_wp tab hd k pc1 L1 st1 M1 Q) : sg_wp tab hd k pc L st M Q :=
  sg_wn hf hs (h.mono fun r M c s q => by rw [Nat.zero_add, Nat.zero_add]; exact q)
/-- an end -/
theorem sg_we {f : sg_F} {v : Option Value} (hf : tab k pc = some f) (hs : f L st M = some (.inr (.inr (.inl v)))) (h : Q (.inl v) M 0 0) : sg_wp tab hd k pc L st M Q := by
  refine ⟨1, .inl v, M, 0, 0, ?_, h⟩
  rw [sg_ev, hf]
  dsimp only
  rw [hs]
/-- a throw -/
theorem sg_wt {f : sg_F} {E : Nat} (hf : tab k pc = some f) (hs : f L st M = some (.inr (.inr (.inr E)))) (h : Q (.inr E) M 1 6) : sg_wp tab hd k pc L st M Q := by
  refine ⟨1, .inr E, M, 1, 6, ?_, h⟩
  rw [sg_ev, hf]
  dsimp only
  rw [hs]
/-- a call: what the callee brings about, then the rest -/
def sg_aft (tab : Nat → Nat → Option sg_F) (hd : Nat → Nat → Nat → Option (Option Nat)) (k pc : Nat) (L : sg_L) (rest : List Value) (Q : Option Value ⊕ Nat → sg_M → Nat → Nat → Prop) : Option Value ⊕ Nat → sg_M → Nat → Nat → Prop := fun r M1 c1 s1 => match r with
  | .inl v => sg_wp tab hd k (pc + 3) L (v.toList ++ rest) M1 (fun r M c s => Q r M (c1 + c) (s1 + s))
  | .inr E => match hd k pc E with
    | none => False
    | some none => Q (.inr E) M1 c1 s1
    | some (some h) => sg_wp tab hd k h L [.ref M1.2] (M1.1, M1.2 + 1) (fun r M c s => Q r M (c1 + c) (s1 + s))
theorem sg_wc {f : sg_F} {j : Nat} {av rest : List Value} (hf : tab k pc = some f) (hs : f L st M = some (.inr (.inl (j, av, rest)))) (h : sg_wp tab hd j 0 (lv_args 0 av) [] M (sg_aft tab hd k pc L rest Q)) : sg_wp tab hd k pc L st M Q := by
  obtain ⟨n, r, M1, c1, s1, h1, h2⟩ := h
  have start : ∀ i, sg_ev tab hd (n + i + 1) k pc L st M = match (some (r, M1, c1, s1) : Option sg_R) with
        | none => none
        | some (.inl v, M1, c1, s1) => match sg_ev tab hd (n + i) k (pc + 3) L (v.toList ++ rest) M1 with
          | none => none
          | some (r, M2, c, s) => some (r, M2, c1 + c, s1 + s)
        | some (.inr E, M1, c1, s1) => match hd k pc E with
          | none => none
          | some none => some (.inr E, M1, c1, s1)
          | some (some h) => match sg_ev tab hd (n + i) k h L [.ref M1.2] (M1.1, M1.2 + 1) with
            | none => none
            | some (r, M2, c, s) => some (r, M2, c1 + c, s1 + s) := by
    intro i
    rw [sg_ev, hf]
    dsimp only
    rw [hs]
    dsimp only
    rw [sg_mores h1 i]
    cases r <;> rfl
  cases r with
  | inl v =>
    obtain ⟨n2, r2, M2, c2, s2, h3, h4⟩ := h2
    refine ⟨n + n2 + 1, r2, M2, c1 + c2, s1 + s2, ?_, h4⟩
    rw [start n2]
    dsimp only
    rw [Nat.add_comm n n2, sg_mores h3 n]
  | inr E =>
    have h2 : (match hd k pc E with
      | none => False
      | some none => Q (.inr E) M1 c1 s1
      | some (some h) => sg_wp tab hd k h L [.ref M1.2] (M1.1, M1.2 + 1) (fun r M c s => Q r M (c1 + c) (s1 + s))) := h2
    split at h2
    · exact h2.elim
    · rename_i hh
      refine ⟨n + 0 + 1, .inr E, M1, c1, s1, ?_, h2⟩
      rw [start 0]
      dsimp only
      rw [hh]
    · rename_i h hh
      obtain ⟨n2, r2, M2, c2, s2, h3, h4⟩ := h2
      refine ⟨n + n2 + 1, r2, M2, c1 + c2, s1 + s2, ?_, h4⟩
      rw [start n2]
      dsimp only
      rw [hh]
      dsimp only
      rw [Nat.add_comm n n2, sg_mores h3 n]
/-- a call by what is known of the callee -/
theorem sg_wk {f : sg_F} {j : Nat} {av rest : List Value} {Q1 : Option Value ⊕ Nat → sg_M → Nat → Nat → Prop} (hm : sg_wp tab hd j 0 (lv_args 0 av) [] M Q1) (hf : tab k pc = some f) (hs : f L st M = some (.inr (.inl (j, av, rest)))) (h : ∀ r M1 c s, Q1 r M1 c s → sg_aft tab hd k pc L rest Q r M1 c s) : sg_wp tab hd k pc L st M Q := sg_wc hf hs (hm.mono h)
end
end SGW
