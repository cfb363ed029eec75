section SGH
theorem sg_mono {t0 t1 : Nat → Nat → Option sg_F} {hd : Nat → Nat → Nat → Option (Option Nat)} (hs : ∀ k pc f, t0 k pc = some f → t1 k pc = some f) : ∀ (n m : Nat), n ≤ m → ∀ (k pc : Nat) (L : sg_L) (st : List Value) (M : sg_M) (r : sg_R), sg_ev t0 hd n k pc L st M = some r → sg_ev t1 hd m k pc L st M = some r := by
  intro n
  induction n with
  | zero => intro m _ k pc L st M r h; cases h
  | succ n ih =>
    intro m hm k pc L st M r h
    obtain ⟨m, rfl⟩ : ∃ q, m = q + 1 := ⟨m - 1, by omega⟩
    have ih := ih m (by omega)
    rw [sg_ev] at h ⊢
    split at h
    · cases h
    · rename_i f hf
      rw [hs _ _ _ hf]
      (try dsimp only)
      split at h
      · cases h
      · rename_i pc1 L1 st1 M1 dc ds hfe
        (try rw [hfe])
        (try dsimp only)
        split at h
        · cases h
        · rename_i r2 M2 c2 s2 h2
          rw [ih _ _ _ _ _ _ h2]
          exact h
      · rename_i j av rest hfe
        (try rw [hfe])
        (try dsimp only)
        split at h
        · cases h
        · rename_i v M1 c1 s1 h1
          rw [ih _ _ _ _ _ _ h1]
          (try dsimp only)
          split at h
          · cases h
          · rename_i r2 M2 c2 s2 h2
            rw [ih _ _ _ _ _ _ h2]
            exact h
        · rename_i E M1 c1 s1 h1
          rw [ih _ _ _ _ _ _ h1]
          (try dsimp only)
          split at h
          · cases h
          · rename_i hh
            (try rw [hh])
            exact h
          · rename_i hh0 hh
            (try rw [hh])
            (try dsimp only)
            split at h
            · cases h
            · rename_i r2 M2 c2 s2 h2
              rw [ih _ _ _ _ _ _ h2]
              exact h
      · rename_i v hfe
        (try rw [hfe])
        exact h
      · rename_i E hfe
        (try rw [hfe])
        exact h
/-- a run up to a place in the same method -/
def sg_pre (tab : Nat → Nat → Option sg_F) (hd : Nat → Nat → Nat → Option (Option Nat)) (stop : Nat) : Nat → Nat → Nat → sg_L → List Value → sg_M → Option (sg_L × List Value × sg_M × Nat × Nat)
  | 0, _, _, _, _, _ => none
  | n + 1, k, pc, L, st, M => if pc = stop then some (L, st, M, 0, 0) else
    match tab k pc with
    | none => none
    | some f => match f L st M with
      | some (.inl (pc1, L1, st1, M1, dc, ds)) => match sg_pre tab hd stop n k pc1 L1 st1 M1 with
        | none => none
        | some (L2, st2, M2, c, s) => some (L2, st2, M2, dc + c, ds + s)
      | some (.inr (.inl (j, av, rest))) => match sg_ev tab hd n j 0 (lv_args 0 av) [] M with
        | some (.inl v, M1, c1, s1) => match sg_pre tab hd stop n k (pc + 3) L (v.toList ++ rest) M1 with
          | none => none
          | some (L2, st2, M2, c, s) => some (L2, st2, M2, c1 + c, s1 + s)
        | _ => none
      | _ => none
theorem sg_pre_ev {t0 t1 : Nat → Nat → Option sg_F} {hd : Nat → Nat → Nat → Option (Option Nat)} (hs : ∀ k pc f, t0 k pc = some f → t1 k pc = some f) {stop n2 : Nat} : ∀ (n k pc : Nat) (L : sg_L) (st : List Value) (M : sg_M) (L1 : sg_L) (st1 : List Value) (M1 : sg_M) (c s : Nat) (r : Option Value ⊕ Nat) (M2 : sg_M) (c2 s2 : Nat), sg_pre t0 hd stop n k pc L st M = some (L1, st1, M1, c, s) → sg_ev t1 hd n2 k stop L1 st1 M1 = some (r, M2, c2, s2) → sg_ev t1 hd (n + n2) k pc L st M = some (r, M2, c + c2, s + s2) := by
  intro n
  induction n with
  | zero => intro k pc L st M L1 st1 M1 c s r M2 c2 s2 h; cases h
  | succ n ih =>
    intro k pc L st M L1 st1 M1 c s r M2 c2 s2 h h2
    rw [sg_pre] at h
    split at h
    · rename_i hpc
      cases h
      subst hpc
      rw [Nat.zero_add, Nat.zero_add]
      exact sg_mono (fun _ _ _ h => h) _ _ (by omega) _ _ _ _ _ _ h2
    · rw [show n + 1 + n2 = (n + n2) + 1 by omega, sg_ev]
      split at h
      · cases h
      · rename_i f hf
        rw [hs _ _ _ hf]
        dsimp only
        split at h
        · rename_i pc1 L9 st9 M9 dc ds hfe
          rw [hfe]
          dsimp only
          split at h
          · cases h
          · rename_i L3 st3 M3 c3 s3 h3
            cases h
            rw [ih _ _ _ _ _ _ _ _ _ _ _ _ _ _ h3 h2]
            dsimp only
            rw [Nat.add_assoc, Nat.add_assoc]
        · rename_i j av rest hfe
          rw [hfe]
          dsimp only
          split at h
          · rename_i v M9 c9 s9 h9
            rw [sg_mono hs _ (n + n2) (by omega) _ _ _ _ _ _ h9]
            dsimp only
            split at h
            · cases h
            · rename_i L3 st3 M3 c3 s3 h3
              cases h
              rw [ih _ _ _ _ _ _ _ _ _ _ _ _ _ _ h3 h2]
              dsimp only
              rw [Nat.add_assoc, Nat.add_assoc]
          · cases h
        · cases h
def sg_hx (k pc E : Nat) : Option (Option Nat) := (bif Nat.ble 195 k then (bif Nat.ble 205 k then (bif Nat.ble 210 k then (bif Nat.ble 213 k then (bif Nat.ble 214 k then (bif Nat.ble 215 k then (bif Nat.beq k 215 then (bif Nat.beq pc 4 && Nat.beq E 0 then some (some 12) else (bif Nat.beq pc 4 && Nat.beq E 2 then some (some 15) else none)) else none) else (bif Nat.beq k 214 then (bif Nat.beq pc 4 && Nat.beq E 0 then some (some 12) else (bif Nat.beq pc 4 && Nat.beq E 2 then some (some 15) else none)) else none)) else (bif Nat.beq k 213 then (bif Nat.beq pc 4 && Nat.beq E 2 then some (some 12) else none) else none)) else (bif Nat.ble 211 k then (bif Nat.ble 212 k then (bif Nat.beq k 212 then (bif Nat.beq pc 5 && Nat.beq E 0 then some (some 13) else (bif Nat.beq pc 5 && Nat.beq E 1 then some (some 17) else none)) else none) else (bif Nat.beq k 211 then (bif Nat.beq pc 4 && Nat.beq E 0 then some (some 12) else none) else none)) else (bif Nat.beq k 210 then (bif Nat.beq pc 7 && Nat.beq E 0 then some (some 15) else none) else none))) else (bif Nat.ble 207 k then (bif Nat.ble 208 k then (bif Nat.ble 209 k then (bif Nat.beq k 209 then (bif Nat.beq pc 9 && Nat.beq E 0 then some (some 17) else none) else none) else (bif Nat.beq k 208 then (bif Nat.beq pc 7 && Nat.beq E 0 then some (some 15) else none) else none)) else (bif Nat.beq k 207 then (bif Nat.beq pc 5 && Nat.beq E 0 then some (some 13) else none) else none)) else (bif Nat.ble 206 k then (bif Nat.beq k 206 then (bif Nat.beq pc 5 && Nat.beq E 0 then some (some 13) else none) else none) else (bif Nat.beq k 205 then (bif Nat.beq pc 5 && Nat.beq E 0 then some (some 13) else none) else none)))) else (bif Nat.ble 200 k then (bif Nat.ble 202 k then (bif Nat.ble 203 k then (bif Nat.ble 204 k then (bif Nat.beq k 204 then (bif Nat.beq pc 5 && Nat.beq E 0 then some (some 20) else none) else none) else (bif Nat.beq k 203 then (bif Nat.beq pc 7 && Nat.beq E 0 then some (some 15) else none) else none)) else (bif Nat.beq k 202 then (bif Nat.beq pc 5 && Nat.beq E 0 then some (some 13) else none) else none)) else (bif Nat.ble 201 k then (bif Nat.beq k 201 then (bif Nat.beq pc 4 && Nat.beq E 0 then some (some 12) else none) else none) else (bif Nat.beq k 200 then (bif Nat.beq pc 5 && Nat.beq E 0 then some (some 13) else none) else none))) else (bif Nat.ble 197 k then (bif Nat.ble 198 k then (bif Nat.ble 199 k then (bif Nat.beq k 199 then (bif Nat.beq pc 4 && Nat.beq E 0 then some (some 19) else none) else none) else (bif Nat.beq k 198 then (bif Nat.beq pc 5 && Nat.beq E 0 then some (some 13) else none) else none)) else (bif Nat.beq k 197 then (bif Nat.beq pc 4 && Nat.beq E 0 then some (some 12) else none) else none)) else (bif Nat.ble 196 k then (bif Nat.beq k 196 then (bif Nat.beq pc 7 && Nat.beq E 0 then some (some 15) else none) else none) else (bif Nat.beq k 195 then (bif Nat.beq pc 5 && Nat.beq E 0 then some (some 13) else none) else none))))) else (bif Nat.ble 185 k then (bif Nat.ble 190 k then (bif Nat.ble 192 k then (bif Nat.ble 193 k then (bif Nat.ble 194 k then (bif Nat.beq k 194 then (bif Nat.beq pc 4 && Nat.beq E 0 then some (some 12) else none) else none) else (bif Nat.beq k 193 then (bif Nat.beq pc 3 && Nat.beq E 2 then some (some 11) else none) else none)) else (bif Nat.beq k 192 then (bif Nat.beq pc 3 && Nat.beq E 2 then some (some 11) else none) else none)) else (bif Nat.ble 191 k then (bif Nat.beq k 191 then (bif Nat.beq pc 5 && Nat.beq E 0 then some (some 17) else (bif Nat.beq pc 5 && Nat.beq E 1 then some (some 21) else (bif Nat.beq pc 5 && Nat.beq E 2 then some (some 13) else none))) else none) else (bif Nat.beq k 190 then (bif Nat.beq pc 4 && Nat.beq E 0 then some (some 12) else (bif Nat.beq pc 4 && Nat.beq E 2 then some (some 15) else none)) else none))) else (bif Nat.ble 187 k then (bif Nat.ble 188 k then (bif Nat.ble 189 k then (bif Nat.beq k 189 then (bif Nat.beq pc 4 && Nat.beq E 0 then some (some 12) else (bif Nat.beq pc 4 && Nat.beq E 2 then some (some 15) else none)) else none) else (bif Nat.beq k 188 then (bif Nat.beq pc 4 && Nat.beq E 0 then some (some 12) else (bif Nat.beq pc 4 && Nat.beq E 2 then some (some 15) else none)) else none)) else (bif Nat.beq k 187 then (bif Nat.beq pc 4 && Nat.beq E 0 then some (some 12) else (bif Nat.beq pc 4 && Nat.beq E 2 then some (some 15) else none)) else none)) else (bif Nat.ble 186 k then (bif Nat.beq k 186 then (bif Nat.beq pc 3 && Nat.beq E 2 then some (some 11) else none) else none) else (bif Nat.beq k 185 then (bif Nat.beq pc 4 && Nat.beq E 0 then some (some 12) else (bif Nat.beq pc 4 && Nat.beq E 2 then some (some 15) else none)) else none)))) else (bif Nat.ble 180 k then (bif Nat.ble 182 k then (bif Nat.ble 183 k then (bif Nat.ble 184 k then (bif Nat.beq k 184 then (bif Nat.beq pc 4 && Nat.beq E 0 then some (some 12) else (bif Nat.beq pc 4 && Nat.beq E 2 then some (some 15) else none)) else none) else (bif Nat.beq k 183 then (bif Nat.beq pc 4 && Nat.beq E 0 then some (some 12) else (bif Nat.beq pc 4 && Nat.beq E 2 then some (some 15) else none)) else none)) else (bif Nat.beq k 182 then (bif Nat.beq pc 4 && Nat.beq E 1 then some (some 12) else (bif Nat.beq pc 4 && Nat.beq E 2 then some (some 15) else none)) else none)) else (bif Nat.ble 181 k then (bif Nat.beq k 181 then (bif Nat.beq pc 4 && Nat.beq E 1 then some (some 12) else (bif Nat.beq pc 4 && Nat.beq E 2 then some (some 15) else none)) else none) else (bif Nat.beq k 180 then (bif Nat.beq pc 3 && Nat.beq E 2 then some (some 11) else none) else none))) else (bif Nat.ble 177 k then (bif Nat.ble 178 k then (bif Nat.ble 179 k then (bif Nat.beq k 179 then (bif Nat.beq pc 7 && Nat.beq E 0 then some (some 15) else (bif Nat.beq pc 7 && Nat.beq E 1 then some (some 19) else (bif Nat.beq pc 7 && Nat.beq E 2 then some (some 23) else none))) else none) else (bif Nat.beq k 178 then (bif Nat.beq pc 5 && Nat.beq E 0 then some (some 13) else (bif Nat.beq pc 5 && Nat.beq E 2 then some (some 17) else none)) else none)) else (bif Nat.beq k 177 then (bif Nat.beq pc 7 && Nat.beq E 0 then some (some 15) else (bif Nat.beq pc 7 && Nat.beq E 1 then some (some 19) else (bif Nat.beq pc 7 && Nat.beq E 2 then some (some 23) else none))) else none)) else (bif Nat.ble 176 k then (bif Nat.beq k 176 then (bif Nat.beq pc 4 && Nat.beq E 0 then some (some 12) else (bif Nat.beq pc 4 && Nat.beq E 2 then some (some 15) else none)) else none) else (bif Nat.beq k 175 then (bif Nat.beq pc 4 && Nat.beq E 0 then some (some 12) else (bif Nat.beq pc 4 && Nat.beq E 2 then some (some 15) else none)) else none))))))
def sg_hd (k pc E : Nat) : Option (Option Nat) := bif Nat.ble 175 k then (bif Nat.blt k 216 then sg_hx k pc E else none) else some none
/-- the int j of the script as a value: by its kind (p < 16), or as it is -/
def sg_pv (j p : Nat) : Value := bif Nat.blt p 16 then .retAddr (16 * (j + 1) + p) else .int (Int32.ofNat (p - 16))
def sg_vs (ps : List Nat) (j : Nat) : Value := sg_pv j (ps.getD j 0)
def sg_KL : Nat := 216
def sg_M0 : sg_M := (fun _ => none, 128)
/-- both objects made, ahead of the loop -/
def sg_S0 : Option (sg_L × List Value × sg_M × Nat × Nat) := sg_pre sg_tab0 sg_hd 23 2000 sg_KL 0 [(0, .ref 0)] [] sg_M0
def sg_rn (S : Option (sg_L × List Value × sg_M × Nat × Nat)) (Ls : Nat) (ps : List Nat) (kx : Int32) : Bool := match S with
  | none => false
  | some (L, st, M, c, s) => match sg_ev (sg_tab Ls (sg_vs ps) kx) sg_hd 2000 sg_KL 23 L st M with
    | some (.inl (some (.int x)), _, c1, s1) => x == 1 && Nat.ble (c + c1) 600002 && Nat.ble (s + s1) 7302232
    | _ => false
end SGH
