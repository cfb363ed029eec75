section SGSH
/-- what holds of merging's contents always -/
def mg_b (G : mg_C) : Prop := G.pc ≤ 328 ∧ G.cc ≤ 328 ∧ tr_ti G.fs
section
variable {Ls : Nat} {xs : Nat → Int32} {M : sg_M} {R : rt_R} {n : Nat} {g : Int64} {K : Nat → hs_K} {tp ds dc : Nat → Int32} {G : mg_C}
/-- isSound's answer is 1; merging may be other if no work is pending -/
abbrev sd_Q (M : sg_M) (R : rt_R) (n : Nat) (g : Int64) (K : Nat → hs_K) (tp ds dc : Nat → Int32) (G : mg_C) : Option Value ⊕ Nat → sg_M → Nat → Nat → Prop := fun r M1 c s => r = .inl (some (.int 1)) ∧ (∃ G1 : mg_C, rt_is M1 R n g K tp ds dc G1 ∧ mg_b G1 ∧ (R.wk = 0 ∨ (G1 = G ∧ sg_out [139, 140, 141, 142] M M1))) ∧ c = 0 ∧ s = 0
/-- the same, or the third alone -/
def sd_U (T : sg_L) : Prop := sd_T T ∨ ∃ a : Int32, T = [(3, .int a)]
/-- ancestors of each other are the same -/
theorem kc_anti (hk : kc_ok n g K) {a b : Nat} (ha : a < n) (hb : b < n) (hn : n ≤ 60) (h1 : bt (hs_a (K a)) (nI b) = true) (h2 : bt (hs_a (K b)) (nI a) = true) : a = b := by
  have x := (hk.2.2 a ha).2.2.2.2.1 b (by omega) h1
  have y := (hk.2.2 b hb).2.2.2.2.1 a (by omega) h2
  omega
theorem sd_392 (hn : n ≤ 60) (hb : kb_ok n g tp) (hk : kc_ok n g K) (hw : R.wk = 0) {hh : Nat} (h1 : hh < n) (h2 : rt_hc tp R = nI hh) (hgh : bt g (nI hh) = false) (hcl : rt_cl R n K tp ds dc) : ∀ (m i : Nat) (M2 : sg_M) (G2 : mg_C) (T : sg_L), m = 8 - i → i ≤ 8 → rt_is M2 R n g K tp ds dc G2 → mg_b G2 → sd_U T → wpa Ls xs 140 392 ([(0, .ref 128), (1, .int (nI hh)), (2, .int (nI i))] ++ T) [] M2 (sd_Q M R n g K tp ds dc G) := by
  have hr : rt_rdy R n K tp ds dc := ⟨by rw [hw]; rfl, by rw [h2]; exact fun z => absurd (z ▸ (by decide : (-1 : Int32) < 0)) (nI_pos (by omega)), hcl⟩
  have hH : hs_th n g (nI hh) := hs_n_th h1 hn hgh
  intro m
  induction m with
  | zero =>
    intro i M2 G2 T hm hi hr2 hg2 hT
    have e : i = 8 := by omega
    subst e
    have r128 := hr2.1
    refine sg_wr 3 rfl ?_
    refine sg_wr 2 rfl ?_
    refine sg_r_callV rfl rfl rfl r128 rfl (Nat.le_of_ble_eq_true rfl) (Nat.le_of_ble_eq_true rfl) (rt_wouldConflict hr2 hk hH hr) ?_
    rintro _ M3 _ _ ⟨⟨G3, rfl, q1, q2, q3, q4⟩, rfl, rfl⟩
    refine sg_a0 ?_
    rw [q4 h2.symm]
    refine sg_wr 3 rfl ?_
    exact sg_we rfl rfl ⟨rfl, ⟨G3, q1, ⟨q3.2.1, q3.2.2.1, q3.2.2.2⟩, Or.inl hw⟩, rfl, rfl⟩
  | succ m ih =>
    intro i M2 G2 T hm hi hr2 hg2 hT
    have r128 := hr2.1
    have hlt : i < 8 := by omega
    have k472 : ∀ (M3 : sg_M) (G3 : mg_C) (T : sg_L), rt_is M3 R n g K tp ds dc G3 → mg_b G3 → sd_U T → wpa Ls xs 140 472 ([(0, .ref 128), (1, .int (nI hh)), (2, .int (nI i))] ++ T) [] M3 (sd_Q M R n g K tp ds dc G) := by
      intro M3 G3 T h3 g3 hT
      have h9 := ih (i + 1) M3 G3 T (by omega) hlt h3 g3 hT
      rw [nI_succ] at h9
      rcases hT with (rfl | ⟨a, b, rfl⟩ | ⟨a, b, d, rfl⟩) | ⟨a, rfl⟩
      · refine sg_wr 2 rfl ?_
        exact h9
      · refine sg_wr 2 rfl ?_
        exact h9
      · refine sg_wr 2 rfl ?_
        exact h9
      · refine sg_wr 2 rfl ?_
        exact h9
    -- the merge that would be
    have k411 : ∀ (x : Nat) (T1 : sg_L), x < n → tp i = nI x → bt g (nI x) = false → (T1 = [] ∨ (∃ b : Int32, T1 = [(4, .int b)]) ∨ ∃ b d : Int32, T1 = [(4, .int b), (5, .int d)]) → wpa Ls xs 140 411 ([(0, .ref 128), (1, .int (nI hh)), (2, .int (nI i)), (3, .int (nI x))] ++ T1) [] M2 (sd_Q M R n g K tp ds dc G) := by
      intro x T1 x1 x2 x3 hT1
      have hX : hs_th n g (nI x) := hs_n_th x1 hn x3
      have eX := hs_D_K (K := K) x1 hn
      have eH := hs_D_K (K := K) h1 hn
      have hm := rt_wouldMerge (Ls := Ls) (xs := xs) (x := nI i) hr2 hk (by rw [rt_co_n hlt, x2]; exact fun z => absurd (z ▸ (by decide : (-2 : Int32) < 0)) (nI_pos (by omega))) (by rw [rt_co_n hlt, x2]; exact fun z => absurd (z ▸ (by decide : (-1 : Int32) < 0)) (nI_pos (by omega))) hr
      rw [rt_co_n hlt, x2] at hm
      have k418 : ∀ (v : Int32) (M3 : sg_M) (G3 : mg_C) (T2 : sg_L), rt_is M3 R n g K tp ds dc G3 → mg_b G3 → ((v = 0 ∧ bt (hs_a (K hh)) (nI x) = true) ∨ (v = 1 ∧ bt (hs_a (K hh)) (nI x) = false ∧ bt (hs_a (K x)) (nI hh) = true) ∨ ((v = 2 ∨ v = 3) ∧ bt (hs_a (K hh)) (nI x) = false ∧ bt (hs_a (K x)) (nI hh) = false)) → (T2 = [] ∨ ∃ d : Int32, T2 = [(5, .int d)]) → wpa Ls xs 140 418 ([(0, .ref 128), (1, .int (nI hh)), (2, .int (nI i)), (3, .int (nI x)), (4, .int v)] ++ T2) [] M3 (sd_Q M R n g K tp ds dc G) := by
        intro v M3 G3 T2 h3 g3 hv hT2
        have r128 := h3.1
        have hE : sd_U ([(3, .int (nI x)), (4, .int v)] ++ T2) := Or.inl (sd_T.of hT2)
        have a1 : ∀ {b : Bool}, bt (hs_a (K hh)) (nI x) = b → (bt (hs_a (hs_D n K (nI hh))) (nI x) = b) := fun z => by rw [eH]; exact z
        have a2 : ∀ {b : Bool}, bt (hs_a (K x)) (nI hh) = b → (bt (hs_a (hs_D n K (nI x))) (nI hh) = b) := fun z => by rw [eX]; exact z
        have px : ¬ nI x < 0 ∧ nI x < 60 := ⟨nI_pos (by omega), nI_lt (b := 60) (by omega) (by decide)⟩
        have ph : ¬ nI hh < 0 ∧ nI hh < 60 := ⟨nI_pos (by omega), nI_lt (b := 60) (by omega) (by decide)⟩
        rcases hv with ⟨rfl, u1⟩ | ⟨rfl, u1, u2⟩ | ⟨hv, u1, u2⟩
        · refine sg_wr 7 rfl ?_
          refine sg_r_callV rfl rfl rfl r128 rfl (Nat.le_of_ble_eq_true rfl) (Nat.le_of_ble_eq_true rfl) (rt_isAncestor h3 hX hH) ?_
          rintro _ M3 _ _ ⟨⟨z, rfl, hz⟩, rfl, rfl, rfl⟩
          refine sg_a0 ?_
          rcases hz with ⟨rfl, q⟩ | ⟨rfl, q⟩
          rotate_left
          · exact absurd ⟨px.1, px.2, a1 u1⟩ q
          refine sg_wr 8 rfl ?_
          refine sg_r_callV rfl rfl rfl r128 rfl (Nat.le_of_ble_eq_true rfl) (Nat.le_of_ble_eq_true rfl) (rt_isAncestor h3 hH hX) ?_
          rintro _ M3 _ _ ⟨⟨z, rfl, hz⟩, rfl, rfl, rfl⟩
          refine sg_a0 ?_
          rcases hz with ⟨rfl, q⟩ | ⟨rfl, q⟩
          · have e : x = hh := kc_anti hk x1 h1 hn (by rw [← eX]; exact q.2.2) u1
            subst e
            refine sg_wr 3 rfl ?_
            refine sg_wb rfl rfl (fun _ => ?_) (fun z => absurd rfl z)
            refine sg_wr 2 rfl ?_
            exact k472 M3 G3 _ h3 g3 hE
          · refine sg_wr 3 rfl ?_
            exact k472 M3 G3 _ h3 g3 hE
        · refine sg_wr 6 rfl ?_
          refine sg_r_callV rfl rfl rfl r128 rfl (Nat.le_of_ble_eq_true rfl) (Nat.le_of_ble_eq_true rfl) (rt_isAncestor h3 hX hH) ?_
          rintro _ M3 _ _ ⟨⟨z, rfl, hz⟩, rfl, rfl, rfl⟩
          refine sg_a0 ?_
          rcases hz with ⟨rfl, q⟩ | ⟨rfl, q⟩
          · exact absurd (a1 u1) (by rw [q.2.2]; decide)
          refine sg_wr 9 rfl ?_
          refine sg_r_callV rfl rfl rfl r128 rfl (Nat.le_of_ble_eq_true rfl) (Nat.le_of_ble_eq_true rfl) (rt_isAncestor h3 hH hX) ?_
          rintro _ M3 _ _ ⟨⟨z, rfl, hz⟩, rfl, rfl, rfl⟩
          refine sg_a0 ?_
          rcases hz with ⟨rfl, q⟩ | ⟨rfl, q⟩
          rotate_left
          · exact absurd ⟨ph.1, ph.2, a2 u2⟩ q
          have ne : ¬ nI x = nI hh := fun z => by
            have e := (nI_eq (by omega) (by omega)).mp z
            subst e
            rw [u1] at u2
            cases u2
          refine sg_wr 3 rfl ?_
          refine sg_wb rfl rfl (fun z => absurd z ne) (fun _ => ?_)
          refine sg_wr 3 rfl ?_
          exact k472 M3 G3 _ h3 g3 hE
        · have last : wpa Ls xs 140 448 ([(0, .ref 128), (1, .int (nI hh)), (2, .int (nI i)), (3, .int (nI x)), (4, .int v)] ++ T2) [.int 0] M3 (sd_Q M R n g K tp ds dc G) := by
            refine sg_wr 3 rfl ?_
            refine sg_r_callV rfl rfl rfl r128 rfl (Nat.le_of_ble_eq_true rfl) (Nat.le_of_ble_eq_true rfl) (rt_isAncestor h3 hH hX) ?_
            rintro _ M3 _ _ ⟨⟨z, rfl, hz⟩, rfl, rfl, rfl⟩
            refine sg_a0 ?_
            rcases hz with ⟨rfl, q⟩ | ⟨rfl, q⟩
            · exact absurd (a2 u2) (by rw [q.2.2]; decide)
            refine sg_wr 3 rfl ?_
            exact k472 M3 G3 _ h3 g3 hE
          rcases hv with rfl | rfl
          · refine sg_wr 6 rfl ?_
            refine sg_r_callV rfl rfl rfl r128 rfl (Nat.le_of_ble_eq_true rfl) (Nat.le_of_ble_eq_true rfl) (rt_isAncestor h3 hX hH) ?_
            rintro _ M3 _ _ ⟨⟨z, rfl, hz⟩, rfl, rfl, rfl⟩
            refine sg_a0 ?_
            rcases hz with ⟨rfl, q⟩ | ⟨rfl, q⟩
            · exact absurd (a1 u1) (by rw [q.2.2]; decide)
            refine sg_wr 5 rfl ?_
            exact last
          · refine sg_wr 6 rfl ?_
            refine sg_r_callV rfl rfl rfl r128 rfl (Nat.le_of_ble_eq_true rfl) (Nat.le_of_ble_eq_true rfl) (rt_isAncestor h3 hX hH) ?_
            rintro _ M3 _ _ ⟨⟨z, rfl, hz⟩, rfl, rfl, rfl⟩
            refine sg_a0 ?_
            rcases hz with ⟨rfl, q⟩ | ⟨rfl, q⟩
            · exact absurd (a1 u1) (by rw [q.2.2]; decide)
            refine sg_wr 5 rfl ?_
            exact last
      have k416 : ∀ (v : Int32) (M3 : sg_M) (G3 : mg_C) (T2 : sg_L), rt_is M3 R n g K tp ds dc G3 → rt_mP M3 n K (rt_hc tp R) (nI x) v G2 G3 → (T2 = [] ∨ ∃ d : Int32, T2 = [(5, .int d)]) → wpa Ls xs 140 418 ([(0, .ref 128), (1, .int (nI hh)), (2, .int (nI i)), (3, .int (nI x)), (4, .int v)] ++ T2) [] M3 (sd_Q M R n g K tp ds dc G) := by
        intro v M3 G3 T2 h3 hP hT2
        have px : ¬ nI x < 0 ∧ nI x < 60 := ⟨nI_pos (by omega), nI_lt (b := 60) (by omega) (by decide)⟩
        have ph : ¬ nI hh < 0 ∧ nI hh < 60 := ⟨nI_pos (by omega), nI_lt (b := 60) (by omega) (by decide)⟩
        have bf : ∀ {b : Bool}, ¬ b = true → b = false := fun {b} z => by cases b; rfl; exact absurd rfl z
        unfold rt_mP at hP
        rw [h2, eX, eH] at hP
        rcases hP with ⟨rfl, rfl, p⟩ | ⟨p, ⟨rfl, rfl, p2⟩ | ⟨p2, p3, p4⟩⟩
        · exact k418 _ M3 _ T2 h3 hg2 (Or.inl ⟨rfl, p.2.2⟩) hT2
        · exact k418 _ M3 _ T2 h3 hg2 (Or.inr (Or.inl ⟨rfl, bf (fun z => p ⟨px.1, px.2, z⟩), p2.2.2⟩)) hT2
        · refine k418 _ M3 _ T2 h3 ⟨p3.2.1, p3.2.2.1, p3.2.2.2⟩ (Or.inr (Or.inr ⟨?_, bf (fun z => p ⟨px.1, px.2, z⟩), bf (fun z => p2 ⟨ph.1, ph.2, z⟩)⟩)) hT2
          rcases p4 with ⟨z, -⟩ | ⟨z, -⟩
          · exact Or.inl z
          · exact Or.inr z
      rcases hT1 with rfl | ⟨b, rfl⟩ | ⟨b, d, rfl⟩
      · refine sg_wr 2 rfl ?_
        refine sg_r_callV rfl rfl rfl r128 rfl (Nat.le_of_ble_eq_true rfl) (Nat.le_of_ble_eq_true rfl) hm ?_
        rintro _ M3 _ _ ⟨⟨v, G3, rfl, q1, q2, q3⟩, rfl, rfl⟩
        refine sg_a0 ?_
        refine sg_wr 1 rfl ?_
        exact k416 v M3 G3 [] q1 q3 (Or.inl rfl)
      · refine sg_wr 2 rfl ?_
        refine sg_r_callV rfl rfl rfl r128 rfl (Nat.le_of_ble_eq_true rfl) (Nat.le_of_ble_eq_true rfl) hm ?_
        rintro _ M3 _ _ ⟨⟨v, G3, rfl, q1, q2, q3⟩, rfl, rfl⟩
        refine sg_a0 ?_
        refine sg_wr 1 rfl ?_
        exact k416 v M3 G3 [] q1 q3 (Or.inl rfl)
      · refine sg_wr 2 rfl ?_
        refine sg_r_callV rfl rfl rfl r128 rfl (Nat.le_of_ble_eq_true rfl) (Nat.le_of_ble_eq_true rfl) hm ?_
        rintro _ M3 _ _ ⟨⟨v, G3, rfl, q1, q2, q3⟩, rfl, rfl⟩
        refine sg_a0 ?_
        refine sg_wr 1 rfl ?_
        exact k416 v M3 G3 [(5, .int d)] q1 q3 (Or.inr ⟨d, rfl⟩)
    rcases hT with (rfl | ⟨a, b, rfl⟩ | ⟨a, b, d, rfl⟩) | ⟨a, rfl⟩
    · refine sg_wr 2 rfl ?_
      refine sg_wb rfl rfl (fun z => absurd z (nI_ge (b := 8) hlt (by decide))) (fun _ => ?_)
      refine sg_wr 2 rfl ?_
      refine sg_p_callV rfl rfl rfl r128 rfl (Nat.le_of_ble_eq_true rfl) (Nat.le_of_ble_eq_true rfl) (rt_commitOf hr2 _) ?_
      rw [rt_co_n hlt]
      refine sg_wr 2 rfl ?_
      refine sg_wb rfl rfl (fun h405 => ?_) (fun h405 => ?_)
      · rcases hb i hlt with z | z | ⟨x, x1, x2, x3⟩
        · exact absurd h405 (by rw [z]; decide)
        · exact absurd h405 (by rw [z]; decide)
        · rw [x2]
          exact k411 x [] x1 x2 x3 (Or.inl rfl)
      · refine sg_wr 1 rfl ?_
        exact k472 M2 G2 ([(3, .int (tp i))] ++ []) hr2 hg2 (Or.inr ⟨_, rfl⟩)
    · refine sg_wr 2 rfl ?_
      refine sg_wb rfl rfl (fun z => absurd z (nI_ge (b := 8) hlt (by decide))) (fun _ => ?_)
      refine sg_wr 2 rfl ?_
      refine sg_p_callV rfl rfl rfl r128 rfl (Nat.le_of_ble_eq_true rfl) (Nat.le_of_ble_eq_true rfl) (rt_commitOf hr2 _) ?_
      rw [rt_co_n hlt]
      refine sg_wr 2 rfl ?_
      refine sg_wb rfl rfl (fun h405 => ?_) (fun h405 => ?_)
      · rcases hb i hlt with z | z | ⟨x, x1, x2, x3⟩
        · exact absurd h405 (by rw [z]; decide)
        · exact absurd h405 (by rw [z]; decide)
        · rw [x2]
          exact k411 x [(4, .int b)] x1 x2 x3 (Or.inr (Or.inl ⟨_, rfl⟩))
      · refine sg_wr 1 rfl ?_
        exact k472 M2 G2 ([(3, .int (tp i))] ++ [(4, .int b)]) hr2 hg2 (Or.inl (Or.inr (Or.inl ⟨_, _, rfl⟩)))
    · refine sg_wr 2 rfl ?_
      refine sg_wb rfl rfl (fun z => absurd z (nI_ge (b := 8) hlt (by decide))) (fun _ => ?_)
      refine sg_wr 2 rfl ?_
      refine sg_p_callV rfl rfl rfl r128 rfl (Nat.le_of_ble_eq_true rfl) (Nat.le_of_ble_eq_true rfl) (rt_commitOf hr2 _) ?_
      rw [rt_co_n hlt]
      refine sg_wr 2 rfl ?_
      refine sg_wb rfl rfl (fun h405 => ?_) (fun h405 => ?_)
      · rcases hb i hlt with z | z | ⟨x, x1, x2, x3⟩
        · exact absurd h405 (by rw [z]; decide)
        · exact absurd h405 (by rw [z]; decide)
        · rw [x2]
          exact k411 x [(4, .int b), (5, .int d)] x1 x2 x3 (Or.inr (Or.inr ⟨_, _, rfl⟩))
      · refine sg_wr 1 rfl ?_
        exact k472 M2 G2 ([(3, .int (tp i))] ++ [(4, .int b), (5, .int d)]) hr2 hg2 (Or.inl (Or.inr (Or.inr ⟨_, _, _, rfl⟩)))
    · refine sg_wr 2 rfl ?_
      refine sg_wb rfl rfl (fun z => absurd z (nI_ge (b := 8) hlt (by decide))) (fun _ => ?_)
      refine sg_wr 2 rfl ?_
      refine sg_p_callV rfl rfl rfl r128 rfl (Nat.le_of_ble_eq_true rfl) (Nat.le_of_ble_eq_true rfl) (rt_commitOf hr2 _) ?_
      rw [rt_co_n hlt]
      refine sg_wr 2 rfl ?_
      refine sg_wb rfl rfl (fun h405 => ?_) (fun h405 => ?_)
      · rcases hb i hlt with z | z | ⟨x, x1, x2, x3⟩
        · exact absurd h405 (by rw [z]; decide)
        · exact absurd h405 (by rw [z]; decide)
        · rw [x2]
          exact k411 x [] x1 x2 x3 (Or.inl rfl)
      · refine sg_wr 1 rfl ?_
        exact k472 M2 G2 ([(3, .int (tp i))] ++ []) hr2 hg2 (Or.inr ⟨_, rfl⟩)
theorem sd_370 (hn : n ≤ 60) (hb : kb_ok n g tp) (hk : kc_ok n g K) (hw : R.wk ≤ 4) {c : Int32} (hce : c = rt_hc tp R) (hc : c < 0 ∨ ∃ hh : Nat, hh < n ∧ c = nI hh ∧ bt g (nI hh) = false ∧ ∃ b : Nat, b < 8 ∧ tp b = nI hh) {M2 : sg_M} {T : sg_L} (h2 : rt_is M2 R n g K tp ds dc G) (hg : mg_b G) (ho : sg_out [139, 140, 141, 142] M M2) (hT : sd_T T) {i : Int32} : wpa Ls xs 140 370 ([(0, .ref 128), (1, .int c), (2, .int i)] ++ T) [] M2 (sd_Q M R n g K tp ds dc G) := by
  have r128 := h2.1
  refine sg_wr 1 rfl ?_
  refine sg_p_callV rfl rfl rfl r128 rfl (Nat.le_of_ble_eq_true rfl) (Nat.le_of_ble_eq_true rfl) (rt_pending h2) ?_
  refine sg_wb rfl rfl (fun _ => ?_) (fun h374 => ?_)
  · refine sg_wr 1 rfl ?_
    exact sg_we rfl rfl ⟨rfl, ⟨G, h2, hg, Or.inr ⟨rfl, ho⟩⟩, rfl, rfl⟩
  have hw0 : R.wk = 0 := by
    rcases Nat.eq_zero_or_pos R.wk with z | z
    · exact z
    · exact absurd (show nI 0 < nI R.wk from nI_lt z (by omega)) h374
  refine sg_wr 1 rfl ?_
  refine sg_wb rfl rfl (fun _ => ?_) (fun h378 => ?_)
  · refine sg_wr 1 rfl ?_
    exact sg_we rfl rfl ⟨rfl, ⟨G, h2, hg, Or.inl hw0⟩, rfl, rfl⟩
  rcases hc with z | ⟨hh, c1, rfl, c3, -⟩
  · exact absurd z h378
  refine sg_wr 1 rfl ?_
  refine sg_r_callV rfl rfl rfl r128 rfl (Nat.le_of_ble_eq_true rfl) (Nat.le_of_ble_eq_true rfl) (rt_isClean h2) ?_
  rintro _ M2 _ _ ⟨⟨v, rfl, hv⟩, rfl, rfl, rfl⟩
  refine sg_a0 ?_
  rcases hv with ⟨rfl, q⟩ | ⟨rfl, q⟩
  · have h9 := sd_392 (Ls := Ls) (xs := xs) (M := M) (G := G) hn hb hk hw0 c1 hce.symm c3 q 8 0 M2 G T rfl (by decide) h2 hg (Or.inl hT)
    rcases hT with rfl | ⟨a, b, rfl⟩ | ⟨a, b, d, rfl⟩
    · refine sg_wr 3 rfl ?_
      exact h9
    · refine sg_wr 3 rfl ?_
      exact h9
    · refine sg_wr 3 rfl ?_
      exact h9
  · refine sg_wr 2 rfl ?_
    exact sg_we rfl rfl ⟨rfl, ⟨G, h2, hg, Or.inl hw0⟩, rfl, rfl⟩
theorem sd_all (h : rt_is M R n g K tp ds dc G) (hb : kb_ok n g tp) (hk : kc_ok n g K) (hh : R.hd < 8) (ht : ¬ tp R.hd = -2) (hw : R.wk ≤ 4) (hg : mg_b G) : wpm Ls xs 140 [.ref 128] M (sd_Q M R n g K tp ds dc G) := by
  have hn := h.2.1.2.2.2.1
  have r128 := h.1
  have ec : rt_hc tp R = tp R.hd := rt_co_n hh
  have hc : rt_hc tp R < 0 ∨ ∃ hh : Nat, hh < n ∧ rt_hc tp R = nI hh ∧ bt g (nI hh) = false ∧ ∃ b : Nat, b < 8 ∧ tp b = nI hh := by
    rw [ec]
    rcases hb R.hd hh with z | z | ⟨j, j1, j2, j3⟩
    · exact absurd z ht
    · exact Or.inl (by rw [z]; decide)
    · exact Or.inr ⟨j, j1, j2, j3, R.hd, hh, j2⟩
  refine sg_wr 2 rfl ?_
  refine sg_p_callV rfl rfl rfl r128 rfl (Nat.le_of_ble_eq_true rfl) (Nat.le_of_ble_eq_true rfl) (rt_head h) ?_
  refine sg_p_callV rfl rfl rfl r128 rfl (Nat.le_of_ble_eq_true rfl) (Nat.le_of_ble_eq_true rfl) (rt_commitOf h _) ?_
  have hne : ¬ rt_co tp (nI R.hd) = -2 := by rw [show rt_co tp (nI R.hd) = tp R.hd from ec]; exact ht
  refine sg_wr 3 rfl ?_
  refine sg_wb rfl rfl (fun z => absurd z hne) (fun _ => ?_)
  refine sg_wr 1 rfl ?_
  refine sg_p_callV rfl rfl rfl r128 rfl (Nat.le_of_ble_eq_true rfl) (Nat.le_of_ble_eq_true rfl) (rt_commits h) ?_
  refine sg_wr 1 rfl ?_
  refine sg_wb rfl rfl (fun z => absurd (show nI n ≤ nI 60 from nI_le hn (by decide)) (Int32.not_le.mpr z)) (fun _ => ?_)
  refine sg_wr 1 rfl ?_
  refine sg_p_callV rfl rfl rfl r128 rfl (Nat.le_of_ble_eq_true rfl) (Nat.le_of_ble_eq_true rfl) (rt_probe h) ?_
  have k40 : wpa Ls xs 140 40 [(0, .ref 128), (1, .int (rt_hc tp R))] [] M (sd_Q M R n g K tp ds dc G) := by
    refine sg_wr 2 rfl ?_
    refine sd_42 h hb hk _ ?_ 8 0 rfl (by decide)
    refine sg_wr 2 rfl ?_
    exact sd_90 (M := M) hn hb hk hc (fun M1 T h1 o1 hT => sd_370 hn hb hk hw rfl hc h1 hg o1 hT) n 0 M [] rfl (Nat.zero_le _) h sg_out.rf (Or.inl rfl)
  refine sg_wb rfl rfl (fun _ => k40) (fun h28 => ?_)
  refine sg_wr 1 rfl ?_
  refine sg_p_callV rfl rfl rfl r128 rfl (Nat.le_of_ble_eq_true rfl) (Nat.le_of_ble_eq_true rfl) (rt_culprit h) ?_
  refine sg_wb rfl rfl (fun _ => k40) (fun h35 => ?_)
  rcases pb_one n K R.su with z | z
  · exact absurd z h28
  · exact absurd z h35
end
end SGSH
