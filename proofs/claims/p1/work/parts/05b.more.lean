section SGM
theorem sg_wd {n : Nat} {x : UInt64} : sg_wV n (.double x) := fun _ e => by rcases e with e | e <;> cases e
/-- the kinds of ints -/
def sg_kl (c : Nat) : Int × Int := match c with
  | 1 => (-2147483648, -1)
  | 2 => (0, 2147483647)
  | 3 => (8, 2147483647)
  | 4 => (0, 999)
  | 5 => (1000, 2147483647)
  | 6 => (1, 2147483647)
  | _ => (-2147483648, 2147483647)
/-- number n, from 16 on, is an int of the kind n % 16 -/
def sg_sy (b : Nat → Nat) : Prop := ∀ n, 16 ≤ n → n < sg_pn → (sg_kl (n % 16)).1 ≤ (sg_iv (b n)).toInt ∧ (sg_iv (b n)).toInt ≤ (sg_kl (n % 16)).2
def sg_rg (n : Nat) : Bool := Nat.ble 16 n && Nat.blt n 128
theorem sg_rg_ok {n : Nat} (h : sg_rg n = true) : 16 ≤ n ∧ n < sg_pn := by
  simp only [sg_rg, Bool.and_eq_true, Nat.ble_eq, Nat.blt_eq] at h
  exact h
section
variable {D : va_G} {cl : List vw_C} {tys : List (ClassId × FieldType)} {B : Nat} {b : Nat → Nat} {Ls : Nat} {xs : Nat → Int32} {Sx : List (String × Nat × String)} {Ax : List String} {P : sg_P} {Tw : List Cond} {k pc : Nat}
theorem sg_symu {μ : Nat → Nat} {M : sg_M} {H : Heap} {n : Nat} (hI : sg_I D cl tys B b μ M H) (hn : n < sg_pn) : sg_v μ (.retAddr n) = .int (sg_iv (b n)) := by
  show Value.int (sg_iv (μ n)) = _
  rw [hI.2.2.2.2 n hn]

def sg_ycmp_lt (pc tgt : Nat) : sg_F := fun L st M => match st with
  | .int y :: .int x :: r => if x < y then sg_go tgt L r M else sg_go (pc + 3) L r M
  | .int y :: .retAddr n :: r => if sg_rg n = true then (if (sg_kl (n % 16)).2 < y.toInt then sg_go tgt L r M else if y.toInt ≤ (sg_kl (n % 16)).1 then sg_go (pc + 3) L r M else none) else none
  | _ => none
theorem sg_ok_ycmp_lt {off : Int} {tgt : Nat} (hsy : sg_sy b) (hd : decode (sg_C P k) pc = .ok (.if_icmp .lt off, 3)) (ht : (pc : Int) + off = (tgt : Int)) : sg_Ok D cl tys B b Ls xs Sx Ax P Tw k pc (sg_ycmp_lt pc tgt) := by
  intro p l e R s m args below meth c hF hC L st M μ H locs cells slots ls hJ
  obtain ⟨hx, hb, hml, hown, hts, hret, hlk, hfr, hlo, hnm, htr, htb⟩ := hF
  have wf := fun (a b : Value) (r : List Value) (h : ∀ v ∈ a :: b :: r, sg_wV M.2 v) => (sg_c1 (sg_c1 h).2).2
  unfold sg_ycmp_lt
  split
  · split
    · rename_i hc
      exact sg_pure hJ hJ.2.1 (wf _ _ _ hJ.2.2.1) (fun Q kk => lv_icmp_lt hx hb hd ht (fun _ => kk ls hJ.2.2.2.1) (fun h => absurd hc h))
    · rename_i hc
      exact sg_pure hJ hJ.2.1 (wf _ _ _ hJ.2.2.1) (fun Q kk => lv_icmp_lt hx hb hd ht (fun h => absurd h hc) (fun _ => kk ls hJ.2.2.2.1))
  · rename_i y n r
    split
    · rename_i hr
      obtain ⟨r1, r2⟩ := sg_rg_ok hr
      obtain ⟨z1, z2⟩ := hsy n r1 r2
      have hv : sg_v μ (.retAddr n) = .int (sg_iv (b n)) := sg_symu hJ.1 r2
      have go : ∀ (pc1 : Nat), (∀ Q : State → Prop, W p l e R s m args below meth c H locs cells slots Q (F0 m pc1 ls (r.map (sg_v μ))) → W p l e R s m args below meth c H locs cells slots Q (F0 m pc ls (.int y :: .int (sg_iv (b n)) :: r.map (sg_v μ)))) → sg_Res D cl tys B b P Tw k p l e R s m args below meth c μ M H locs cells slots pc ls (.int y :: .retAddr n :: r) (sg_go pc1 L r M) := fun pc1 h => sg_pure hJ hJ.2.1 (wf _ _ _ hJ.2.2.1) (fun Q kk => by
        show W p l e R s m args below meth c H locs cells slots Q (F0 m pc ls (.int y :: sg_v μ (.retAddr n) :: r.map (sg_v μ)))
        rw [hv]
        exact h Q (kk ls hJ.2.2.2.1))
      split
      · rename_i hc
        have h9 : sg_iv (b n) < y := by
          first | (rw [Int32.lt_iff_toInt_lt]; omega) | (rw [Int32.le_iff_toInt_le]; omega)
        exact go _ (fun Q kk => lv_icmp_lt hx hb hd ht (fun _ => kk) (fun h => absurd h9 h))
      · split
        · rename_i hc
          have h9 : ¬ sg_iv (b n) < y := by
            first | (rw [Int32.lt_iff_toInt_lt]; omega) | (rw [Int32.le_iff_toInt_le]; omega)
          exact go _ (fun Q kk => lv_icmp_lt hx hb hd ht (fun h => absurd h h9) (fun _ => kk))
        · trivial
    · trivial
  · trivial
def sg_ycmp_ge (pc tgt : Nat) : sg_F := fun L st M => match st with
  | .int y :: .int x :: r => if y ≤ x then sg_go tgt L r M else sg_go (pc + 3) L r M
  | .int y :: .retAddr n :: r => if sg_rg n = true then (if y.toInt ≤ (sg_kl (n % 16)).1 then sg_go tgt L r M else if (sg_kl (n % 16)).2 < y.toInt then sg_go (pc + 3) L r M else none) else none
  | _ => none
theorem sg_ok_ycmp_ge {off : Int} {tgt : Nat} (hsy : sg_sy b) (hd : decode (sg_C P k) pc = .ok (.if_icmp .ge off, 3)) (ht : (pc : Int) + off = (tgt : Int)) : sg_Ok D cl tys B b Ls xs Sx Ax P Tw k pc (sg_ycmp_ge pc tgt) := by
  intro p l e R s m args below meth c hF hC L st M μ H locs cells slots ls hJ
  obtain ⟨hx, hb, hml, hown, hts, hret, hlk, hfr, hlo, hnm, htr, htb⟩ := hF
  have wf := fun (a b : Value) (r : List Value) (h : ∀ v ∈ a :: b :: r, sg_wV M.2 v) => (sg_c1 (sg_c1 h).2).2
  unfold sg_ycmp_ge
  split
  · split
    · rename_i hc
      exact sg_pure hJ hJ.2.1 (wf _ _ _ hJ.2.2.1) (fun Q kk => lv_icmp_ge hx hb hd ht (fun _ => kk ls hJ.2.2.2.1) (fun h => absurd hc h))
    · rename_i hc
      exact sg_pure hJ hJ.2.1 (wf _ _ _ hJ.2.2.1) (fun Q kk => lv_icmp_ge hx hb hd ht (fun h => absurd h hc) (fun _ => kk ls hJ.2.2.2.1))
  · rename_i y n r
    split
    · rename_i hr
      obtain ⟨r1, r2⟩ := sg_rg_ok hr
      obtain ⟨z1, z2⟩ := hsy n r1 r2
      have hv : sg_v μ (.retAddr n) = .int (sg_iv (b n)) := sg_symu hJ.1 r2
      have go : ∀ (pc1 : Nat), (∀ Q : State → Prop, W p l e R s m args below meth c H locs cells slots Q (F0 m pc1 ls (r.map (sg_v μ))) → W p l e R s m args below meth c H locs cells slots Q (F0 m pc ls (.int y :: .int (sg_iv (b n)) :: r.map (sg_v μ)))) → sg_Res D cl tys B b P Tw k p l e R s m args below meth c μ M H locs cells slots pc ls (.int y :: .retAddr n :: r) (sg_go pc1 L r M) := fun pc1 h => sg_pure hJ hJ.2.1 (wf _ _ _ hJ.2.2.1) (fun Q kk => by
        show W p l e R s m args below meth c H locs cells slots Q (F0 m pc ls (.int y :: sg_v μ (.retAddr n) :: r.map (sg_v μ)))
        rw [hv]
        exact h Q (kk ls hJ.2.2.2.1))
      split
      · rename_i hc
        have h9 : y ≤ sg_iv (b n) := by
          first | (rw [Int32.lt_iff_toInt_lt]; omega) | (rw [Int32.le_iff_toInt_le]; omega)
        exact go _ (fun Q kk => lv_icmp_ge hx hb hd ht (fun _ => kk) (fun h => absurd h9 h))
      · split
        · rename_i hc
          have h9 : ¬ y ≤ sg_iv (b n) := by
            first | (rw [Int32.lt_iff_toInt_lt]; omega) | (rw [Int32.le_iff_toInt_le]; omega)
          exact go _ (fun Q kk => lv_icmp_ge hx hb hd ht (fun h => absurd h h9) (fun _ => kk))
        · trivial
    · trivial
  · trivial
def sg_ycmp_gt (pc tgt : Nat) : sg_F := fun L st M => match st with
  | .int y :: .int x :: r => if y < x then sg_go tgt L r M else sg_go (pc + 3) L r M
  | .int y :: .retAddr n :: r => if sg_rg n = true then (if y.toInt < (sg_kl (n % 16)).1 then sg_go tgt L r M else if (sg_kl (n % 16)).2 ≤ y.toInt then sg_go (pc + 3) L r M else none) else none
  | _ => none
theorem sg_ok_ycmp_gt {off : Int} {tgt : Nat} (hsy : sg_sy b) (hd : decode (sg_C P k) pc = .ok (.if_icmp .gt off, 3)) (ht : (pc : Int) + off = (tgt : Int)) : sg_Ok D cl tys B b Ls xs Sx Ax P Tw k pc (sg_ycmp_gt pc tgt) := by
  intro p l e R s m args below meth c hF hC L st M μ H locs cells slots ls hJ
  obtain ⟨hx, hb, hml, hown, hts, hret, hlk, hfr, hlo, hnm, htr, htb⟩ := hF
  have wf := fun (a b : Value) (r : List Value) (h : ∀ v ∈ a :: b :: r, sg_wV M.2 v) => (sg_c1 (sg_c1 h).2).2
  unfold sg_ycmp_gt
  split
  · split
    · rename_i hc
      exact sg_pure hJ hJ.2.1 (wf _ _ _ hJ.2.2.1) (fun Q kk => lv_icmp_gt hx hb hd ht (fun _ => kk ls hJ.2.2.2.1) (fun h => absurd hc h))
    · rename_i hc
      exact sg_pure hJ hJ.2.1 (wf _ _ _ hJ.2.2.1) (fun Q kk => lv_icmp_gt hx hb hd ht (fun h => absurd h hc) (fun _ => kk ls hJ.2.2.2.1))
  · rename_i y n r
    split
    · rename_i hr
      obtain ⟨r1, r2⟩ := sg_rg_ok hr
      obtain ⟨z1, z2⟩ := hsy n r1 r2
      have hv : sg_v μ (.retAddr n) = .int (sg_iv (b n)) := sg_symu hJ.1 r2
      have go : ∀ (pc1 : Nat), (∀ Q : State → Prop, W p l e R s m args below meth c H locs cells slots Q (F0 m pc1 ls (r.map (sg_v μ))) → W p l e R s m args below meth c H locs cells slots Q (F0 m pc ls (.int y :: .int (sg_iv (b n)) :: r.map (sg_v μ)))) → sg_Res D cl tys B b P Tw k p l e R s m args below meth c μ M H locs cells slots pc ls (.int y :: .retAddr n :: r) (sg_go pc1 L r M) := fun pc1 h => sg_pure hJ hJ.2.1 (wf _ _ _ hJ.2.2.1) (fun Q kk => by
        show W p l e R s m args below meth c H locs cells slots Q (F0 m pc ls (.int y :: sg_v μ (.retAddr n) :: r.map (sg_v μ)))
        rw [hv]
        exact h Q (kk ls hJ.2.2.2.1))
      split
      · rename_i hc
        have h9 : y < sg_iv (b n) := by
          first | (rw [Int32.lt_iff_toInt_lt]; omega) | (rw [Int32.le_iff_toInt_le]; omega)
        exact go _ (fun Q kk => lv_icmp_gt hx hb hd ht (fun _ => kk) (fun h => absurd h9 h))
      · split
        · rename_i hc
          have h9 : ¬ y < sg_iv (b n) := by
            first | (rw [Int32.lt_iff_toInt_lt]; omega) | (rw [Int32.le_iff_toInt_le]; omega)
          exact go _ (fun Q kk => lv_icmp_gt hx hb hd ht (fun h => absurd h h9) (fun _ => kk))
        · trivial
    · trivial
  · trivial
def sg_ycmp_le (pc tgt : Nat) : sg_F := fun L st M => match st with
  | .int y :: .int x :: r => if x ≤ y then sg_go tgt L r M else sg_go (pc + 3) L r M
  | .int y :: .retAddr n :: r => if sg_rg n = true then (if (sg_kl (n % 16)).2 ≤ y.toInt then sg_go tgt L r M else if y.toInt < (sg_kl (n % 16)).1 then sg_go (pc + 3) L r M else none) else none
  | _ => none
theorem sg_ok_ycmp_le {off : Int} {tgt : Nat} (hsy : sg_sy b) (hd : decode (sg_C P k) pc = .ok (.if_icmp .le off, 3)) (ht : (pc : Int) + off = (tgt : Int)) : sg_Ok D cl tys B b Ls xs Sx Ax P Tw k pc (sg_ycmp_le pc tgt) := by
  intro p l e R s m args below meth c hF hC L st M μ H locs cells slots ls hJ
  obtain ⟨hx, hb, hml, hown, hts, hret, hlk, hfr, hlo, hnm, htr, htb⟩ := hF
  have wf := fun (a b : Value) (r : List Value) (h : ∀ v ∈ a :: b :: r, sg_wV M.2 v) => (sg_c1 (sg_c1 h).2).2
  unfold sg_ycmp_le
  split
  · split
    · rename_i hc
      exact sg_pure hJ hJ.2.1 (wf _ _ _ hJ.2.2.1) (fun Q kk => lv_icmp_le hx hb hd ht (fun _ => kk ls hJ.2.2.2.1) (fun h => absurd hc h))
    · rename_i hc
      exact sg_pure hJ hJ.2.1 (wf _ _ _ hJ.2.2.1) (fun Q kk => lv_icmp_le hx hb hd ht (fun h => absurd h hc) (fun _ => kk ls hJ.2.2.2.1))
  · rename_i y n r
    split
    · rename_i hr
      obtain ⟨r1, r2⟩ := sg_rg_ok hr
      obtain ⟨z1, z2⟩ := hsy n r1 r2
      have hv : sg_v μ (.retAddr n) = .int (sg_iv (b n)) := sg_symu hJ.1 r2
      have go : ∀ (pc1 : Nat), (∀ Q : State → Prop, W p l e R s m args below meth c H locs cells slots Q (F0 m pc1 ls (r.map (sg_v μ))) → W p l e R s m args below meth c H locs cells slots Q (F0 m pc ls (.int y :: .int (sg_iv (b n)) :: r.map (sg_v μ)))) → sg_Res D cl tys B b P Tw k p l e R s m args below meth c μ M H locs cells slots pc ls (.int y :: .retAddr n :: r) (sg_go pc1 L r M) := fun pc1 h => sg_pure hJ hJ.2.1 (wf _ _ _ hJ.2.2.1) (fun Q kk => by
        show W p l e R s m args below meth c H locs cells slots Q (F0 m pc ls (.int y :: sg_v μ (.retAddr n) :: r.map (sg_v μ)))
        rw [hv]
        exact h Q (kk ls hJ.2.2.2.1))
      split
      · rename_i hc
        have h9 : sg_iv (b n) ≤ y := by
          first | (rw [Int32.lt_iff_toInt_lt]; omega) | (rw [Int32.le_iff_toInt_le]; omega)
        exact go _ (fun Q kk => lv_icmp_le hx hb hd ht (fun _ => kk) (fun h => absurd h9 h))
      · split
        · rename_i hc
          have h9 : ¬ sg_iv (b n) ≤ y := by
            first | (rw [Int32.lt_iff_toInt_lt]; omega) | (rw [Int32.le_iff_toInt_le]; omega)
          exact go _ (fun Q kk => lv_icmp_le hx hb hd ht (fun h => absurd h h9) (fun _ => kk))
        · trivial
    · trivial
  · trivial
def sg_yif_lt (pc tgt : Nat) : sg_F := fun L st M => match st with
  | .int x :: r => if x < 0 then sg_go tgt L r M else sg_go (pc + 3) L r M
  | .retAddr n :: r => if sg_rg n = true then (if (sg_kl (n % 16)).2 < 0 then sg_go tgt L r M else if 0 ≤ (sg_kl (n % 16)).1 then sg_go (pc + 3) L r M else none) else none
  | _ => none
theorem sg_ok_yif_lt {off : Int} {tgt : Nat} (hsy : sg_sy b) (hd : decode (sg_C P k) pc = .ok (.ifCond .lt off, 3)) (ht : (pc : Int) + off = (tgt : Int)) : sg_Ok D cl tys B b Ls xs Sx Ax P Tw k pc (sg_yif_lt pc tgt) := by
  intro p l e R s m args below meth c hF hC L st M μ H locs cells slots ls hJ
  obtain ⟨hx, hb, hml, hown, hts, hret, hlk, hfr, hlo, hnm, htr, htb⟩ := hF
  have z0 : Int32.toInt 0 = 0 := by decide
  unfold sg_yif_lt
  split
  · split
    · rename_i hc
      exact sg_pure hJ hJ.2.1 (sg_c1 hJ.2.2.1).2 (fun Q kk => lv_if_lt hx hb hd ht (fun _ => kk ls hJ.2.2.2.1) (fun h => absurd hc h))
    · rename_i hc
      exact sg_pure hJ hJ.2.1 (sg_c1 hJ.2.2.1).2 (fun Q kk => lv_if_lt hx hb hd ht (fun h => absurd h hc) (fun _ => kk ls hJ.2.2.2.1))
  · rename_i n r
    split
    · rename_i hr
      obtain ⟨r1, r2⟩ := sg_rg_ok hr
      obtain ⟨z1, z2⟩ := hsy n r1 r2
      have hv : sg_v μ (.retAddr n) = .int (sg_iv (b n)) := sg_symu hJ.1 r2
      have go : ∀ (pc1 : Nat), (∀ Q : State → Prop, W p l e R s m args below meth c H locs cells slots Q (F0 m pc1 ls (r.map (sg_v μ))) → W p l e R s m args below meth c H locs cells slots Q (F0 m pc ls (.int (sg_iv (b n)) :: r.map (sg_v μ)))) → sg_Res D cl tys B b P Tw k p l e R s m args below meth c μ M H locs cells slots pc ls (.retAddr n :: r) (sg_go pc1 L r M) := fun pc1 h => sg_pure hJ hJ.2.1 (sg_c1 hJ.2.2.1).2 (fun Q kk => by
        show W p l e R s m args below meth c H locs cells slots Q (F0 m pc ls (sg_v μ (.retAddr n) :: r.map (sg_v μ)))
        rw [hv]
        exact h Q (kk ls hJ.2.2.2.1))
      split
      · rename_i hc
        have h9 : sg_iv (b n) < 0 := by
          first | (rw [Int32.lt_iff_toInt_lt, z0]; omega) | (rw [Int32.le_iff_toInt_le, z0]; omega) | (intro z; rw [z, z0] at z1 z2; omega) | omega
        exact go _ (fun Q kk => lv_if_lt hx hb hd ht (fun _ => kk) (fun h => absurd h9 h))
      · split
        · rename_i hc
          have h9 : ¬ (sg_iv (b n) < 0) := by
            first | (rw [Int32.lt_iff_toInt_lt, z0]; omega) | (rw [Int32.le_iff_toInt_le, z0]; omega) | (intro z; rw [z, z0] at z1 z2; omega) | omega
          exact go _ (fun Q kk => lv_if_lt hx hb hd ht (fun h => absurd h h9) (fun _ => kk))
        · trivial
    · trivial
  · trivial
def sg_yif_ge (pc tgt : Nat) : sg_F := fun L st M => match st with
  | .int x :: r => if 0 ≤ x then sg_go tgt L r M else sg_go (pc + 3) L r M
  | .retAddr n :: r => if sg_rg n = true then (if 0 ≤ (sg_kl (n % 16)).1 then sg_go tgt L r M else if (sg_kl (n % 16)).2 < 0 then sg_go (pc + 3) L r M else none) else none
  | _ => none
theorem sg_ok_yif_ge {off : Int} {tgt : Nat} (hsy : sg_sy b) (hd : decode (sg_C P k) pc = .ok (.ifCond .ge off, 3)) (ht : (pc : Int) + off = (tgt : Int)) : sg_Ok D cl tys B b Ls xs Sx Ax P Tw k pc (sg_yif_ge pc tgt) := by
  intro p l e R s m args below meth c hF hC L st M μ H locs cells slots ls hJ
  obtain ⟨hx, hb, hml, hown, hts, hret, hlk, hfr, hlo, hnm, htr, htb⟩ := hF
  have z0 : Int32.toInt 0 = 0 := by decide
  unfold sg_yif_ge
  split
  · split
    · rename_i hc
      exact sg_pure hJ hJ.2.1 (sg_c1 hJ.2.2.1).2 (fun Q kk => lv_if_ge hx hb hd ht (fun _ => kk ls hJ.2.2.2.1) (fun h => absurd hc h))
    · rename_i hc
      exact sg_pure hJ hJ.2.1 (sg_c1 hJ.2.2.1).2 (fun Q kk => lv_if_ge hx hb hd ht (fun h => absurd h hc) (fun _ => kk ls hJ.2.2.2.1))
  · rename_i n r
    split
    · rename_i hr
      obtain ⟨r1, r2⟩ := sg_rg_ok hr
      obtain ⟨z1, z2⟩ := hsy n r1 r2
      have hv : sg_v μ (.retAddr n) = .int (sg_iv (b n)) := sg_symu hJ.1 r2
      have go : ∀ (pc1 : Nat), (∀ Q : State → Prop, W p l e R s m args below meth c H locs cells slots Q (F0 m pc1 ls (r.map (sg_v μ))) → W p l e R s m args below meth c H locs cells slots Q (F0 m pc ls (.int (sg_iv (b n)) :: r.map (sg_v μ)))) → sg_Res D cl tys B b P Tw k p l e R s m args below meth c μ M H locs cells slots pc ls (.retAddr n :: r) (sg_go pc1 L r M) := fun pc1 h => sg_pure hJ hJ.2.1 (sg_c1 hJ.2.2.1).2 (fun Q kk => by
        show W p l e R s m args below meth c H locs cells slots Q (F0 m pc ls (sg_v μ (.retAddr n) :: r.map (sg_v μ)))
        rw [hv]
        exact h Q (kk ls hJ.2.2.2.1))
      split
      · rename_i hc
        have h9 : 0 ≤ sg_iv (b n) := by
          first | (rw [Int32.lt_iff_toInt_lt, z0]; omega) | (rw [Int32.le_iff_toInt_le, z0]; omega) | (intro z; rw [z, z0] at z1 z2; omega) | omega
        exact go _ (fun Q kk => lv_if_ge hx hb hd ht (fun _ => kk) (fun h => absurd h9 h))
      · split
        · rename_i hc
          have h9 : ¬ (0 ≤ sg_iv (b n)) := by
            first | (rw [Int32.lt_iff_toInt_lt, z0]; omega) | (rw [Int32.le_iff_toInt_le, z0]; omega) | (intro z; rw [z, z0] at z1 z2; omega) | omega
          exact go _ (fun Q kk => lv_if_ge hx hb hd ht (fun h => absurd h h9) (fun _ => kk))
        · trivial
    · trivial
  · trivial
def sg_yif_gt (pc tgt : Nat) : sg_F := fun L st M => match st with
  | .int x :: r => if 0 < x then sg_go tgt L r M else sg_go (pc + 3) L r M
  | .retAddr n :: r => if sg_rg n = true then (if 0 < (sg_kl (n % 16)).1 then sg_go tgt L r M else if (sg_kl (n % 16)).2 ≤ 0 then sg_go (pc + 3) L r M else none) else none
  | _ => none
theorem sg_ok_yif_gt {off : Int} {tgt : Nat} (hsy : sg_sy b) (hd : decode (sg_C P k) pc = .ok (.ifCond .gt off, 3)) (ht : (pc : Int) + off = (tgt : Int)) : sg_Ok D cl tys B b Ls xs Sx Ax P Tw k pc (sg_yif_gt pc tgt) := by
  intro p l e R s m args below meth c hF hC L st M μ H locs cells slots ls hJ
  obtain ⟨hx, hb, hml, hown, hts, hret, hlk, hfr, hlo, hnm, htr, htb⟩ := hF
  have z0 : Int32.toInt 0 = 0 := by decide
  unfold sg_yif_gt
  split
  · split
    · rename_i hc
      exact sg_pure hJ hJ.2.1 (sg_c1 hJ.2.2.1).2 (fun Q kk => lv_if_gt hx hb hd ht (fun _ => kk ls hJ.2.2.2.1) (fun h => absurd hc h))
    · rename_i hc
      exact sg_pure hJ hJ.2.1 (sg_c1 hJ.2.2.1).2 (fun Q kk => lv_if_gt hx hb hd ht (fun h => absurd h hc) (fun _ => kk ls hJ.2.2.2.1))
  · rename_i n r
    split
    · rename_i hr
      obtain ⟨r1, r2⟩ := sg_rg_ok hr
      obtain ⟨z1, z2⟩ := hsy n r1 r2
      have hv : sg_v μ (.retAddr n) = .int (sg_iv (b n)) := sg_symu hJ.1 r2
      have go : ∀ (pc1 : Nat), (∀ Q : State → Prop, W p l e R s m args below meth c H locs cells slots Q (F0 m pc1 ls (r.map (sg_v μ))) → W p l e R s m args below meth c H locs cells slots Q (F0 m pc ls (.int (sg_iv (b n)) :: r.map (sg_v μ)))) → sg_Res D cl tys B b P Tw k p l e R s m args below meth c μ M H locs cells slots pc ls (.retAddr n :: r) (sg_go pc1 L r M) := fun pc1 h => sg_pure hJ hJ.2.1 (sg_c1 hJ.2.2.1).2 (fun Q kk => by
        show W p l e R s m args below meth c H locs cells slots Q (F0 m pc ls (sg_v μ (.retAddr n) :: r.map (sg_v μ)))
        rw [hv]
        exact h Q (kk ls hJ.2.2.2.1))
      split
      · rename_i hc
        have h9 : 0 < sg_iv (b n) := by
          first | (rw [Int32.lt_iff_toInt_lt, z0]; omega) | (rw [Int32.le_iff_toInt_le, z0]; omega) | (intro z; rw [z, z0] at z1 z2; omega) | omega
        exact go _ (fun Q kk => lv_if_gt hx hb hd ht (fun _ => kk) (fun h => absurd h9 h))
      · split
        · rename_i hc
          have h9 : ¬ (0 < sg_iv (b n)) := by
            first | (rw [Int32.lt_iff_toInt_lt, z0]; omega) | (rw [Int32.le_iff_toInt_le, z0]; omega) | (intro z; rw [z, z0] at z1 z2; omega) | omega
          exact go _ (fun Q kk => lv_if_gt hx hb hd ht (fun h => absurd h h9) (fun _ => kk))
        · trivial
    · trivial
  · trivial
def sg_yif_le (pc tgt : Nat) : sg_F := fun L st M => match st with
  | .int x :: r => if x ≤ 0 then sg_go tgt L r M else sg_go (pc + 3) L r M
  | .retAddr n :: r => if sg_rg n = true then (if (sg_kl (n % 16)).2 ≤ 0 then sg_go tgt L r M else if 0 < (sg_kl (n % 16)).1 then sg_go (pc + 3) L r M else none) else none
  | _ => none
theorem sg_ok_yif_le {off : Int} {tgt : Nat} (hsy : sg_sy b) (hd : decode (sg_C P k) pc = .ok (.ifCond .le off, 3)) (ht : (pc : Int) + off = (tgt : Int)) : sg_Ok D cl tys B b Ls xs Sx Ax P Tw k pc (sg_yif_le pc tgt) := by
  intro p l e R s m args below meth c hF hC L st M μ H locs cells slots ls hJ
  obtain ⟨hx, hb, hml, hown, hts, hret, hlk, hfr, hlo, hnm, htr, htb⟩ := hF
  have z0 : Int32.toInt 0 = 0 := by decide
  unfold sg_yif_le
  split
  · split
    · rename_i hc
      exact sg_pure hJ hJ.2.1 (sg_c1 hJ.2.2.1).2 (fun Q kk => lv_if_le hx hb hd ht (fun _ => kk ls hJ.2.2.2.1) (fun h => absurd hc h))
    · rename_i hc
      exact sg_pure hJ hJ.2.1 (sg_c1 hJ.2.2.1).2 (fun Q kk => lv_if_le hx hb hd ht (fun h => absurd h hc) (fun _ => kk ls hJ.2.2.2.1))
  · rename_i n r
    split
    · rename_i hr
      obtain ⟨r1, r2⟩ := sg_rg_ok hr
      obtain ⟨z1, z2⟩ := hsy n r1 r2
      have hv : sg_v μ (.retAddr n) = .int (sg_iv (b n)) := sg_symu hJ.1 r2
      have go : ∀ (pc1 : Nat), (∀ Q : State → Prop, W p l e R s m args below meth c H locs cells slots Q (F0 m pc1 ls (r.map (sg_v μ))) → W p l e R s m args below meth c H locs cells slots Q (F0 m pc ls (.int (sg_iv (b n)) :: r.map (sg_v μ)))) → sg_Res D cl tys B b P Tw k p l e R s m args below meth c μ M H locs cells slots pc ls (.retAddr n :: r) (sg_go pc1 L r M) := fun pc1 h => sg_pure hJ hJ.2.1 (sg_c1 hJ.2.2.1).2 (fun Q kk => by
        show W p l e R s m args below meth c H locs cells slots Q (F0 m pc ls (sg_v μ (.retAddr n) :: r.map (sg_v μ)))
        rw [hv]
        exact h Q (kk ls hJ.2.2.2.1))
      split
      · rename_i hc
        have h9 : sg_iv (b n) ≤ 0 := by
          first | (rw [Int32.lt_iff_toInt_lt, z0]; omega) | (rw [Int32.le_iff_toInt_le, z0]; omega) | (intro z; rw [z, z0] at z1 z2; omega) | omega
        exact go _ (fun Q kk => lv_if_le hx hb hd ht (fun _ => kk) (fun h => absurd h9 h))
      · split
        · rename_i hc
          have h9 : ¬ (sg_iv (b n) ≤ 0) := by
            first | (rw [Int32.lt_iff_toInt_lt, z0]; omega) | (rw [Int32.le_iff_toInt_le, z0]; omega) | (intro z; rw [z, z0] at z1 z2; omega) | omega
          exact go _ (fun Q kk => lv_if_le hx hb hd ht (fun h => absurd h h9) (fun _ => kk))
        · trivial
    · trivial
  · trivial
def sg_yif_eq (pc tgt : Nat) : sg_F := fun L st M => match st with
  | .int x :: r => if x = 0 then sg_go tgt L r M else sg_go (pc + 3) L r M
  | .retAddr n :: r => if sg_rg n = true then (if (sg_kl (n % 16)).2 < (sg_kl (n % 16)).1 then sg_go tgt L r M else if 0 < (sg_kl (n % 16)).1 ∨ (sg_kl (n % 16)).2 < 0 then sg_go (pc + 3) L r M else none) else none
  | _ => none
theorem sg_ok_yif_eq {off : Int} {tgt : Nat} (hsy : sg_sy b) (hd : decode (sg_C P k) pc = .ok (.ifCond .eq off, 3)) (ht : (pc : Int) + off = (tgt : Int)) : sg_Ok D cl tys B b Ls xs Sx Ax P Tw k pc (sg_yif_eq pc tgt) := by
  intro p l e R s m args below meth c hF hC L st M μ H locs cells slots ls hJ
  obtain ⟨hx, hb, hml, hown, hts, hret, hlk, hfr, hlo, hnm, htr, htb⟩ := hF
  have z0 : Int32.toInt 0 = 0 := by decide
  unfold sg_yif_eq
  split
  · split
    · rename_i hc
      exact sg_pure hJ hJ.2.1 (sg_c1 hJ.2.2.1).2 (fun Q kk => lv_if_eq hx hb hd ht (fun _ => kk ls hJ.2.2.2.1) (fun h => absurd hc h))
    · rename_i hc
      exact sg_pure hJ hJ.2.1 (sg_c1 hJ.2.2.1).2 (fun Q kk => lv_if_eq hx hb hd ht (fun h => absurd h hc) (fun _ => kk ls hJ.2.2.2.1))
  · rename_i n r
    split
    · rename_i hr
      obtain ⟨r1, r2⟩ := sg_rg_ok hr
      obtain ⟨z1, z2⟩ := hsy n r1 r2
      have hv : sg_v μ (.retAddr n) = .int (sg_iv (b n)) := sg_symu hJ.1 r2
      have go : ∀ (pc1 : Nat), (∀ Q : State → Prop, W p l e R s m args below meth c H locs cells slots Q (F0 m pc1 ls (r.map (sg_v μ))) → W p l e R s m args below meth c H locs cells slots Q (F0 m pc ls (.int (sg_iv (b n)) :: r.map (sg_v μ)))) → sg_Res D cl tys B b P Tw k p l e R s m args below meth c μ M H locs cells slots pc ls (.retAddr n :: r) (sg_go pc1 L r M) := fun pc1 h => sg_pure hJ hJ.2.1 (sg_c1 hJ.2.2.1).2 (fun Q kk => by
        show W p l e R s m args below meth c H locs cells slots Q (F0 m pc ls (sg_v μ (.retAddr n) :: r.map (sg_v μ)))
        rw [hv]
        exact h Q (kk ls hJ.2.2.2.1))
      split
      · rename_i hc
        have h9 : sg_iv (b n) = 0 := by
          first | (rw [Int32.lt_iff_toInt_lt, z0]; omega) | (rw [Int32.le_iff_toInt_le, z0]; omega) | (intro z; rw [z, z0] at z1 z2; omega) | omega
        exact go _ (fun Q kk => lv_if_eq hx hb hd ht (fun _ => kk) (fun h => absurd h9 h))
      · split
        · rename_i hc
          have h9 : ¬ (sg_iv (b n) = 0) := by
            first | (rw [Int32.lt_iff_toInt_lt, z0]; omega) | (rw [Int32.le_iff_toInt_le, z0]; omega) | (intro z; rw [z, z0] at z1 z2; omega) | omega
          exact go _ (fun Q kk => lv_if_eq hx hb hd ht (fun h => absurd h h9) (fun _ => kk))
        · trivial
    · trivial
  · trivial
def sg_yif_ne (pc tgt : Nat) : sg_F := fun L st M => match st with
  | .int x :: r => if ¬ x = 0 then sg_go tgt L r M else sg_go (pc + 3) L r M
  | .retAddr n :: r => if sg_rg n = true then (if 0 < (sg_kl (n % 16)).1 ∨ (sg_kl (n % 16)).2 < 0 then sg_go tgt L r M else if (sg_kl (n % 16)).2 < (sg_kl (n % 16)).1 then sg_go (pc + 3) L r M else none) else none
  | _ => none
theorem sg_ok_yif_ne {off : Int} {tgt : Nat} (hsy : sg_sy b) (hd : decode (sg_C P k) pc = .ok (.ifCond .ne off, 3)) (ht : (pc : Int) + off = (tgt : Int)) : sg_Ok D cl tys B b Ls xs Sx Ax P Tw k pc (sg_yif_ne pc tgt) := by
  intro p l e R s m args below meth c hF hC L st M μ H locs cells slots ls hJ
  obtain ⟨hx, hb, hml, hown, hts, hret, hlk, hfr, hlo, hnm, htr, htb⟩ := hF
  have z0 : Int32.toInt 0 = 0 := by decide
  unfold sg_yif_ne
  split
  · split
    · rename_i hc
      exact sg_pure hJ hJ.2.1 (sg_c1 hJ.2.2.1).2 (fun Q kk => lv_if_ne hx hb hd ht (fun _ => kk ls hJ.2.2.2.1) (fun h => absurd h hc))
    · rename_i hc
      exact sg_pure hJ hJ.2.1 (sg_c1 hJ.2.2.1).2 (fun Q kk => lv_if_ne hx hb hd ht (fun h => absurd h hc) (fun _ => kk ls hJ.2.2.2.1))
  · rename_i n r
    split
    · rename_i hr
      obtain ⟨r1, r2⟩ := sg_rg_ok hr
      obtain ⟨z1, z2⟩ := hsy n r1 r2
      have hv : sg_v μ (.retAddr n) = .int (sg_iv (b n)) := sg_symu hJ.1 r2
      have go : ∀ (pc1 : Nat), (∀ Q : State → Prop, W p l e R s m args below meth c H locs cells slots Q (F0 m pc1 ls (r.map (sg_v μ))) → W p l e R s m args below meth c H locs cells slots Q (F0 m pc ls (.int (sg_iv (b n)) :: r.map (sg_v μ)))) → sg_Res D cl tys B b P Tw k p l e R s m args below meth c μ M H locs cells slots pc ls (.retAddr n :: r) (sg_go pc1 L r M) := fun pc1 h => sg_pure hJ hJ.2.1 (sg_c1 hJ.2.2.1).2 (fun Q kk => by
        show W p l e R s m args below meth c H locs cells slots Q (F0 m pc ls (sg_v μ (.retAddr n) :: r.map (sg_v μ)))
        rw [hv]
        exact h Q (kk ls hJ.2.2.2.1))
      split
      · rename_i hc
        have h9 : ¬ sg_iv (b n) = 0 := by
          first | (rw [Int32.lt_iff_toInt_lt, z0]; omega) | (rw [Int32.le_iff_toInt_le, z0]; omega) | (intro z; rw [z, z0] at z1 z2; omega) | omega
        exact go _ (fun Q kk => lv_if_ne hx hb hd ht (fun _ => kk) (fun h => absurd h h9))
      · split
        · rename_i hc
          have h9 : ¬ (¬ sg_iv (b n) = 0) := by
            first | (rw [Int32.lt_iff_toInt_lt, z0]; omega) | (rw [Int32.le_iff_toInt_le, z0]; omega) | (intro z; rw [z, z0] at z1 z2; omega) | omega
          exact go _ (fun Q kk => lv_if_ne hx hb hd ht (fun h => absurd h h9) (fun _ => kk))
        · trivial
    · trivial
  · trivial
def sg_opc (pc : Nat) (kx : Int32) : sg_F := fun L st M => match st with
  | .int 63 :: .retAddr 16 :: r => sg_go (pc + 1) L (.int kx :: r) M
  | _ => none
theorem sg_ok_opc {kx : Int32} (hkx : sg_iv (b 16) &&& 63 = kx) (hd : decode (sg_C P k) pc = .ok (.iand, 1)) : sg_Ok D cl tys B b Ls xs Sx Ax P Tw k pc (sg_opc pc kx) := by
  intro p l e R s m args below meth c hF hC L st M μ H locs cells slots ls hJ
  obtain ⟨hx, hb, hml, hown, hts, hret, hlk, hfr, hlo, hnm, htr, htb⟩ := hF
  unfold sg_opc
  split
  · rename_i r
    refine sg_pure hJ hJ.2.1 (sg_cc sg_wi (sg_c1 (sg_c1 hJ.2.2.1).2).2) (fun Q kk => ?_)
    show W p l e R s m args below meth c H locs cells slots Q (F0 m pc ls (.int 63 :: sg_v μ (.retAddr 16) :: r.map (sg_v μ)))
    rw [sg_symu hJ.1 (by decide)]
    refine lv_iand hx hb hd ?_
    rw [hkx]
    exact kk ls hJ.2.2.2.1
  · trivial
def sg_lald (pc t : Nat) : sg_F := fun L st M => match st with
  | .int i :: .ref a :: r => match M.1 a with
    | some (.inl (t1, n, .inr (.inl f))) => if t1 = t ∧ sg_in i n = true then sg_go (pc + 1) L (.long (f i.toNatClampNeg) :: r) M else none
    | _ => none
  | _ => none
theorem sg_ok_lald {t : Nat} (ht : tys[t]? = some (sg_tc tys t, .long)) (hd : decode (sg_C P k) pc = .ok (.laload, 1)) : sg_Ok D cl tys B b Ls xs Sx Ax P Tw k pc (sg_lald pc t) := by
  intro p l e R s m args below meth c hF hC L st M μ H locs cells slots ls hJ
  obtain ⟨hx, hb, hml, hown, hts, hret, hlk, hfr, hlo, hnm, htr, htb⟩ := hF
  unfold sg_lald
  split
  · rename_i i a r
    split
    · rename_i t1 n f he
      split
      · rename_i hi
        obtain ⟨h1, hi⟩ := hi
        subst h1
        exact sg_pure hJ hJ.2.1 (sg_cc sg_wl (sg_c1 (sg_c1 hJ.2.2.1).2).2) (fun Q kk => va_lald hx hb hC.1 (hJ.1.one he).1 0 t1 rfl ht (sg_in_ok hi) hd (kk ls hJ.2.2.2.1))
      · trivial
    · trivial
  · trivial
def sg_last (pc t : Nat) : sg_F := fun L st M => match st with
  | .long x :: .int i :: .ref a :: r => match M.1 a with
    | some (.inl (t1, n, .inr (.inl f))) => if t1 = t ∧ sg_in i n = true then some (.inl (pc + 1, L, r, (sg_up M.1 a (.inl (t1, n, .inr (.inl (vp_updL f i.toNatClampNeg x)))), M.2), 0, 0)) else none
    | _ => none
  | _ => none
theorem sg_ok_last {t : Nat} (ht : tys[t]? = some (sg_tc tys t, .long)) (hd : decode (sg_C P k) pc = .ok (.lastore, 1)) : sg_Ok D cl tys B b Ls xs Sx Ax P Tw k pc (sg_last pc t) := by
  intro p l e R s m args below meth c hF hC L st M μ H locs cells slots ls hJ
  obtain ⟨hx, hb, hml, hown, hts, hret, hlk, hfr, hlo, hnm, htr, htb⟩ := hF
  unfold sg_last
  split
  · rename_i x i a r
    split
    · rename_i t1 n f he
      split
      · rename_i hi
        obtain ⟨h1, hi⟩ := hi
        subst h1
        obtain ⟨ws, g1, g2, g3, g4⟩ := hJ.1.world
        obtain ⟨q0, hq0⟩ := g3 a _ he
        exact ⟨Nat.le_refl _, fun Q _ _ kk => va_last hx hb hC.1 g1 g2 hJ.2.2.2.2 q0 t1 hq0 ht (sg_in_ok hi) hd (fun H1 locs1 p1 p2 p3 => kk μ H1 locs1 ls sg_X.rf ⟨hJ.1.set g3 he hq0 (e := .inl (t1, n, .inr (.inl (vp_updL f i.toNatClampNeg x)))) (sg_warr sg_wAl) p1, hJ.2.1, (sg_c1 (sg_c1 (sg_c1 hJ.2.2.1).2).2).2, hJ.2.2.2.1, p3⟩)⟩
      · trivial
    · trivial
  · trivial
def sg_zald (pc t : Nat) : sg_F := fun L st M => match st with
  | .int i :: .ref a :: r => match M.1 a with
    | some (.inl (t1, n, .inl f)) => if t1 = t ∧ sg_in i n = true then sg_go (pc + 1) L (.int (f i.toNatClampNeg) :: r) M else none
    | _ => none
  | _ => none
theorem sg_ok_zald {t : Nat} (ht : tys[t]? = some (sg_tc tys t, .boolean)) (hd : decode (sg_C P k) pc = .ok (.baload, 1)) : sg_Ok D cl tys B b Ls xs Sx Ax P Tw k pc (sg_zald pc t) := by
  intro p l e R s m args below meth c hF hC L st M μ H locs cells slots ls hJ
  obtain ⟨hx, hb, hml, hown, hts, hret, hlk, hfr, hlo, hnm, htr, htb⟩ := hF
  unfold sg_zald
  split
  · rename_i i a r
    split
    · rename_i t1 n f he
      split
      · rename_i hi
        obtain ⟨h1, hi⟩ := hi
        subst h1
        exact sg_pure hJ hJ.2.1 (sg_cc sg_wi (sg_c1 (sg_c1 hJ.2.2.1).2).2) (fun Q kk => va_zald hx hb hC.1 (hJ.1.one he).1 0 t1 rfl ht (sg_in_ok hi) hd (kk ls hJ.2.2.2.1))
      · trivial
    · trivial
  · trivial
def sg_zast (pc t : Nat) : sg_F := fun L st M => match st with
  | .int x :: .int i :: .ref a :: r => match M.1 a with
    | some (.inl (t1, n, .inl f)) => if t1 = t ∧ sg_in i n = true then some (.inl (pc + 1, L, r, (sg_up M.1 a (.inl (t1, n, .inl (upd f i.toNatClampNeg (vp_nar .boolean x)))), M.2), 0, 0)) else none
    | _ => none
  | _ => none
theorem sg_ok_zast {t : Nat} (ht : tys[t]? = some (sg_tc tys t, .boolean)) (hd : decode (sg_C P k) pc = .ok (.bastore, 1)) : sg_Ok D cl tys B b Ls xs Sx Ax P Tw k pc (sg_zast pc t) := by
  intro p l e R s m args below meth c hF hC L st M μ H locs cells slots ls hJ
  obtain ⟨hx, hb, hml, hown, hts, hret, hlk, hfr, hlo, hnm, htr, htb⟩ := hF
  unfold sg_zast
  split
  · rename_i x i a r
    split
    · rename_i t1 n f he
      split
      · rename_i hi
        obtain ⟨h1, hi⟩ := hi
        subst h1
        obtain ⟨ws, g1, g2, g3, g4⟩ := hJ.1.world
        obtain ⟨q0, hq0⟩ := g3 a _ he
        exact ⟨Nat.le_refl _, fun Q _ _ kk => va_zast hx hb hC.1 g1 g2 hJ.2.2.2.2 q0 t1 hq0 ht (sg_in_ok hi) hd (fun H1 locs1 p1 p2 p3 => kk μ H1 locs1 ls sg_X.rf ⟨hJ.1.set g3 he hq0 (e := .inl (t1, n, .inl (upd f i.toNatClampNeg (vp_nar .boolean x)))) (sg_warr sg_wAi) p1, hJ.2.1, (sg_c1 (sg_c1 (sg_c1 hJ.2.2.1).2).2).2, hJ.2.2.2.1, p3⟩)⟩
      · trivial
    · trivial
  · trivial
def sg_dload (pc n i : Nat) : sg_F := fun L st M => match sg_at L i with
  | some (.double x) => sg_go (pc + n) L (.double x :: st) M
  | _ => none
def sg_dstore (pc n i : Nat) : sg_F := fun L st M => match st with
  | .double x :: r => sg_go (pc + n) (sg_st2 L i (.double x)) r M
  | _ => none
theorem sg_ok_dconst0 (hd : decode (sg_C P k) pc = .ok (.dconst 0, 1)) : sg_Ok D cl tys B b Ls xs Sx Ax P Tw k pc (sg_k pc 1 (.double FP.dconst0)) := by
  intro p l e R s m args below meth c hF hC L st M μ H locs cells slots ls hJ
  obtain ⟨hx, hb, hml, hown, hts, hret, hlk, hfr, hlo, hnm, htr, htb⟩ := hF
  exact sg_pure hJ hJ.2.1 (sg_cc sg_wd hJ.2.2.1) (fun Q kk => lv_dconst0 hx hb hd (kk ls hJ.2.2.2.1))
theorem sg_ok_dload_n {i : Nat} {j : Fin 4} (hi : (j : Nat) = i) (hd : decode (sg_C P k) pc = .ok (.dload_n j, 1)) : sg_Ok D cl tys B b Ls xs Sx Ax P Tw k pc (sg_dload pc 1 i) := by
  intro p l e R s m args below meth c hF hC L st M μ H locs cells slots ls hJ
  obtain ⟨hx, hb, hml, hown, hts, hret, hlk, hfr, hlo, hnm, htr, htb⟩ := hF
  unfold sg_dload
  split
  · rename_i x hg
    exact sg_pure hJ hJ.2.1 (sg_cc sg_wd hJ.2.2.1) (fun Q kk => lv_dload_n hx hb hd hi (sg_at_ls hJ.2.2.2.1 hg) (kk ls hJ.2.2.2.1))
  · trivial
theorem sg_ok_dstore_n {i : Nat} {j : Fin 4} (hi : (j : Nat) = i) (hn : i + 1 < sg_N P k) (hd : decode (sg_C P k) pc = .ok (.dstore_n j, 1)) : sg_Ok D cl tys B b Ls xs Sx Ax P Tw k pc (sg_dstore pc 1 i) := by
  intro p l e R s m args below meth c hF hC L st M μ H locs cells slots ls hJ
  obtain ⟨hx, hb, hml, hown, hts, hret, hlk, hfr, hlo, hnm, htr, htb⟩ := hF
  unfold sg_dstore
  split
  · rename_i x r
    exact sg_pure hJ (sg_st2_w hJ.2.1 (sg_c1 hJ.2.2.1).1) (sg_c1 hJ.2.2.1).2 (fun Q kk => lv_dstore_n hx hb hd hi hJ.2.2.2.1 hn rfl (fun ls1 hl1 => kk ls1 (sg_sub hl1 (sg_st2_map (μ := μ) (v := .double x)))))
  · trivial
theorem sg_ok_dload {i : Nat} (hd : decode (sg_C P k) pc = .ok (.dload i, 2)) : sg_Ok D cl tys B b Ls xs Sx Ax P Tw k pc (sg_dload pc 2 i) := by
  intro p l e R s m args below meth c hF hC L st M μ H locs cells slots ls hJ
  obtain ⟨hx, hb, hml, hown, hts, hret, hlk, hfr, hlo, hnm, htr, htb⟩ := hF
  unfold sg_dload
  split
  · rename_i x hg
    exact sg_pure hJ hJ.2.1 (sg_cc sg_wd hJ.2.2.1) (fun Q kk => lv_dload hx hb hd (sg_at_ls hJ.2.2.2.1 hg) (kk ls hJ.2.2.2.1))
  · trivial
theorem sg_ok_dstore {i : Nat} (hn : i + 1 < sg_N P k) (hd : decode (sg_C P k) pc = .ok (.dstore i, 2)) : sg_Ok D cl tys B b Ls xs Sx Ax P Tw k pc (sg_dstore pc 2 i) := by
  intro p l e R s m args below meth c hF hC L st M μ H locs cells slots ls hJ
  obtain ⟨hx, hb, hml, hown, hts, hret, hlk, hfr, hlo, hnm, htr, htb⟩ := hF
  unfold sg_dstore
  split
  · rename_i x r
    exact sg_pure hJ (sg_st2_w hJ.2.1 (sg_c1 hJ.2.2.1).1) (sg_c1 hJ.2.2.1).2 (fun Q kk => lv_dstore hx hb hd hJ.2.2.2.1 hn rfl (fun ls1 hl1 => kk ls1 (sg_sub hl1 (sg_st2_map (μ := μ) (v := .double x)))))
  · trivial
def sg_dcmp (pc : Nat) (op : CmpOp) : sg_F := fun L st M => match st with
  | .double y :: .double x :: r => sg_go (pc + 1) L (.int (Op.cmpValue (FP.dcmp x y) op) :: r) M
  | _ => none
theorem sg_ok_dcmp {op : CmpOp} (hd : decode (sg_C P k) pc = .ok (.dcmp op, 1)) : sg_Ok D cl tys B b Ls xs Sx Ax P Tw k pc (sg_dcmp pc op) := by
  intro p l e R s m args below meth c hF hC L st M μ H locs cells slots ls hJ
  obtain ⟨hx, hb, hml, hown, hts, hret, hlk, hfr, hlo, hnm, htr, htb⟩ := hF
  unfold sg_dcmp
  split
  · exact sg_pure hJ hJ.2.1 (sg_cc sg_wi (sg_c1 (sg_c1 hJ.2.2.1).2).2) (fun Q kk => lv_dcmp hx hb hd (kk ls hJ.2.2.2.1))
  · trivial
def sg_dret : sg_F := fun L st M => match st with
  | [.double x] => some (.inr (.inr (.inl (some (.double x)))))
  | _ => none
theorem sg_ok_dret (hT : sg_T P k = some .double) (hd : decode (sg_C P k) pc = .ok (.dreturn, 1)) : sg_Ok D cl tys B b Ls xs Sx Ax P Tw k pc sg_dret := by
  intro p l e R s m args below meth c hF hC L st M μ H locs cells slots ls hJ
  obtain ⟨hx, hb, hml, hown, hts, hret, hlk, hfr, hlo, hnm, htr, htb⟩ := hF
  unfold sg_dret
  split
  · rename_i x
    exact ⟨fun y hy => by cases hy; exact sg_wd, fun Qc XC free hq hf => vx_ret (W.dret (v := x) hx hb (hret.trans hT) hq hf hd hlk)⟩
  · trivial
/-- two references of which one at least is null, or both the same number -/
def sg_acmp_ne (pc tgt : Nat) : sg_F := fun L st M => match st with
  | .null :: .null :: r => sg_go (pc + 3) L r M
  | .null :: .ref _ :: r => sg_go tgt L r M
  | .ref _ :: .null :: r => sg_go tgt L r M
  | .ref a :: .ref a' :: r => if a = a' then sg_go (pc + 3) L r M else none
  | _ => none
theorem sg_ok_acmp_ne {off : Int} {tgt : Nat} (hd : decode (sg_C P k) pc = .ok (.if_acmp .ne off, 3)) (ht : (pc : Int) + off = (tgt : Int)) : sg_Ok D cl tys B b Ls xs Sx Ax P Tw k pc (sg_acmp_ne pc tgt) := by
  intro p l e R s m args below meth c hF hC L st M μ H locs cells slots ls hJ
  obtain ⟨hx, hb, hml, hown, hts, hret, hlk, hfr, hlo, hnm, htr, htb⟩ := hF
  unfold sg_acmp_ne
  split
  · exact sg_pure hJ hJ.2.1 (sg_c1 (sg_c1 hJ.2.2.1).2).2 (fun Q kk => lv_acmp_ne (rx := none) (ry := none) hx hb hd ht (fun h => absurd rfl h) (fun _ => kk ls hJ.2.2.2.1))
  · exact sg_pure hJ hJ.2.1 (sg_c1 (sg_c1 hJ.2.2.1).2).2 (fun Q kk => lv_acmp_ne (rx := some _) (ry := none) hx hb hd ht (fun _ => kk ls hJ.2.2.2.1) (fun h => by cases h))
  · exact sg_pure hJ hJ.2.1 (sg_c1 (sg_c1 hJ.2.2.1).2).2 (fun Q kk => lv_acmp_ne (rx := none) (ry := some _) hx hb hd ht (fun _ => kk ls hJ.2.2.2.1) (fun h => by cases h))
  · rename_i a a' r
    split
    · rename_i haa
      subst haa
      exact sg_pure hJ hJ.2.1 (sg_c1 (sg_c1 hJ.2.2.1).2).2 (fun Q kk => lv_acmp_ne (rx := some (μ a)) (ry := some (μ a)) hx hb hd ht (fun h => absurd rfl h) (fun _ => kk ls hJ.2.2.2.1))
    · trivial
  · trivial
/-- a row of rows -/
def sg_newr (pc t : Nat) : sg_F := fun L st M => match st with
  | .int n :: r => if n < 0 ∨ 65536 < n.toNatClampNeg then none else some (.inl (pc + 3, L, .ref M.2 :: r, (sg_up M.1 M.2 (.inl (t, n.toNatClampNeg, .inr (.inr (.inr (.inr (fun _ => none)))))), M.2 + 1), 1, n.toNatClampNeg))
  | _ => none
theorem sg_ok_newr {t index : Nat} {ty : FieldType} {C : String} (hC0 : C = (FieldType.array ty).toString) (ht : tys[t]? = some (sg_tc tys t, .array ty)) (hw : Cond.classLink (sg_Y P k).cls index C ∈ Tw) (hA : ∀ (B : Nat) (U : State) (H : Heap), sg_Cx D cl tys B b Ls xs Sx Ax U H → (Cond.arrayOver (.array ty)).before #[] U = true) (hd : decode (sg_C P k) pc = .ok (.anewarray index, 3)) : sg_Ok D cl tys B b Ls xs Sx Ax P Tw k pc (sg_newr pc t) := by
  intro p l e R s m args below meth c hF hC L st M μ H locs cells slots ls hJ
  obtain ⟨hx, hb, hml, hown, hts, hret, hlk, hfr, hlo, hnm, htr, htb⟩ := hF
  subst hC0
  unfold sg_newr
  split
  · rename_i n r
    split
    · trivial
    · rename_i hn
      have hn0 : ¬ n < 0 := fun z => hn (Or.inl z)
      have hn1 : n.toNatClampNeg ≤ 65536 := by omega
      obtain ⟨ws, g1, g2, g3, g4⟩ := hJ.1.world
      have hst := (sg_c1 hJ.2.2.1).2
      refine ⟨Nat.le_succ _, fun Q hc1 hc2 kk => W.anewA hx hb hown (hts _ hw) (hA B s s.heap hC) rfl hd rfl hn0 (by omega) hc1 hc2 fun cA kA comp f1 f2 f3 f4 => ?_⟩
      have hcA : cA = sg_tc tys t := Option.some.inj (f1.symm.trans (hC.1.2 t _ ht).2)
      subst hcA
      generalize hH1 : H.push ({ cls := sg_tc tys t, slots := Array.replicate n.toNatClampNeg .null, vm := .none } : Cell) = H1
      have e1 : H1[H.size]? = some (arrV (sg_tc tys t) n.toNatClampNeg (fun _ => .null)) := by rw [← hH1, Array.getElem?_push_size, ← arrV_new]
      have z1 : H1.size = H.size + 1 := by rw [← hH1, Array.size_push]
      have o1 : ∀ q : Nat, q < H.size → H1[q]? = H[q]? := fun q hq => by rw [← hH1, Array.getElem?_push, if_neg (Nat.ne_of_lt hq)]
      have hB : B ≤ H.size := Nat.le_trans hC.2.2.2.1 hJ.2.2.2.2.1
      obtain ⟨i1, i2⟩ := hJ.1.new (q := H.size) (e := .inl (t, n.toNatClampNeg, .inr (.inr (.inr (.inr (fun _ => none)))))) (H1 := H1) (sg_warr (fun _ _ e9 j a ha => by cases e9; cases ha)) e1 o1 (Nat.le_refl _) hB
      have hk := kk _ H1 locs ls i2 ⟨i1, fun z hz => (hJ.2.1 z hz).mono (Nat.le_succ _), sg_cc (fun a e => by rcases e with e | e <;> cases e <;> exact Nat.lt_succ_self _) (fun v hv => (hst v hv).mono (Nat.le_succ _)), by rw [sg_ls_x hJ.2.1 i2]; exact hJ.2.2.2.1, ⟨Nat.le_trans hJ.2.2.2.2.1 (by omega), fun x h1 h2 => (o1 x (Nat.lt_of_lt_of_le h1 hJ.2.2.2.2.1)).trans (hJ.2.2.2.2.2.1 x h1 h2), hJ.2.2.2.2.2.2⟩⟩
      rw [List.map_cons, sg_vs_x hst i2] at hk
      have e8 : sg_v (fun x => if x = M.2 then H.size else μ x) (.ref M.2) = .ref H.size := congrArg Value.ref (if_pos rfl)
      rw [e8] at hk
      exact hk
  · trivial
/-- the empty row into a row of rows -/
def sg_aas1 (pc t : Nat) : sg_F := fun L st M => match st with
  | .ref 1 :: .int i :: .ref a :: r => match M.1 a with
    | some (.inl (t1, n, .inr (.inr (.inr (.inr f))))) => if t1 = t ∧ sg_in i n = true then some (.inl (pc + 1, L, r, (sg_up M.1 a (.inl (t1, n, .inr (.inr (.inr (.inr (va_up f i.toNatClampNeg (some 1))))))), M.2), 0, 0)) else none
    | _ => none
  | _ => none
theorem sg_ok_aas1 {t : Nat} (ht : tys[t]? = some (sg_tc tys t, .array .int)) (hd : decode (sg_C P k) pc = .ok (.aastore, 1)) : sg_Ok D cl tys B b Ls xs Sx Ax P Tw k pc (sg_aas1 pc t) := by
  intro p l e R s m args below meth c hF hC L st M μ H locs cells slots ls hJ
  obtain ⟨hx, hb, hml, hown, hts, hret, hlk, hfr, hlo, hnm, htr, htb⟩ := hF
  unfold sg_aas1
  split
  · rename_i i a r
    split
    · rename_i t1 n f he
      split
      · rename_i hi
        obtain ⟨h1, hi⟩ := hi
        subst h1
        obtain ⟨ws, g1, g2, g3, g4⟩ := hJ.1.world
        obtain ⟨q0, hq0⟩ := g3 a _ he
        have hin := sg_in_ok hi
        have hlt : i.toNatClampNeg < n := Nat.not_le.mp fun q => hin (Or.inr q)
        have h0 : ¬ i < 0 := fun q => hin (Or.inl q)
        obtain ⟨-, hb1, cell, c1, c2, c3⟩ := hC.2.2.2.2.2.2.2.2.1
        have c1' : H[b 1]? = some cell := by rw [hJ.2.2.2.2.2.1 (b 1) (Array.getElem?_eq_some_iff.mp c1).1 (Nat.not_le.mpr hb1)]; exact c1
        obtain ⟨comp, cc, kA, f1, f2, f3, f4, f5⟩ := arrayOverA_spec hC.2.2.2.2.2.2.2.2.2.1
        have hcA : cc = sg_tc tys t1 := Option.some.inj (f5.symm.trans (hC.1.2 t1 _ ht).2)
        subst hcA
        have hcomp : cell.cls = comp := Option.some.inj (c3.symm.trans f1)
        obtain ⟨kC, hkC, -⟩ := Vm.findClass_spec f1
        refine ⟨Nat.le_refl _, fun Q _ _ kk => ?_⟩
        show W p l e R s m args below meth c H locs cells slots Q (F0 m pc ls (.ref (μ 1) :: .int i :: .ref (μ a) :: r.map (sg_v μ)))
        rw [hJ.1.2.2.2.2 1 (by decide)]
        refine W.aast hx hb (g1 q0 _ hq0) (fun q h => by cases h) (fun h => by cases h) f3 f4 rfl hkC ⟨h0, by show _ < (arrV _ _ _).slots.size; rw [arrV_size]; exact hlt⟩ c1' (fun q h => by rw [h] at c2; cases c2) (by rw [hcomp]; exact hkC) (by rw [hcomp]; exact va_asg _ _) rfl rfl hd fun H1 e z oq => ?_
        refine kk μ H1 _ ls sg_X.rf ⟨hJ.1.set g3 he hq0 (e := .inl (t1, n, .inr (.inr (.inr (.inr (va_up f i.toNatClampNeg (some 1))))))) (sg_warr ?_) (g1.set g2 hq0 ?_ oq), hJ.2.1, (sg_c1 (sg_c1 (sg_c1 hJ.2.2.1).2).2).2, hJ.2.2.2.1, hJ.2.2.2.2.put z oq (g2.2 q0 _ hq0)⟩
        · intro k9 f9 e9 j y hy
          cases e9
          have hy : (if j = i.toNatClampNeg then some 1 else f j) = some y := hy
          by_cases hz : j = i.toNatClampNeg
          · rw [if_pos hz] at hy; cases hy
            exact Nat.lt_of_lt_of_le (by decide : 1 < sg_pn) hJ.1.2.2.2.1
          · rw [if_neg hz] at hy
            exact (hJ.1.1 a _ he).2.1.1 _ _ rfl _ _ rfl _ _ hy
        · show H1[μ a]? = some (vp_cell _ _)
          rw [e]
          show some ((arrV (sg_tc tys t1) n (fun j => va_rf ((f j).map μ))).setSlot _ _) = some (arrV (sg_tc tys t1) n (fun j => va_rf ((va_up f i.toNatClampNeg (some 1) j).map μ)))
          rw [arrV_store]
          congr 2
          funext q
          have e1 : μ 1 = b 1 := hJ.1.2.2.2.2 1 (by decide)
          by_cases hq : q = i.toNatClampNeg
          · subst hq
            simp [updV, va_up, va_rf, e1]
          · simp [updV, va_up, hq]
      · trivial
    · trivial
  · trivial
/-- checkcast of a row to its own class -/
def sg_cast (pc t : Nat) : sg_F := fun L st M => match st with
  | .ref a :: r => match M.1 a with
    | some (.inl (t1, x)) => if t1 = t then sg_go (pc + 3) L (.ref a :: r) M else none
    | _ => none
  | _ => none
theorem sg_ok_cast {t index : Nat} {ty : FieldType} {nm : String} (hnm9 : nm = "[" ++ (FieldType.array ty).toString) (ht : tys[t]? = some (sg_tc tys t, .array ty)) (hw : Cond.classLink (sg_Y P k).cls index nm ∈ Tw) (hd : decode (sg_C P k) pc = .ok (.checkcast index, 3)) : sg_Ok D cl tys B b Ls xs Sx Ax P Tw k pc (sg_cast pc t) := by
  intro p l e R s m args below meth c hF hC L st M μ H locs cells slots ls hJ
  obtain ⟨hx, hb, hml, hown, hts, hret, hlk, hfr, hlo, hnm, htr, htb⟩ := hF
  subst hnm9
  unfold sg_cast
  split
  · rename_i a r
    split
    · rename_i t1 x he
      split
      · rename_i h1
        subst h1
        exact sg_pure hJ hJ.2.1 hJ.2.2.1 (fun Q kk => va_castA hx hb hown (hts _ hw) (hJ.1.one he).1 0 rfl (hC.1.2 t1 _ ht).2 hd (kk ls hJ.2.2.2.1))
      · trivial
    · trivial
  · trivial
/-- the static that holds the empty row -/
def sg_gets (pc : Nat) : sg_F := fun L st M => sg_go (pc + 3) L (.ref 1 :: st) M
theorem sg_ok_gets {index : Nat} (hw : Cond.fieldLink (sg_Y P k).cls index "StrataRepoModel" "EMPTY" "[I" ∈ Tw) (hd : decode (sg_C P k) pc = .ok (.getstatic index, 3)) : sg_Ok D cl tys B b Ls xs Sx Ax P Tw k pc (sg_gets pc) := by
  intro p l e R s m args below meth c hF hC L st M μ H locs cells slots ls hJ
  obtain ⟨hx, hb, hml, hown, hts, hret, hlk, hfr, hlo, hnm, htr, htb⟩ := hF
  refine sg_pure hJ hJ.2.1 (sg_cc (fun a e => by rcases e with e | e <;> cases e; exact Nat.lt_of_lt_of_le (by decide : 1 < sg_pn) hJ.1.2.2.2.1) hJ.2.2.1) (fun Q kk => ?_)
  have kk := kk ls hJ.2.2.2.1
  rw [List.map_cons, show sg_v μ (.ref 1) = .ref (b 1) from congrArg Value.ref (hJ.1.2.2.2.2 1 (by decide))] at kk
  exact va_gets hx hb hC.2.2.2.2.2.2.2.2.1.1 hJ.2.2.2.2 hown (hts _ hw) (fun _ h => h) hd kk
/-- a copy of a row of references -/
def sg_clone (pc t : Nat) (P : sg_P) (k : Nat) : sg_F := fun L st M => match st with
  | .ref a :: r => match M.1 a with
    | some (.inl (t1, n, .inr (.inr (.inr (.inr f))))) => if t1 = t ∧ 1 ≤ sg_fr P k ∧ (r.map fun v => v.category).sum + 14 ≤ sg_lo P k then some (.inl (pc + 3, L, .ref M.2 :: r, (sg_up M.1 M.2 (.inl (t1, n, .inr (.inr (.inr (.inr f))))), M.2 + 1), 1, n)) else none
    | _ => none
  | _ => none
theorem sg_ok_clone {t index : Nat} {ty : FieldType} {ad : String} (had : ad = "[" ++ (FieldType.array ty).toString) (ht : tys[t]? = some (sg_tc tys t, .array ty)) (h1 : Cond.methodLink (sg_Y P k).cls index ⟨ad, "clone", "()Ljava/lang/Object;"⟩ ∈ Tw) (h2 : ∀ (B : Nat) (U : State) (H : Heap), (∀ w ∈ Tw, w.before #[] U = true) → True)
    (h3 : Cond.sameMethod ad "java/lang/Object" "clone" "()Ljava/lang/Object;" ∈ Tw) (h4 : Cond.native ⟨"java/lang/Object", "clone", "()Ljava/lang/Object;"⟩ ∈ Tw) (h5 : Cond.instanceMethod ⟨"java/lang/Object", "clone", "()Ljava/lang/Object;"⟩ ∈ Tw) (h6 : Cond.selects ad ⟨ad, "clone", "()Ljava/lang/Object;"⟩ ⟨"java/lang/Object", "clone", "()Ljava/lang/Object;"⟩ ∈ Tw) (h7 : Cond.castable ad "java/lang/Cloneable" ∈ Tw) (hd : decode (sg_C P k) pc = .ok (.invokevirtual index, 3)) : sg_Ok D cl tys B b Ls xs Sx Ax P Tw k pc (sg_clone pc t P k) := by
  intro p l e R s m args below meth c hF hC L st M μ H locs cells slots ls hJ
  obtain ⟨hx, hb, hml, hown, hts, hret, hlk, hfr, hlo, hnm, htr, htb⟩ := hF
  subst had
  unfold sg_clone
  split
  · rename_i a r
    split
    · rename_i t1 n f he
      split
      · rename_i hi
        obtain ⟨z1, z2, z3⟩ := hi
        subst z1
        obtain ⟨ws, g1, g2, g3, g4⟩ := hJ.1.world
        obtain ⟨q0, hq0⟩ := g3 a _ he
        have hst := (sg_c1 hJ.2.2.1).2
        refine ⟨Nat.le_succ _, fun Q hc1 hc2 kk => va_clone hx hb (hml.trans hJ.2.2.2.1.1.symm) hown (hts _ h1) (hts _ h3) (hts _ h4) (hts _ h5) (hts _ h6) (va_Nw.of rfl (hts _ h7)) hC.1 g1 g2 hJ.2.2.2.2 (fun q hq => Nat.le_trans hC.2.2.2.1 hq) q0 t1 hq0 ht (hC.1.2 t1 _ ht).2 ?_ (by rw [hfr]; exact z2) (by rw [hlo, sg_cats]; exact z3) hc1 hc2 hd (fun q H1 pK p1 p2 p3 => ?_)⟩
        · intro i v hv
          have hv : (arrV (sg_tc tys t1) n (fun j => va_rf ((f j).map μ))).slots[i]? = some v := hv
          have hlt : i < n := by
            have := (Array.getElem?_eq_some_iff.mp hv).1
            rw [arrV_size] at this
            exact this
          rw [arrV_read _ _ hlt] at hv
          have hv := Option.some.inj hv
          subst hv
          cases (f i).map μ <;> rfl
        · obtain ⟨i1, i2⟩ := hJ.1.push (e := .inl (t1, n, .inr (.inr (.inr (.inr f))))) g3 (hJ.1.1 a _ he).2.1 p1 p2
          have hk := kk _ H1 locs ls i2 ⟨i1, fun z hz => (hJ.2.1 z hz).mono (Nat.le_succ _), sg_cc (fun a e => by rcases e with e | e <;> cases e <;> exact Nat.lt_succ_self _) (fun v hv => (hst v hv).mono (Nat.le_succ _)), by rw [sg_ls_x hJ.2.1 i2]; exact hJ.2.2.2.1, p3⟩
          rw [List.map_cons, sg_vs_x hst i2] at hk
          have e8 : sg_v (fun x => if x = M.2 then q else μ x) (.ref M.2) = .ref q := congrArg Value.ref (if_pos rfl)
          rw [e8] at hk
          exact hk
      · trivial
    · trivial
  · trivial
end
end SGM
