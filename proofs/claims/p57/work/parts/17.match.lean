section SGMA
/-! Match: what it pairs, as a function of the lines alone -/
abbrev mt_S : Type := (Nat → Int32) × (Nat → Int32) × Int32
def mt_pr (S : mt_S) (i k : Nat) : mt_S := (upd S.1 i (nI k), upd S.2.1 k (nI i), S.2.2 + 1)
def mt_pre (la lb : Nat → Int32) (na nb : Nat) : Nat → Nat → mt_S → Nat × mt_S
  | 0, i, S => (i, S)
  | d + 1, i, S => if i < na ∧ i < nb ∧ la i = lb i then mt_pre la lb na nb d (i + 1) (mt_pr S i i) else (i, S)
def mt_L (la lb : Nat → Int32) (na nb : Nat) : Nat → Nat → Int32
  | 0, _ => 0
  | _ + 1, 0 => 0
  | d + 1, e + 1 => if la (na - (d + 1)) = lb (nb - (e + 1)) then 1 + mt_L la lb na nb d e else if mt_L la lb na nb d (e + 1) < mt_L la lb na nb (d + 1) e then mt_L la lb na nb (d + 1) e else mt_L la lb na nb d (e + 1)
termination_by d e => (d, e)
def mt_wk (la lb : Nat → Int32) (na nb : Nat) : Nat → Nat → Nat → mt_S → mt_S
  | 0, _, _, S => S
  | d + 1, i, k, S => if i < na ∧ k < nb then (if la i = lb k then mt_wk la lb na nb d (i + 1) (k + 1) (mt_pr S i k) else if mt_L la lb na nb (na - (i + 1)) (nb - k) < mt_L la lb na nb (na - i) (nb - (k + 1)) then mt_wk la lb na nb d i (k + 1) S else mt_wk la lb na nb d (i + 1) k S) else S
def mt_S0 : mt_S := (fun _ => -1, fun _ => -1, 0)
def mt_rn (la lb : Nat → Int32) (na nb : Nat) : mt_S := mt_wk la lb na nb (na + nb) (mt_pre la lb na nb na 0 mt_S0).1 (mt_pre la lb na nb na 0 mt_S0).1 (mt_pre la lb na nb na 0 mt_S0).2
theorem mt_L0 {la lb : Nat → Int32} {na nb e : Nat} : mt_L la lb na nb 0 e = 0 := by rw [mt_L]
theorem mt_L1 {la lb : Nat → Int32} {na nb d : Nat} : mt_L la lb na nb d 0 = 0 := by
  cases d with
  | zero => rw [mt_L]
  | succ d => rw [mt_L]
theorem mt_Lst {la lb : Nat → Int32} {na nb j k : Nat} (hj : j < na) (hk : k < nb) : mt_L la lb na nb (na - j) (nb - k) = if la j = lb k then 1 + mt_L la lb na nb (na - (j + 1)) (nb - (k + 1)) else if mt_L la lb na nb (na - (j + 1)) (nb - k) < mt_L la lb na nb (na - j) (nb - (k + 1)) then mt_L la lb na nb (na - j) (nb - (k + 1)) else mt_L la lb na nb (na - (j + 1)) (nb - k) := by
  obtain ⟨d, hd⟩ : ∃ d, na - j = d + 1 := ⟨na - (j + 1), by omega⟩
  obtain ⟨e, he⟩ : ∃ e, nb - k = e + 1 := ⟨nb - (k + 1), by omega⟩
  rw [show na - (j + 1) = d by omega, show nb - (k + 1) = e by omega, hd, he, mt_L, show na - (d + 1) = j by omega, show nb - (e + 1) = k by omega]
/-- the numbers of a match's cells are apart -/
def mt_d (m l b a : Nat) : Prop := m ≠ l ∧ m ≠ b ∧ m ≠ a ∧ l ≠ b ∧ l ≠ a ∧ b ≠ a ∧ l ≠ 0 ∧ b ≠ 0 ∧ a ≠ 0
/-- the memory with a match's contents -/
def mt_m (M : sg_M) (m l b a : Nat) (fl fb fa : Nat → Int32) (p : Int32) : sg_M := (sg_up (sg_up (sg_up (sg_up M.1 m (.inr (2, [.ref l, .ref b, .ref a, .int p]))) l (.inl (0, 1681, .inl fl))) b (.inl (0, 40, .inl fb))) a (.inl (0, 40, .inl fa)), M.2)
section
variable {Ls : Nat} {xs : Nat → Int32} {M : sg_M} {m l b a : Nat} {fl fb fa gl gb ga : Nat → Int32} {p p1 : Int32}
theorem mt_out : sg_out [m, l, b, a] M (mt_m M m l b a fl fb fa p) := (((sg_out.rf.up (a := m) (by simp)).up (a := l) (by simp)).up (a := b) (by simp)).up (a := a) (by simp)
theorem mt_gm (d : mt_d m l b a) : (mt_m M m l b a fl fb fa p).1 m = some (.inr (2, [.ref l, .ref b, .ref a, .int p])) := (sg_upne d.2.2.1).trans ((sg_upne d.2.1).trans ((sg_upne d.1).trans sg_upself))
theorem mt_gl (d : mt_d m l b a) : (mt_m M m l b a fl fb fa p).1 l = some (.inl (0, 1681, .inl fl)) := (sg_upne d.2.2.2.2.1).trans ((sg_upne d.2.2.2.1).trans sg_upself)
theorem mt_gb (d : mt_d m l b a) : (mt_m M m l b a fl fb fa p).1 b = some (.inl (0, 40, .inl fb)) := (sg_upne d.2.2.2.2.2.1).trans sg_upself
theorem mt_ga : (mt_m M m l b a fl fb fa p).1 a = some (.inl (0, 40, .inl fa)) := sg_upself
theorem mt_wa : (sg_up (mt_m M m l b a fl fb fa p).1 a (.inl (0, 40, .inl ga)), (mt_m M m l b a fl fb fa p).2) = mt_m M m l b a fl fb ga p := by
  unfold mt_m
  rw [sg_upup]
theorem mt_wb (d : mt_d m l b a) : (sg_up (mt_m M m l b a fl fb fa p).1 b (.inl (0, 40, .inl gb)), (mt_m M m l b a fl fb fa p).2) = mt_m M m l b a fl gb fa p := by
  unfold mt_m
  rw [sg_upcomm (a := a) (b := b) (Ne.symm d.2.2.2.2.2.1), sg_upup]
theorem mt_wl (d : mt_d m l b a) : (sg_up (mt_m M m l b a fl fb fa p).1 l (.inl (0, 1681, .inl gl)), (mt_m M m l b a fl fb fa p).2) = mt_m M m l b a gl fb fa p := by
  unfold mt_m
  rw [sg_upcomm (a := a) (b := l) (Ne.symm d.2.2.2.2.1), sg_upcomm (a := b) (b := l) (Ne.symm d.2.2.2.1), sg_upup]
theorem mt_wm (d : mt_d m l b a) : (sg_up (mt_m M m l b a fl fb fa p).1 m (.inr (2, [.ref l, .ref b, .ref a, .int p1])), (mt_m M m l b a fl fb fa p).2) = mt_m M m l b a fl fb fa p1 := by
  unfold mt_m
  rw [sg_upcomm (a := a) (b := m) (Ne.symm d.2.2.1), sg_upcomm (a := b) (b := m) (Ne.symm d.2.1), sg_upcomm (a := l) (b := m) (Ne.symm d.1), sg_upup]
theorem mt_self (h1 : M.1 m = some (.inr (2, [.ref l, .ref b, .ref a, .int p]))) (h2 : M.1 l = some (.inl (0, 1681, .inl fl))) (h3 : M.1 b = some (.inl (0, 40, .inl fb))) (h4 : M.1 a = some (.inl (0, 40, .inl fa))) : mt_m M m l b a fl fb fa p = M := by
  unfold mt_m
  rw [sg_upsame h1, sg_upsame h2, sg_upsame h3, sg_upsame h4]
theorem mt_tr {t s c : Nat} {fs fc : Nat → Int32} (h : tr_is M t s c fs fc) (h1 : t ∉ [m, l, b, a]) (h2 : s ∉ [m, l, b, a]) (h3 : c ∉ [m, l, b, a]) : tr_is (mt_m M m l b a fl fb fa p) t s c fs fc := h.out mt_out h1 h2 h3
def mt_get (f : Nat → Int32) (x : Int32) : Int32 := if x < 0 then -1 else if x < 40 then f x.toNatClampNeg else -1
theorem mt_get_n {f : Nat → Int32} {i : Nat} (h : i < 40) : mt_get f (nI i) = f i := by
  unfold mt_get
  rw [if_neg (nI_pos (by omega)), if_pos (show nI i < 40 from nI_lt (b := 40) h (by decide)), nI_clamp (by omega)]
theorem mt_placeB (h1_ : M.1 m = some (.inr (2, [.ref l, .ref b, .ref a, .int p]))) (h2_ : M.1 b = some (.inl (0, 40, .inl fb))) (h0 : b ≠ 0) (x : Int32) : wpm Ls xs 27 [.ref m, .int x] M (sg_eq (some (.int (mt_get fb x))) M) := by
  unfold mt_get
  refine sg_wr 1 rfl ?_
  refine sg_wb rfl rfl (fun h1 => ?_) (fun h1 => ?_)
  · rw [if_pos h1]
    refine sg_wr 2 rfl ?_
    exact sg_we rfl rfl ⟨rfl, rfl, rfl, rfl⟩
  · rw [if_neg h1]
    refine sg_wr 2 rfl ?_
    refine sg_wb rfl rfl (fun h7 => ?_) (fun h7 => ?_)
    · rw [if_pos h7]
      refine sg_wr 1 rfl ?_
      refine sg_r_getf rfl (by assumption) rfl ?_
      refine sg_wr 1 rfl ?_
      refine sg_r_iald rfl h0 h2_ (sg_in_lt (n := 40) (by decide) h1 h7).1 ?_
      exact sg_we rfl rfl ⟨rfl, rfl, rfl, rfl⟩
    · rw [if_neg h7]
      refine sg_wr 2 rfl ?_
      exact sg_we rfl rfl ⟨rfl, rfl, rfl, rfl⟩
theorem mt_placeA (h1_ : M.1 m = some (.inr (2, [.ref l, .ref b, .ref a, .int p]))) (h2_ : M.1 a = some (.inl (0, 40, .inl fa))) (h0 : a ≠ 0) (x : Int32) : wpm Ls xs 28 [.ref m, .int x] M (sg_eq (some (.int (mt_get fa x))) M) := by
  unfold mt_get
  refine sg_wr 1 rfl ?_
  refine sg_wb rfl rfl (fun h1 => ?_) (fun h1 => ?_)
  · rw [if_pos h1]
    refine sg_wr 2 rfl ?_
    exact sg_we rfl rfl ⟨rfl, rfl, rfl, rfl⟩
  · rw [if_neg h1]
    refine sg_wr 2 rfl ?_
    refine sg_wb rfl rfl (fun h7 => ?_) (fun h7 => ?_)
    · rw [if_pos h7]
      refine sg_wr 1 rfl ?_
      refine sg_r_getf rfl (by assumption) rfl ?_
      refine sg_wr 1 rfl ?_
      refine sg_r_iald rfl h0 h2_ (sg_in_lt (n := 40) (by decide) h1 h7).1 ?_
      exact sg_we rfl rfl ⟨rfl, rfl, rfl, rfl⟩
    · rw [if_neg h7]
      refine sg_wr 2 rfl ?_
      exact sg_we rfl rfl ⟨rfl, rfl, rfl, rfl⟩
theorem mt_pair (d : mt_d m l b a) {i k : Nat} (hi : i < 40) (hk : k < 40) : wpm Ls xs 29 [.ref m, .int (nI i), .int (nI k)] (mt_m M m l b a fl fb fa p) (sg_eq none (mt_m M m l b a fl (upd fb i (nI k)) (upd fa k (nI i)) (p + 1))) := by
  refine sg_wr 1 rfl ?_
  refine sg_wb rfl rfl (fun h1 => absurd h1 (nI_pos (by omega))) (fun h1 => ?_)
  refine sg_wr 2 rfl ?_
  refine sg_wb rfl rfl (fun h7 => absurd h7 (nI_ge (b := 40) hi (by decide))) (fun h7 => ?_)
  refine sg_wr 1 rfl ?_
  refine sg_wb rfl rfl (fun h11 => absurd h11 (nI_pos (by omega))) (fun h11 => ?_)
  refine sg_wr 2 rfl ?_
  refine sg_wb rfl rfl (fun h17 => absurd h17 (nI_ge (b := 40) hk (by decide))) (fun h17 => ?_)
  refine sg_wr 1 rfl ?_
  refine sg_r_getf rfl (mt_gm d) rfl ?_
  refine sg_wr 2 rfl ?_
  refine sg_r_iast rfl (mt_gb d) (sg_in_n hi (by decide)) ?_
  rw [mt_wb d, nI_clamp (by omega)]
  refine sg_wr 1 rfl ?_
  refine sg_r_getf rfl (mt_gm d) rfl ?_
  refine sg_wr 2 rfl ?_
  refine sg_r_iast rfl mt_ga (sg_in_n hk (by decide)) ?_
  rw [mt_wa, nI_clamp (by omega)]
  refine sg_wr 2 rfl ?_
  refine sg_r_getf rfl (mt_gm d) rfl ?_
  refine sg_wr 2 rfl ?_
  refine sg_r_putf rfl (mt_gm d) (Nat.le_of_ble_eq_true rfl) rfl ?_
  rw [show ([Value.ref l, .ref b, .ref a, .int p].set 3 (.int (p + 1))) = [.ref l, .ref b, .ref a, .int (p + 1)] from rfl, mt_wm d]
  exact sg_we rfl rfl ⟨rfl, rfl, rfl, rfl⟩
def mt_lf (f : Nat → Int32) (x y : Int32) : Int32 := if x < 0 then 0 else if 41 ≤ x then 0 else if y < 0 then 0 else if y < 41 then f (x * 41 + y).toNatClampNeg else 0
theorem mt_ix {i k : Nat} : nI i * 41 + nI k = nI (i * 41 + k) := by rw [show (41 : Int32) = nI 41 from rfl, pk_mul, nI_add]
theorem mt_lf_n {f : Nat → Int32} {i k : Nat} (hi : i < 41) (hk : k < 41) : mt_lf f (nI i) (nI k) = f (i * 41 + k) := by
  unfold mt_lf
  rw [if_neg (nI_pos (by omega)), if_neg (show ¬ 41 ≤ nI i from nI_ge (b := 41) hi (by decide)), if_neg (nI_pos (by omega)), if_pos (show nI k < 41 from nI_lt (b := 41) hk (by decide)), mt_ix, nI_clamp (by omega)]
theorem mt_in {x y : Int32} (c1 : ¬ x < 0) (c2 : ¬ 41 ≤ x) (c3 : ¬ y < 0) (c4 : y < 41) : sg_in (x * 41 + y) 1681 = true := by
  obtain ⟨i, hi, rfl⟩ := nI_of c1
  obtain ⟨k, hk, rfl⟩ := nI_of c3
  have h1 : i < 41 := Nat.not_le.mp fun z => c2 (nI_le (a := 41) z hi)
  have h2 : k < 41 := (nI_ltI hk (by decide)).mp c4
  rw [mt_ix]
  exact sg_in_n (by omega) (by decide)
theorem mt_longest (d : mt_d m l b a) (x y : Int32) : wpm Ls xs 31 [.ref m, .int x, .int y] (mt_m M m l b a fl fb fa p) (sg_eq (some (.int (mt_lf fl x y))) (mt_m M m l b a fl fb fa p)) := by
  unfold mt_lf
  refine sg_wr 1 rfl ?_
  refine sg_wb rfl rfl (fun h1 => ?_) (fun h1 => ?_)
  · rw [if_pos h1]
    refine sg_wr 2 rfl ?_
    exact sg_we rfl rfl ⟨rfl, rfl, rfl, rfl⟩
  · rw [if_neg h1]
    refine sg_wr 2 rfl ?_
    refine sg_wb rfl rfl (fun h7 => ?_) (fun h7 => ?_)
    · rw [if_pos h7]
      refine sg_wr 2 rfl ?_
      exact sg_we rfl rfl ⟨rfl, rfl, rfl, rfl⟩
    · rw [if_neg h7]
      refine sg_wr 1 rfl ?_
      refine sg_wb rfl rfl (fun h11 => ?_) (fun h11 => ?_)
      · rw [if_pos h11]
        refine sg_wr 2 rfl ?_
        exact sg_we rfl rfl ⟨rfl, rfl, rfl, rfl⟩
      · rw [if_neg h11]
        refine sg_wr 2 rfl ?_
        refine sg_wb rfl rfl (fun h17 => ?_) (fun h17 => ?_)
        · rw [if_pos h17]
          refine sg_wr 1 rfl ?_
          refine sg_r_getf rfl (mt_gm d) rfl ?_
          refine sg_wr 5 rfl ?_
          refine sg_r_iald rfl d.2.2.2.2.2.2.1 (mt_gl d) (mt_in h1 h7 h11 h17) ?_
          exact sg_we rfl rfl ⟨rfl, rfl, rfl, rfl⟩
        · rw [if_neg h17]
          refine sg_wr 2 rfl ?_
          exact sg_we rfl rfl ⟨rfl, rfl, rfl, rfl⟩
theorem mt_setL (d : mt_d m l b a) {i k : Nat} (hi : i < 41) (hk : k < 41) (v : Int32) : wpm Ls xs 32 [.ref m, .int (nI i), .int (nI k), .int v] (mt_m M m l b a fl fb fa p) (sg_eq none (mt_m M m l b a (upd fl (i * 41 + k) v) fb fa p)) := by
  refine sg_wr 1 rfl ?_
  refine sg_wb rfl rfl (fun h1 => absurd h1 (nI_pos (by omega))) (fun h1 => ?_)
  refine sg_wr 2 rfl ?_
  refine sg_wb rfl rfl (fun h7 => absurd h7 (nI_ge (b := 41) hi (by decide))) (fun h7 => ?_)
  refine sg_wr 1 rfl ?_
  refine sg_wb rfl rfl (fun h11 => absurd h11 (nI_pos (by omega))) (fun h11 => ?_)
  refine sg_wr 2 rfl ?_
  refine sg_wb rfl rfl (fun h17 => absurd h17 (nI_ge (b := 41) hk (by decide))) (fun h17 => ?_)
  refine sg_wr 1 rfl ?_
  refine sg_r_getf rfl (mt_gm d) rfl ?_
  refine sg_wr 6 rfl ?_
  rw [mt_ix]
  refine sg_r_iast rfl (mt_gl d) (sg_in_n (by omega) (by decide)) ?_
  rw [mt_wl d, nI_clamp (by omega)]
  exact sg_we rfl rfl ⟨rfl, rfl, rfl, rfl⟩
theorem sg_pm {i t : Nat} (hi : i < 2 ^ 31) (ht : t < 2 ^ 31) : nI i - 1 < nI t ↔ i < t + 1 := by
  cases i with
  | zero =>
    have h1 : (nI 0 - 1 : Int32) < nI 0 := by decide
    exact ⟨fun _ => Nat.succ_pos t, fun _ => Int32.lt_of_lt_of_le h1 (nI_le (Nat.zero_le t) ht)⟩
  | succ j =>
    rw [nI_pred, nI_ltI (by omega) ht]
    omega
theorem sg_dec {j : Nat} : nI j + Int32.ofInt (-1) = nI j - 1 := by rw [Int32.sub_eq_add_neg]; rfl
theorem tr_cnt_n {fs : Nat → Int32} (h : tr_ti fs) (x : Int32) : ∃ n : Nat, n ≤ 40 ∧ tr_cnt fs x = nI n := by
  unfold tr_cnt
  split
  · exact ⟨0, by decide, rfl⟩
  · rename_i c1
    split
    · rename_i c2
      split
      · exact ⟨0, by decide, rfl⟩
      · rename_i c3
        obtain ⟨j, hj, rfl⟩ := nI_of c1
        have h8 : j < 8 := (nI_ltI hj (by decide)).mp c2
        rw [nI_clamp hj] at c3 ⊢
        obtain ⟨n, hn, e⟩ := nI_of c3
        rw [e]
        refine ⟨n, ?_, rfl⟩
        have := (h j h8).2
        rw [e] at this
        exact (nI_leI (b := 40) hn (by decide)).mp this
    · exact ⟨0, by decide, rfl⟩
abbrev mt_mQ (M : sg_M) (m l b a : Nat) (fb fa : Nat → Int32) (p : Int32) (la lb : Nat → Int32) (na nb top : Nat) : Option Value ⊕ Nat → sg_M → Nat → Nat → Prop := fun r M1 c s => r = .inl none ∧ (∃ gl : Nat → Int32, M1 = mt_m M m l b a gl fb fa p ∧ ∀ i q, top ≤ i → i ≤ na → top ≤ q → q ≤ nb → gl (i * 41 + q) = mt_L la lb na nb (na - i) (nb - q)) ∧ c = 0 ∧ s = 0
set_option maxHeartbeats 1000000 in
theorem mt_me_in {ta sa ca tb sb cb na nb : Nat} {fsa fca fsb fcb : Nat → Int32} {x : Int32} (d : mt_d m l b a) (hA : ∀ fl fb fa p, tr_is (mt_m M m l b a fl fb fa p) ta sa ca fsa fca) (hB : ∀ fl fb fa p, tr_is (mt_m M m l b a fl fb fa p) tb sb cb fsb fcb) (ha : tr_cnt fsa x = nI na) (hb : tr_cnt fsb x = nI nb) (ka : na ≤ 40) (kb : nb ≤ 40) {top j : Nat} (hj : j ≤ na) (htj : top ≤ j) (htb : top ≤ nb) : ∀ (k : Nat) (fl : Nat → Int32), k ≤ nb + 1 → top ≤ k → (∀ i q, j < i → i ≤ na → top ≤ q → q ≤ nb → fl (i * 41 + q) = mt_L (fun i => tr_line fsa fca x (nI i)) (fun i => tr_line fsb fcb x (nI i)) na nb (na - i) (nb - q)) → (∀ q, k ≤ q → q ≤ nb → fl (j * 41 + q) = mt_L (fun i => tr_line fsa fca x (nI i)) (fun i => tr_line fsb fcb x (nI i)) na nb (na - j) (nb - q)) → ∀ Q : Option Value ⊕ Nat → sg_M → Nat → Nat → Prop,
    (∀ gl : Nat → Int32, (∀ i q, j ≤ i → i ≤ na → top ≤ q → q ≤ nb → gl (i * 41 + q) = mt_L (fun i => tr_line fsa fca x (nI i)) (fun i => tr_line fsb fcb x (nI i)) na nb (na - i) (nb - q)) → ∀ v8 : Int32, wpa Ls xs 30 141 [(0, .ref m), (1, .ref ta), (2, .ref tb), (3, .int x), (4, .int (nI top)), (5, .int (nI na)), (6, .int (nI nb)), (7, .int (nI j)), (8, .int v8)] [] (mt_m M m l b a gl fb fa p) Q) →
    wpa Ls xs 30 29 [(0, .ref m), (1, .ref ta), (2, .ref tb), (3, .int x), (4, .int (nI top)), (5, .int (nI na)), (6, .int (nI nb)), (7, .int (nI j)), (8, .int (nI k - 1))] [] (mt_m M m l b a fl fb fa p) Q := by
  intro k
  induction k with
  | zero =>
    intro fl hk htk h1 h2 Q hQ
    have ht0 : top = 0 := by omega
    subst ht0
    refine sg_wr 3 rfl ?_
    exact hQ fl (fun i q a1 a2 a3 a4 => by
      rcases Nat.lt_or_eq_of_le a1 with z | z
      · exact h1 i q z a2 a3 a4
      · subst z; exact h2 q (Nat.zero_le _) a4) _
  | succ k ih =>
    intro fl hk htk h1 h2 Q hQ
    rw [nI_pred]
    by_cases hkt : k < top
    · refine sg_wr 2 rfl ?_
      refine sg_wb rfl rfl (fun h33 => ?_) (fun h33 => absurd (nI_lt hkt (by omega)) h33)
      exact hQ fl (fun i q a1 a2 a3 a4 => by
        rcases Nat.lt_or_eq_of_le a1 with z | z
        · exact h1 i q z a2 a3 a4
        · subst z; exact h2 q (by omega) a4) _
    · have next : ∀ v : Int32, v = mt_L (fun i => tr_line fsa fca x (nI i)) (fun i => tr_line fsb fcb x (nI i)) na nb (na - j) (nb - k) → wpa Ls xs 30 135 [(0, .ref m), (1, .ref ta), (2, .ref tb), (3, .int x), (4, .int (nI top)), (5, .int (nI na)), (6, .int (nI nb)), (7, .int (nI j)), (8, .int (nI k))] [] (mt_m M m l b a (upd fl (j * 41 + k) v) fb fa p) Q := by
        intro v hv
        refine sg_wr 2 rfl ?_
        have h9 := ih (upd fl (j * 41 + k) v) (by omega) (by omega) (fun i q a1 a2 a3 a4 => by
          show (if i * 41 + q = j * 41 + k then v else fl (i * 41 + q)) = _
          rw [if_neg (by omega)]
          exact h1 i q a1 a2 a3 a4) (fun q a1 a2 => by
          show (if j * 41 + q = j * 41 + k then v else fl (j * 41 + q)) = _
          by_cases hz : q = k
          · subst hz; rw [if_pos rfl]; exact hv
          · rw [if_neg (by omega)]; exact h2 q (by omega) a2) Q hQ
        rw [← sg_dec] at h9
        exact h9
      have f1 : ∀ q, j < na → k ≤ q → q ≤ nb → mt_lf fl (nI (j + 1)) (nI q) = mt_L (fun i => tr_line fsa fca x (nI i)) (fun i => tr_line fsb fcb x (nI i)) na nb (na - (j + 1)) (nb - q) := fun q z a1 a2 => by
        rw [mt_lf_n (by omega) (by omega)]
        exact h1 (j + 1) q (by omega) (by omega) (by omega) a2
      have f2 : k < nb → mt_lf fl (nI j) (nI (k + 1)) = mt_L (fun i => tr_line fsa fca x (nI i)) (fun i => tr_line fsb fcb x (nI i)) na nb (na - j) (nb - (k + 1)) := fun z => by
        rw [mt_lf_n (by omega) (by omega)]
        exact h2 (k + 1) (Nat.le_refl _) (by omega)
      have zero : (na = j ∨ nb = k) → (0 : Int32) = mt_L (fun i => tr_line fsa fca x (nI i)) (fun i => tr_line fsb fcb x (nI i)) na nb (na - j) (nb - k) := fun z => by
        rcases z with z | z
        · rw [show na - j = 0 by omega, mt_L0]
        · rw [show nb - k = 0 by omega, mt_L1]
      refine sg_wr 2 rfl ?_
      refine sg_wb rfl rfl (fun h33 => absurd h33 (nI_nlt (by omega) (by omega))) (fun h33 => ?_)
      refine sg_wr 2 rfl ?_
      refine sg_wb rfl rfl (fun h40 => ?_) (fun h40 => ?_)
      · refine sg_wr 4 rfl ?_
        refine sg_p_callV rfl rfl rfl (mt_gm d) rfl (Nat.le_of_ble_eq_true rfl) (Nat.le_of_ble_eq_true rfl) (mt_setL d (by omega) (by omega) _) ?_
        refine sg_wr 1 rfl ?_
        exact next _ (zero (by first | exact Or.inl ((nI_eq (by omega) (by omega)).mp h40).symm | exact Or.inr ((nI_eq (by omega) (by omega)).mp (Classical.byContradiction h47)).symm))
      · refine sg_wr 2 rfl ?_
        refine sg_wb rfl rfl (fun h47 => ?_) (fun h47 => ?_)
        · refine sg_wr 3 rfl ?_
          refine sg_p_callV rfl rfl rfl (hA _ _ _ _).1 rfl (Nat.le_of_ble_eq_true rfl) (Nat.le_of_ble_eq_true rfl) (tr_lineOf (hA _ _ _ _) x _) ?_
          refine sg_wr 3 rfl ?_
          refine sg_p_callV rfl rfl rfl (hB _ _ _ _).1 rfl (Nat.le_of_ble_eq_true rfl) (Nat.le_of_ble_eq_true rfl) (tr_lineOf (hB _ _ _ _) x _) ?_
          refine sg_wb rfl rfl (fun h76 => ?_) (fun h76 => ?_)
          · refine sg_wr 8 rfl ?_
            refine sg_p_callV rfl rfl rfl (mt_gm d) rfl (Nat.le_of_ble_eq_true rfl) (Nat.le_of_ble_eq_true rfl) (mt_longest d _ _) ?_
            refine sg_wr 5 rfl ?_
            refine sg_p_callV rfl rfl rfl (mt_gm d) rfl (Nat.le_of_ble_eq_true rfl) (Nat.le_of_ble_eq_true rfl) (mt_longest d _ _) ?_
            refine sg_wr 1 rfl ?_
            have q1 : ¬ j = na := fun z => h40 (by rw [z])
            have q2 : ¬ k = nb := fun z => h47 (by rw [z])
            refine sg_p_callV rfl rfl rfl (mt_gm d) rfl (Nat.le_of_ble_eq_true rfl) (Nat.le_of_ble_eq_true rfl) (mt_setL d (by omega) (by omega) _) ?_
            refine next _ ?_
            rw [nI_1, nI_1, f1 k (by omega) (Nat.le_refl _) (by omega), f2 (by omega), mt_Lst (j := j) (k := k) (by omega) (by omega), if_neg h76]
          · refine sg_wr 11 rfl ?_
            refine sg_p_callV rfl rfl rfl (mt_gm d) rfl (Nat.le_of_ble_eq_true rfl) (Nat.le_of_ble_eq_true rfl) (mt_longest d _ _) ?_
            refine sg_wr 1 rfl ?_
            have q1 : ¬ j = na := fun z => h40 (by rw [z])
            have q2 : ¬ k = nb := fun z => h47 (by rw [z])
            refine sg_p_callV rfl rfl rfl (mt_gm d) rfl (Nat.le_of_ble_eq_true rfl) (Nat.le_of_ble_eq_true rfl) (mt_setL d (by omega) (by omega) _) ?_
            refine sg_wr 1 rfl ?_
            refine next _ ?_
            rw [nI_1, nI_1, mt_lf_n (by omega) (by omega), h1 (j + 1) (k + 1) (by omega) (by omega) (by omega) (by omega), mt_Lst (j := j) (k := k) (by omega) (by omega), if_pos]
            exact Classical.byContradiction h76
        · refine sg_wr 4 rfl ?_
          refine sg_p_callV rfl rfl rfl (mt_gm d) rfl (Nat.le_of_ble_eq_true rfl) (Nat.le_of_ble_eq_true rfl) (mt_setL d (by omega) (by omega) _) ?_
          refine sg_wr 1 rfl ?_
          exact next _ (zero (by first | exact Or.inl ((nI_eq (by omega) (by omega)).mp h40).symm | exact Or.inr ((nI_eq (by omega) (by omega)).mp (Classical.byContradiction h47)).symm))
theorem mt_me_out {ta sa ca tb sb cb na nb : Nat} {fsa fca fsb fcb : Nat → Int32} {x : Int32} (d : mt_d m l b a) (hA : ∀ fl fb fa p, tr_is (mt_m M m l b a fl fb fa p) ta sa ca fsa fca) (hB : ∀ fl fb fa p, tr_is (mt_m M m l b a fl fb fa p) tb sb cb fsb fcb) (ha : tr_cnt fsa x = nI na) (hb : tr_cnt fsb x = nI nb) (ka : na ≤ 40) (kb : nb ≤ 40) {top : Nat} (hta : top ≤ na) (htb : top ≤ nb) : ∀ (i : Nat) (fl : Nat → Int32) (v8 : Option Int32), i ≤ na + 1 → top ≤ i → (∀ r q, i ≤ r → r ≤ na → top ≤ q → q ≤ nb → fl (r * 41 + q) = mt_L (fun i => tr_line fsa fca x (nI i)) (fun i => tr_line fsb fcb x (nI i)) na nb (na - r) (nb - q)) →
    wpa Ls xs 30 18 ([(0, .ref m), (1, .ref ta), (2, .ref tb), (3, .int x), (4, .int (nI top)), (5, .int (nI na)), (6, .int (nI nb)), (7, .int (nI i - 1))] ++ (match v8 with | none => [] | some v => [(8, .int v)])) [] (mt_m M m l b a fl fb fa p) (mt_mQ M m l b a fb fa p (fun i => tr_line fsa fca x (nI i)) (fun i => tr_line fsb fcb x (nI i)) na nb top) := by
  intro i
  induction i with
  | zero =>
    intro fl v8 hi hti h1
    have ht0 : top = 0 := by omega
    subst ht0
    cases v8 <;> (refine sg_wr 3 rfl ?_; exact sg_we rfl rfl ⟨rfl, ⟨fl, rfl, h1⟩, rfl, rfl⟩)
  | succ i ih =>
    intro fl v8 hi hti h1
    rw [nI_pred]
    by_cases hit : i < top
    · cases v8 <;> (refine sg_wr 2 rfl ?_; refine sg_wb rfl rfl (fun h22 => ?_) (fun h22 => absurd (nI_lt hit (by omega)) h22); exact sg_we rfl rfl ⟨rfl, ⟨fl, rfl, fun r q a1 a2 a3 a4 => h1 r q (by omega) a2 a3 a4⟩, rfl, rfl⟩)
    · have rest := mt_me_in (Ls := Ls) (xs := xs) (fb := fb) (fa := fa) (p := p) d hA hB ha hb ka kb (top := top) (j := i) (by omega) (by omega) htb (nb + 1) fl (Nat.le_refl _) (by omega) (fun r q a1 a2 a3 a4 => h1 r q (by omega) a2 a3 a4) (fun q a1 a2 => by omega) (mt_mQ M m l b a fb fa p (fun i => tr_line fsa fca x (nI i)) (fun i => tr_line fsb fcb x (nI i)) na nb top) (fun gl hgl v => by
        have h9 := ih gl (some v) (by omega) (by omega) hgl
        rw [← sg_dec] at h9
        refine sg_wr 2 rfl ?_
        exact h9)
      rw [nI_pred] at rest
      cases v8 <;> (refine sg_wr 2 rfl ?_; refine sg_wb rfl rfl (fun h22 => absurd h22 (nI_nlt (by omega) (by omega))) (fun h22 => ?_); refine sg_wr 2 rfl ?_; exact rest)
theorem mt_measure {ta sa ca tb sb cb na nb : Nat} {fsa fca fsb fcb : Nat → Int32} {x : Int32} (d : mt_d m l b a) (hA : ∀ fl fb fa p, tr_is (mt_m M m l b a fl fb fa p) ta sa ca fsa fca) (hB : ∀ fl fb fa p, tr_is (mt_m M m l b a fl fb fa p) tb sb cb fsb fcb) (ha : tr_cnt fsa x = nI na) (hb : tr_cnt fsb x = nI nb) (ka : na ≤ 40) (kb : nb ≤ 40) {top : Nat} (hta : top ≤ na) (htb : top ≤ nb) : wpm Ls xs 30 [.ref m, .ref ta, .ref tb, .int x, .int (nI top)] (mt_m M m l b a fl fb fa p) (mt_mQ M m l b a fb fa p (fun i => tr_line fsa fca x (nI i)) (fun i => tr_line fsb fcb x (nI i)) na nb top) := by
  refine sg_wr 2 rfl ?_
  refine sg_p_callV rfl rfl rfl (hA _ _ _ _).1 rfl (Nat.le_of_ble_eq_true rfl) (Nat.le_of_ble_eq_true rfl) (tr_countOf (hA _ _ _ _) x) ?_
  refine sg_wr 3 rfl ?_
  refine sg_p_callV rfl rfl rfl (hB _ _ _ _).1 rfl (Nat.le_of_ble_eq_true rfl) (Nat.le_of_ble_eq_true rfl) (tr_countOf (hB _ _ _ _) x) ?_
  refine sg_wr 3 rfl ?_
  have h9 := mt_me_out (Ls := Ls) (xs := xs) (fb := fb) (fa := fa) (p := p) d hA hB ha hb ka kb hta htb (na + 1) fl none (Nat.le_refl _) (by omega) (fun r q a1 a2 => by omega)
  rw [nI_pred] at h9
  rw [ha, hb]
  exact h9
def mt_c (gb ga : Nat → Int32) (S : mt_S) : Prop := ∀ j : Nat, j < 40 → gb j = S.1 j ∧ ga j = S.2.1 j
theorem mt_c_pr {S : mt_S} {i k : Nat} (h : mt_c gb ga S) : mt_c (upd gb i (nI k)) (upd ga k (nI i)) (mt_pr S i k) := fun j hj => by
  refine ⟨?_, ?_⟩
  · show (if j = i then nI k else gb j) = (if j = i then nI k else S.1 j)
    rw [(h j hj).1]
  · show (if j = k then nI i else ga j) = (if j = k then nI i else S.2.1 j)
    rw [(h j hj).2]
abbrev mt_rQ (M : sg_M) (m l b a : Nat) (S : mt_S) : Option Value ⊕ Nat → sg_M → Nat → Nat → Prop := fun r M1 c s => r = .inl none ∧ (∃ gl gb ga : Nat → Int32, M1 = mt_m M m l b a gl gb ga S.2.2 ∧ mt_c gb ga S) ∧ c = 0 ∧ s = 0
theorem mt_pre_loop {ta sa ca tb sb cb na nb : Nat} {fsa fca fsb fcb : Nat → Int32} {x : Int32} (d : mt_d m l b a) (hA : ∀ fl fb fa p, tr_is (mt_m M m l b a fl fb fa p) ta sa ca fsa fca) (hB : ∀ fl fb fa p, tr_is (mt_m M m l b a fl fb fa p) tb sb cb fsb fcb) (ha : tr_cnt fsa x = nI na) (hb : tr_cnt fsb x = nI nb) (ka : na ≤ 40) (kb : nb ≤ 40) : ∀ (dd i : Nat) (gb ga : Nat → Int32) (S : mt_S), dd = na - i → i ≤ na → i ≤ nb → mt_c gb ga S → ∀ Q : Option Value ⊕ Nat → sg_M → Nat → Nat → Prop,
    (∀ (i1 : Nat) (S1 : mt_S) (gb ga : Nat → Int32), mt_pre (fun i => tr_line fsa fca x (nI i)) (fun i => tr_line fsb fcb x (nI i)) na nb dd i S = (i1, S1) → i1 ≤ na → i1 ≤ nb → mt_c gb ga S1 → wpa Ls xs 26 83 [(0, .ref m), (1, .ref ta), (2, .ref tb), (3, .int x), (4, .int (nI na)), (5, .int (nI nb)), (6, .int (nI i1))] [] (mt_m M m l b a fl gb ga S1.2.2) Q) → wpa Ls xs 26 38 [(0, .ref m), (1, .ref ta), (2, .ref tb), (3, .int x), (4, .int (nI na)), (5, .int (nI nb)), (6, .int (nI i))] [] (mt_m M m l b a fl gb ga S.2.2) Q := by
  intro dd
  induction dd with
  | zero =>
    intro i gb ga S hd hi hi2 hc Q hQ
    have e : i = na := by omega
    refine sg_wr 2 rfl ?_
    refine sg_wb rfl rfl (fun h42 => ?_) (fun h42 => absurd (nI_le (by omega) (by omega)) h42)
    exact hQ i S gb ga rfl hi hi2 hc
  | succ dd ih =>
    intro i gb ga S hd hi hi2 hc Q hQ
    refine sg_wr 2 rfl ?_
    refine sg_wb rfl rfl (fun h42 => absurd h42 (nI_ge (by omega) (by omega))) (fun h42 => ?_)
    refine sg_wr 2 rfl ?_
    refine sg_wb rfl rfl (fun h49 => ?_) (fun h49 => ?_)
    · exact hQ i S gb ga (by rw [mt_pre, if_neg (fun z => absurd (nI_lt z.2.1 (by omega)) (Int32.not_lt.mpr h49))]) hi hi2 hc
    · refine sg_wr 3 rfl ?_
      refine sg_p_callV rfl rfl rfl (hA _ _ _ _).1 rfl (Nat.le_of_ble_eq_true rfl) (Nat.le_of_ble_eq_true rfl) (tr_lineOf (hA _ _ _ _) x _) ?_
      refine sg_wr 3 rfl ?_
      refine sg_p_callV rfl rfl rfl (hB _ _ _ _).1 rfl (Nat.le_of_ble_eq_true rfl) (Nat.le_of_ble_eq_true rfl) (tr_lineOf (hB _ _ _ _) x _) ?_
      refine sg_wb rfl rfl (fun h66 => ?_) (fun h66 => ?_)
      · exact hQ i S gb ga (by rw [mt_pre, if_neg (fun z => h66 z.2.2)]) hi hi2 hc
      · refine sg_wr 3 rfl ?_
        refine sg_p_callV rfl rfl rfl (mt_gm d) rfl (Nat.le_of_ble_eq_true rfl) (Nat.le_of_ble_eq_true rfl) (mt_pair d (by omega) (by have := sg_ltn h49 (by omega); omega)) ?_
        refine sg_wr 2 rfl ?_
        have hlt := sg_ltn h49 (by omega)
        have heq : tr_line fsa fca x (nI i) = tr_line fsb fcb x (nI i) := Classical.byContradiction h66
        have h9 := ih (i + 1) _ _ (mt_pr S i i) (by omega) (by omega) hlt (mt_c_pr hc) Q (fun i1 S1 gb ga e => hQ i1 S1 gb ga (by rw [mt_pre, if_pos ⟨by omega, hlt, heq⟩]; exact e))
        rw [nI_succ] at h9
        exact h9
theorem mt_wk_loop {ta sa ca tb sb cb na nb : Nat} {fsa fca fsb fcb : Nat → Int32} {x : Int32} (d : mt_d m l b a) (hA : ∀ fl fb fa p, tr_is (mt_m M m l b a fl fb fa p) ta sa ca fsa fca) (hB : ∀ fl fb fa p, tr_is (mt_m M m l b a fl fb fa p) tb sb cb fsb fcb) (ha : tr_cnt fsa x = nI na) (hb : tr_cnt fsb x = nI nb) (ka : na ≤ 40) (kb : nb ≤ 40) {top : Nat} (hT : ∀ i q, top ≤ i → i ≤ na → top ≤ q → q ≤ nb → fl (i * 41 + q) = mt_L (fun i => tr_line fsa fca x (nI i)) (fun i => tr_line fsb fcb x (nI i)) na nb (na - i) (nb - q)) : ∀ (dd i k : Nat) (gb ga : Nat → Int32) (S : mt_S), (na - i) + (nb - k) ≤ dd → i ≤ na → k ≤ nb → top ≤ i → top ≤ k → mt_c gb ga S → wpa Ls xs 26 96 [(0, .ref m), (1, .ref ta), (2, .ref tb), (3, .int x), (4, .int (nI na)), (5, .int (nI nb)), (6, .int (nI i)), (7, .int (nI k))] [] (mt_m M m l b a fl gb ga S.2.2) (mt_rQ M m l b a (mt_wk (fun i => tr_line fsa fca x (nI i)) (fun i => tr_line fsb fcb x (nI i)) na nb dd i k S)) := by
  intro dd
  induction dd with
  | zero =>
    intro i k gb ga S hd hi hk ti tk hc
    refine sg_wr 2 rfl ?_
    refine sg_wb rfl rfl (fun h100 => ?_) (fun h100 => absurd (nI_le (by omega) (by omega)) h100)
    exact sg_we rfl rfl ⟨rfl, ⟨_, _, _, rfl, hc⟩, rfl, rfl⟩
  | succ dd ih =>
    intro i k gb ga S hd hi hk ti tk hc
    rw [mt_wk]
    refine sg_wr 2 rfl ?_
    refine sg_wb rfl rfl (fun h100 => ?_) (fun h100 => ?_)
    · exact sg_we rfl rfl (by rw [if_neg (fun z => absurd (nI_lt z.1 (by omega)) (Int32.not_lt.mpr h100))]; exact ⟨rfl, ⟨_, _, _, rfl, hc⟩, rfl, rfl⟩)
    · refine sg_wr 2 rfl ?_
      refine sg_wb rfl rfl (fun h107 => ?_) (fun h107 => ?_)
      · exact sg_we rfl rfl (by rw [if_neg (fun z => absurd (nI_lt z.2 (by omega)) (Int32.not_lt.mpr h107))]; exact ⟨rfl, ⟨_, _, _, rfl, hc⟩, rfl, rfl⟩)
      · refine sg_wr 3 rfl ?_
        refine sg_p_callV rfl rfl rfl (hA _ _ _ _).1 rfl (Nat.le_of_ble_eq_true rfl) (Nat.le_of_ble_eq_true rfl) (tr_lineOf (hA _ _ _ _) x _) ?_
        refine sg_wr 3 rfl ?_
        refine sg_p_callV rfl rfl rfl (hB _ _ _ _).1 rfl (Nat.le_of_ble_eq_true rfl) (Nat.le_of_ble_eq_true rfl) (tr_lineOf (hB _ _ _ _) x _) ?_
        refine sg_wb rfl rfl (fun h124 => ?_) (fun h124 => ?_)
        · refine sg_wr 5 rfl ?_
          refine sg_p_callV rfl rfl rfl (mt_gm d) rfl (Nat.le_of_ble_eq_true rfl) (Nat.le_of_ble_eq_true rfl) (mt_longest d _ _) ?_
          refine sg_wr 5 rfl ?_
          refine sg_p_callV rfl rfl rfl (mt_gm d) rfl (Nat.le_of_ble_eq_true rfl) (Nat.le_of_ble_eq_true rfl) (mt_longest d _ _) ?_
          refine sg_wb rfl rfl (fun h164 => ?_) (fun h164 => ?_)
          · refine sg_wr 2 rfl ?_
            have a1 := sg_ltn h100 (by omega)
            have a2 := sg_ltn h107 (by omega)
            rw [nI_1, nI_1, mt_lf_n (by omega) (by omega), mt_lf_n (by omega) (by omega), hT (i + 1) k (by omega) (by omega) (by omega) (by omega), hT i (k + 1) (by omega) (by omega) (by omega) (by omega)] at h164
            rw [if_pos ⟨a1, a2⟩, if_neg (show ¬ tr_line fsa fca x (nI i) = tr_line fsb fcb x (nI k) from h124), if_pos h164]
            have h9 := ih i (k + 1) _ _ S (by omega) (by omega) (by omega) (by omega) (by omega) hc
            rw [nI_succ] at h9
            exact h9
          · refine sg_wr 2 rfl ?_
            have a1 := sg_ltn h100 (by omega)
            have a2 := sg_ltn h107 (by omega)
            rw [nI_1, nI_1, mt_lf_n (by omega) (by omega), mt_lf_n (by omega) (by omega), hT (i + 1) k (by omega) (by omega) (by omega) (by omega), hT i (k + 1) (by omega) (by omega) (by omega) (by omega)] at h164
            rw [if_pos ⟨a1, a2⟩, if_neg (show ¬ tr_line fsa fca x (nI i) = tr_line fsb fcb x (nI k) from h124), if_neg h164]
            have h9 := ih (i + 1) k _ _ S (by omega) (by omega) (by omega) (by omega) (by omega) hc
            rw [nI_succ] at h9
            exact h9
        · refine sg_wr 3 rfl ?_
          refine sg_p_callV rfl rfl rfl (mt_gm d) rfl (Nat.le_of_ble_eq_true rfl) (Nat.le_of_ble_eq_true rfl) (mt_pair d (by have := sg_ltn h100 (by omega); omega) (by have := sg_ltn h107 (by omega); omega)) ?_
          refine sg_wr 3 rfl ?_
          have a1 := sg_ltn h100 (by omega)
          have a2 := sg_ltn h107 (by omega)
          rw [if_pos ⟨a1, a2⟩, if_pos (show tr_line fsa fca x (nI i) = tr_line fsb fcb x (nI k) from Classical.byContradiction h124)]
          have h9 := ih (i + 1) (k + 1) _ _ (mt_pr S i k) (by omega) (by omega) (by omega) (by omega) (by omega) (mt_c_pr hc)
          rw [nI_succ, nI_succ] at h9
          exact h9
theorem mt_run {ta sa ca tb sb cb na nb : Nat} {fsa fca fsb fcb : Nat → Int32} {x : Int32} (d : mt_d m l b a) (hA : ∀ fl fb fa p, tr_is (mt_m M m l b a fl fb fa p) ta sa ca fsa fca) (hB : ∀ fl fb fa p, tr_is (mt_m M m l b a fl fb fa p) tb sb cb fsb fcb) (ha : tr_cnt fsa x = nI na) (hb : tr_cnt fsb x = nI nb) (ka : na ≤ 40) (kb : nb ≤ 40) : wpm Ls xs 26 [.ref m, .ref ta, .ref tb, .int x] (mt_m M m l b a fl fb fa p) (mt_rQ M m l b a (mt_rn (fun i => tr_line fsa fca x (nI i)) (fun i => tr_line fsb fcb x (nI i)) na nb)) := by
  refine sg_wr 1 rfl ?_
  refine sg_r_getf rfl (mt_gm d) rfl ?_
  refine sg_wr 1 rfl ?_
  refine sg_p_callS rfl rfl rfl rfl (Nat.le_of_ble_eq_true rfl) (Nat.le_of_ble_eq_true rfl) (jd_fill d.2.2.2.2.2.2.2.1 (by decide) (mt_gb d)) ?_
  rw [mt_wb d]
  refine sg_wr 1 rfl ?_
  refine sg_r_getf rfl (mt_gm d) rfl ?_
  refine sg_wr 1 rfl ?_
  refine sg_p_callS rfl rfl rfl rfl (Nat.le_of_ble_eq_true rfl) (Nat.le_of_ble_eq_true rfl) (jd_fill d.2.2.2.2.2.2.2.2 (by decide) mt_ga) ?_
  rw [mt_wa]
  refine sg_wr 2 rfl ?_
  refine sg_r_putf rfl (mt_gm d) (Nat.le_of_ble_eq_true rfl) rfl ?_
  rw [show ([Value.ref l, .ref b, .ref a, .int p].set 3 (.int 0)) = [.ref l, .ref b, .ref a, .int 0] from rfl, mt_wm d]
  refine sg_wr 2 rfl ?_
  refine sg_p_callV rfl rfl rfl (hA _ _ _ _).1 rfl (Nat.le_of_ble_eq_true rfl) (Nat.le_of_ble_eq_true rfl) (tr_countOf (hA _ _ _ _) x) ?_
  refine sg_wr 3 rfl ?_
  refine sg_p_callV rfl rfl rfl (hB _ _ _ _).1 rfl (Nat.le_of_ble_eq_true rfl) (Nat.le_of_ble_eq_true rfl) (tr_countOf (hB _ _ _ _) x) ?_
  refine sg_wr 3 rfl ?_
  rw [ha, hb]
  have hc0 : mt_c (sg_fl 40 (-1) fb) (sg_fl 40 (-1) fa) mt_S0 := fun j hj => ⟨if_pos hj, if_pos hj⟩
  refine mt_pre_loop (Ls := Ls) (xs := xs) (fl := fl) d hA hB ha hb ka kb na 0 _ _ mt_S0 rfl (Nat.zero_le _) (Nat.zero_le _) hc0 _ (fun i1 S1 gb ga e k1 k2 hc => ?_)
  refine sg_wr 7 rfl ?_
  refine sg_r_callV rfl rfl rfl (mt_gm d) rfl (Nat.le_of_ble_eq_true rfl) (Nat.le_of_ble_eq_true rfl) (mt_measure d hA hB ha hb ka kb k1 k2) ?_
  rintro _ _ _ _ ⟨rfl, ⟨gl, rfl, hgl⟩, rfl, rfl⟩
  refine sg_a0 ?_
  have h9 := mt_wk_loop (Ls := Ls) (xs := xs) d hA hB ha hb ka kb hgl (na + nb) i1 i1 gb ga S1 (by omega) k1 k2 (Nat.le_refl _) (Nat.le_refl _) hc
  have e1 : mt_rn (fun i => tr_line fsa fca x (nI i)) (fun i => tr_line fsb fcb x (nI i)) na nb = mt_wk (fun i => tr_line fsa fca x (nI i)) (fun i => tr_line fsb fcb x (nI i)) na nb (na + nb) i1 i1 S1 := by
    unfold mt_rn
    rw [e]
  rw [e1]
  exact h9
end
end SGMA
