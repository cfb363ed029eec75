section SGAD
section
variable {tab : Nat → Nat → Option sg_F} {hd : Nat → Nat → Nat → Option (Option Nat)} {k pc : Nat} {L : sg_L} {st r : List Value} {M : sg_M} {Q : Option Value ⊕ Nat → sg_M → Nat → Nat → Prop}
theorem sg_r_new {ci n : Nat} {fs : List Value} (hf : tab k pc = some (sg_new pc ci n fs)) (h : sg_wp tab hd k (pc + 3) L (.ref M.2 :: st) (sg_up M.1 M.2 (.inr (ci, fs)), M.2 + 1) (fun r M c s => Q r M (1 + c) (n + s))) : sg_wp tab hd k pc L st M Q := sg_wn hf rfl h
theorem sg_r_newa {n : Nat} (hf : tab k pc = some (sg_newa_int pc)) (hn : n ≤ 65536) (h : sg_wp tab hd k (pc + 2) L (.ref M.2 :: r) (sg_up M.1 M.2 (.inl (0, n, .inl (fun _ => 0))), M.2 + 1) (fun r M c s => Q r M (1 + c) (n + s))) : sg_wp tab hd k pc L (.int (nI n) :: r) M Q :=
  sg_wn hf (by
    have h1 : ¬ nI n < 0 := nI_pos (by omega)
    have h2 : (nI n).toNatClampNeg = n := nI_clamp (by omega)
    unfold sg_newa_int
    simp only [h2]
    rw [if_neg (by rintro (z | z); exact h1 z; omega)]) h
end
/-- below what was made before all is as it was, but for the cells F; k cells are new -/
def sg_ag (F : List Nat) (k : Nat) (M M1 : sg_M) : Prop := (∀ q, q < M.2 → q ∉ F → M1.1 q = M.1 q) ∧ M1.2 = M.2 + k
theorem sg_out.ag {F : List Nat} {M M1 : sg_M} (h : sg_out F M M1) : sg_ag F 0 M M1 := ⟨fun q _ hq => h.1 q hq, h.2⟩
theorem sg_ag.tr {F G H : List Nat} {i j : Nat} {M M1 M2 : sg_M} (h1 : sg_ag F i M M1) (h2 : sg_ag G j M1 M2) (hF : ∀ q ∈ F, q ∈ H) (hG : ∀ q, q < M.2 → q ∈ G → q ∈ H) : sg_ag H (i + j) M M2 := ⟨fun q hq hqH => (h2.1 q (by rw [h1.2]; omega) (fun z => hqH (hG q hq z))).trans (h1.1 q hq (fun z => hqH (hF q z))), by rw [h2.2, h1.2]; omega⟩
theorem tr_is.ag {M M1 : sg_M} {t s c : Nat} {fs fc : Nat → Int32} {F : List Nat} {k : Nat} (h : tr_is M t s c fs fc) (ho : sg_ag F k M M1) (h1 : t < M.2) (h2 : s < M.2) (h3 : c < M.2) (g1 : t ∉ F) (g2 : s ∉ F) (g3 : c ∉ F) : tr_is M1 t s c fs fc := ⟨(ho.1 t h1 g1).trans h.1, (ho.1 s h2 g2).trans h.2.1, (ho.1 c h3 g3).trans h.2.2.1, h.2.2.2.1, h.2.2.2.2⟩
theorem cm_is.ag {M M1 : sg_M} {x : hs_K} {F : List Nat} {k : Nat} (h : cm_is M x) (ho : sg_ag F k M M1) (h1 : hs_q x < M.2 ∧ hs_q x ∉ F) (h2 : hs_t x < M.2 ∧ hs_t x ∉ F) (h3 : hs_s x < M.2 ∧ hs_s x ∉ F) (h4 : hs_c x < M.2 ∧ hs_c x ∉ F) : cm_is M1 x := ⟨(ho.1 _ h1.1 h1.2).trans h.1, h.2.ag ho h2.1 h3.1 h4.1 h2.2 h3.2 h4.2⟩
section
variable {Ls : Nat} {xs : Nat → Int32} {M : sg_M} {n : Nat} {g : Int64} {K : Nat → hs_K}
theorem tr_init {t : Nat} (h : M.1 t = some (.inr (4, [.null, .null]))) (ht : t < M.2) (h0 : M.2 ≠ 0) : wpm Ls xs 0 [.ref t] M (fun r M1 c s => r = .inl none ∧ (tr_is M1 t M.2 (M.2 + 1) (tr_cl (fun _ => 0)) (fun _ => 0) ∧ sg_ag [t] 2 M M1) ∧ c = 2 ∧ s = 328) := by
  have n1 : t ≠ M.2 := by omega
  have n2 : t ≠ M.2 + 1 := by omega
  refine sg_wr 4 rfl ?_
  refine sg_r_newa (n := 8) rfl (by decide) ?_
  refine sg_r_putf rfl ((sg_upne n1).trans h) (Nat.le_of_ble_eq_true rfl) rfl ?_
  refine sg_wr 2 rfl ?_
  refine sg_r_newa (n := 320) rfl (by decide) ?_
  refine sg_r_putf rfl ((sg_upne n2).trans sg_upself) (Nat.le_of_ble_eq_true rfl) rfl ?_
  refine sg_wr 1 rfl ?_
  refine sg_r_getf rfl sg_upself rfl ?_
  refine sg_wr 1 rfl ?_
  refine sg_p_callS rfl rfl rfl rfl (Nat.le_of_ble_eq_true rfl) (Nat.le_of_ble_eq_true rfl) (jd_fill (n := 8) (f := fun _ => 0) h0 (by decide) ((sg_upne (Ne.symm n1)).trans ((sg_upne (Nat.ne_of_lt (Nat.lt_succ_self _))).trans ((sg_upne (Ne.symm n1)).trans sg_upself)))) ?_
  refine sg_we rfl rfl ⟨rfl, ⟨⟨?_, sg_upself, ?_, h0, Nat.succ_ne_zero _⟩, fun q hq hqt => ?_, rfl⟩, rfl, rfl⟩
  · exact (sg_upne n1).trans sg_upself
  · exact (sg_upne (Nat.ne_of_gt (Nat.lt_succ_self _))).trans ((sg_upne (Ne.symm n2)).trans sg_upself)
  · have hqt : q ≠ t := fun z => hqt (by rw [z]; exact List.mem_cons_self)
    exact (sg_upne (by omega)).trans ((sg_upne hqt).trans ((sg_upne (by omega)).trans ((sg_upne hqt).trans (sg_upne (by omega)))))
theorem cm_init {q t : Nat} {w f e d : Int32} {a : Int64} (h : M.1 q = some (.inr (0, [.null, .int 0, .int 0, .int 0, .int 0, .long 0]))) : wpm Ls xs 16 [.ref q, .ref t, .int w, .int f, .int e, .int d, .long a] M (sg_eq none (sg_up M.1 q (.inr (0, [.ref t, .int w, .int f, .int e, .int d, .long a])), M.2)) := by
  refine sg_wr 4 rfl ?_
  refine sg_r_putf rfl h (Nat.le_of_ble_eq_true rfl) rfl ?_
  refine sg_wr 2 rfl ?_
  refine sg_r_putf rfl sg_upself (Nat.le_of_ble_eq_true rfl) rfl ?_
  rw [sg_upup]
  refine sg_wr 2 rfl ?_
  refine sg_r_putf rfl sg_upself (Nat.le_of_ble_eq_true rfl) rfl ?_
  rw [sg_upup]
  refine sg_wr 2 rfl ?_
  refine sg_r_putf rfl sg_upself (Nat.le_of_ble_eq_true rfl) rfl ?_
  rw [sg_upup]
  refine sg_wr 2 rfl ?_
  refine sg_r_putf rfl sg_upself (Nat.le_of_ble_eq_true rfl) rfl ?_
  rw [sg_upup]
  refine sg_wr 2 rfl ?_
  refine sg_r_putf rfl sg_upself (Nat.le_of_ble_eq_true rfl) rfl ?_
  rw [sg_upup]
  exact sg_we rfl rfl ⟨rfl, rfl, rfl, rfl⟩
def hs_new (M : sg_M) (n : Nat) (K : Nat → hs_K) (w f e : Int32) (fs fc : Nat → Int32) : hs_K := ((M.2 + 3, M.2, M.2 + 1, M.2 + 2), (w, f, e, kd_new n K f e, ka_new n K f e), va_cpy fs (tr_cl (fun _ => 0)) 0 0 8, va_cpy fc (fun _ => 0) 0 0 320)
/-- what add brings about -/
abbrev hs_aq (M : sg_M) (n : Nat) (g : Int64) (K : Nat → hs_K) (w f e : Int32) (fs fc : Nat → Int32) : Option Value ⊕ Nat → sg_M → Nat → Nat → Prop := fun r M1 c s =>
  (n = 60 ∧ r = .inl (some (.int (-1))) ∧ M1 = M ∧ c = 0 ∧ s = 0) ∨ (n < 60 ∧ r = .inl (some (.int (nI n))) ∧ hs_is M1 (n + 1) g (hs_up K n (hs_new M n K w f e fs fc)) ∧ sg_ag [132, 133] 4 M M1 ∧ c = 4 ∧ s = 336)
theorem hs_is.ag {F : List Nat} {k : Nat} {M1 : sg_M} (h : hs_is M n g K) (ho : sg_ag F k M M1) (hF : ∀ q ∈ F, q < 132 ∨ (137 < q ∧ q < 161) ∨ M.2 ≤ q) : hs_is M1 n g K := by
  obtain ⟨h1, ⟨mk, h2, h2'⟩, h3, h4, h5, h6⟩ := h
  have hno : ∀ q, 132 ≤ q → q ≤ 137 → q < M.2 ∧ q ∉ F := fun q a b => ⟨by omega, fun z => by rcases hF q z with y | y | y <;> omega⟩
  have hbig : ∀ q, 161 ≤ q ∧ q < M.2 → q < M.2 ∧ q ∉ F := fun q a => ⟨a.2, fun z => by rcases hF q z with y | y | y <;> omega⟩
  refine ⟨(ho.1 _ (hno _ (by omega) (by omega)).1 (hno _ (by omega) (by omega)).2).trans h1, ⟨mk, (ho.1 _ (hno _ (by omega) (by omega)).1 (hno _ (by omega) (by omega)).2).trans h2, h2'⟩, h3.ag ho (hno 134 (by decide) (by decide)) (hno 135 (by decide) (by decide)) (hno 136 (by decide) (by decide)) (hno 137 (by decide) (by decide)), h4, by rw [ho.2]; omega, fun i hi => ?_⟩
  obtain ⟨k1, k2, k3, k4, k5⟩ := h6 i hi
  rw [ho.2]
  exact ⟨k1.ag ho (hbig _ k2) (hbig _ k3) (hbig _ k4) (hbig _ k5), by omega, by omega, by omega, by omega⟩
theorem hs_addM {M2 : sg_M} {N : Nat} {mk : Nat → Option Nat} {k : hs_K} (h : hs_is M2 n g K) (k2 : M2.1 133 = some (.inl (1, 60, .inr (.inr (.inr (.inr mk)))))) (k2' : ∀ j, j < 60 → mk j = if j < n then some (hs_q (K j)) else none) (hn : n < 60) (hN : 161 ≤ N) (hz : M2.2 = N + 3) (hq : hs_q k = N + 3) (ht : hs_t k = N) (hs : hs_s k = N + 1) (hc : hs_c k = N + 2) (hT : tr_is M2 N (N + 1) (N + 2) (hs_fs k) (hs_fc k)) {vs : List Value} (hvs : vs = [.ref (hs_t k), .int (hs_w k), .int (hs_f k), .int (hs_e k), .int (hs_d k), .long (hs_a k)]) :
    hs_is (sg_up (sg_up (sg_up M2.1 (N + 3) (.inr (0, vs))) 133 (.inl (1, 60, .inr (.inr (.inr (.inr (va_up mk n (some (N + 3))))))))) 132 (.inr (1, [.ref 133, .ref 134, .int (nI n + 1), .long g])), N + 3 + 1) (n + 1) g (hs_up K n k) := by
  obtain ⟨h1, -, h3, h4, h5, h6⟩ := h
  subst hvs
  have fo : ∀ q, q < N + 3 → q ≠ 132 → q ≠ 133 → (sg_up (sg_up (sg_up M2.1 (N + 3) (.inr (0, [.ref (hs_t k), .int (hs_w k), .int (hs_f k), .int (hs_e k), .int (hs_d k), .long (hs_a k)]))) 133 (.inl (1, 60, .inr (.inr (.inr (.inr (va_up mk n (some (N + 3))))))))) 132 (.inr (1, [.ref 133, .ref 134, .int (nI n + 1), .long g]))) q = M2.1 q := fun q a b c => (sg_upne b).trans ((sg_upne c).trans (sg_upne (by omega)))
  generalize hm : (sg_up (sg_up (sg_up M2.1 (N + 3) (.inr (0, [.ref (hs_t k), .int (hs_w k), .int (hs_f k), .int (hs_e k), .int (hs_d k), .long (hs_a k)]))) 133 (.inl (1, 60, .inr (.inr (.inr (.inr (va_up mk n (some (N + 3))))))))) 132 (.inr (1, [.ref 133, .ref 134, .int (nI n + 1), .long g]))) = m at fo ⊢
  have f1 : m 132 = some (.inr (1, [.ref 133, .ref 134, .int (nI n + 1), .long g])) := by rw [← hm]; exact sg_upself
  have f2 : m 133 = some (.inl (1, 60, .inr (.inr (.inr (.inr (va_up mk n (some (N + 3)))))))) := by rw [← hm]; exact (sg_upne (by decide)).trans sg_upself
  have f3 : m (N + 3) = some (.inr (0, [.ref (hs_t k), .int (hs_w k), .int (hs_f k), .int (hs_e k), .int (hs_d k), .long (hs_a k)])) := by rw [← hm]; exact (sg_upne (by omega)).trans ((sg_upne (by omega)).trans sg_upself)
  have hT' : tr_is (m, N + 3 + 1) N (N + 1) (N + 2) (hs_fs k) (hs_fc k) := ⟨(fo N (by omega) (by omega) (by omega)).trans hT.1, (fo (N + 1) (by omega) (by omega) (by omega)).trans hT.2.1, (fo (N + 2) (by omega) (by omega) (by omega)).trans hT.2.2.1, hT.2.2.2.1, hT.2.2.2.2⟩
  have hC : ∀ x : hs_K, cm_is M2 x → (hs_q x < N + 3 ∧ hs_q x ≠ 132 ∧ hs_q x ≠ 133) → (hs_t x < N + 3 ∧ hs_t x ≠ 132 ∧ hs_t x ≠ 133) → (hs_s x < N + 3 ∧ hs_s x ≠ 132 ∧ hs_s x ≠ 133) → (hs_c x < N + 3 ∧ hs_c x ≠ 132 ∧ hs_c x ≠ 133) → cm_is (m, N + 3 + 1) x := fun x hx a b c d => ⟨(fo _ a.1 a.2.1 a.2.2).trans hx.1, (fo _ b.1 b.2.1 b.2.2).trans hx.2.1, (fo _ c.1 c.2.1 c.2.2).trans hx.2.2.1, (fo _ d.1 d.2.1 d.2.2).trans hx.2.2.2.1, hx.2.2.2.2.1, hx.2.2.2.2.2⟩
  refine ⟨by rw [nI_succ]; exact f1, ⟨_, f2, fun j hj => ?_⟩, hC _ h3 ⟨by show 134 < N + 3; omega, by decide, by decide⟩ ⟨by show 135 < N + 3; omega, by decide, by decide⟩ ⟨by show 136 < N + 3; omega, by decide, by decide⟩ ⟨by show 137 < N + 3; omega, by decide, by decide⟩, hn, by show 161 ≤ N + 3 + 1; omega, fun i hi => ?_⟩
  · show (if j = n then some (N + 3) else mk j) = _
    by_cases hz : j = n
    · subst hz
      rw [if_pos rfl, if_pos (Nat.lt_succ_self _), hs_up_n, hq]
    · rw [if_neg hz, k2' j hj]
      by_cases hj2 : j < n
      · rw [if_pos hj2, if_pos (by omega), hs_up_lt hj2]
      · rw [if_neg hj2, if_neg (by omega)]
  · by_cases hz9 : i = n
    · subst hz9
      rw [hs_up_n]
      refine ⟨⟨by rw [hq]; exact f3, by rw [ht, hs, hc]; exact hT'⟩, ?_, ?_, ?_, ?_⟩
      · rw [hq]; show 161 ≤ N + 3 ∧ N + 3 < N + 3 + 1; omega
      · rw [ht]; show 161 ≤ N ∧ N < N + 3 + 1; omega
      · rw [hs]; show 161 ≤ N + 1 ∧ N + 1 < N + 3 + 1; omega
      · rw [hc]; show 161 ≤ N + 2 ∧ N + 2 < N + 3 + 1; omega
    · have hi' : i < n := by omega
      rw [hs_up_lt hi']
      obtain ⟨c1, c2, c3, c4, c5⟩ := h6 i hi'
      exact ⟨hC _ c1 (by omega) (by omega) (by omega) (by omega), ⟨c2.1, by show _ < N + 3 + 1; omega⟩, ⟨c3.1, by show _ < N + 3 + 1; omega⟩, ⟨c4.1, by show _ < N + 3 + 1; omega⟩, ⟨c5.1, by show _ < N + 3 + 1; omega⟩⟩
set_option maxHeartbeats 1000000 in
theorem hs_add {t s c : Nat} {fs fc : Nat → Int32} (h : hs_is M n g K) (ht : tr_is M t s c fs fc) (l1 : t < M.2) (l2 : s < M.2) (l3 : c < M.2) (w f e : Int32) : wpm Ls xs 21 [.ref 132, .ref t, .int w, .int f, .int e] M (hs_aq M n g K w f e fs fc) := by
  obtain ⟨h1, -, -, h4, h5, -⟩ := id h
  refine sg_wr 1 rfl ?_
  refine sg_r_getf rfl h1 rfl ?_
  refine sg_wr 1 rfl ?_
  refine sg_wb rfl rfl (fun h6 => ?_) (fun h6 => ?_)
  rotate_left
  · have hn : n = 60 := by
      have := (nI_leI (a := 60) (by decide) (by omega)).mp (Int32.not_lt.mp h6)
      omega
    refine sg_wr 1 rfl ?_
    exact sg_we rfl rfl (Or.inl ⟨hn, rfl, rfl, rfl, rfl⟩)
  have hn : n < 60 := (nI_ltI (by omega) (by decide)).mp h6
  refine sg_r_new rfl ?_
  refine sg_wr 1 rfl ?_
  refine sg_r_callI rfl rfl rfl rfl (Nat.le_of_ble_eq_true rfl) (Nat.le_of_ble_eq_true rfl) (tr_init (t := M.2) sg_upself (Nat.lt_succ_self _) (Nat.succ_ne_zero _)) ?_
  rintro _ M1 _ _ ⟨rfl, ⟨hT, hG⟩, rfl, rfl⟩
  have hG0 : sg_ag [] 1 M (sg_up M.1 M.2 (.inr (4, [.null, .null])), M.2 + 1) := ⟨fun q hq _ => sg_upne (by omega), rfl⟩
  have hG1 : sg_ag [] 3 M M1 := hG0.tr hG (fun q z => z) (fun q hq z => by rw [List.mem_singleton.mp z] at hq; exact absurd hq (Nat.lt_irrefl _))
  have hT : tr_is M1 M.2 (M.2 + 1) (M.2 + 2) (tr_cl (fun _ => 0)) (fun _ => 0) := hT
  have ht1 : tr_is M1 t s c fs fc := ht.ag hG1 l1 l2 l3 (by simp) (by simp) (by simp)
  have hH1 : hs_is M1 n g K := h.ag hG1 (fun q z => nomatch z)
  refine sg_wr 3 rfl ?_
  refine sg_p_callV rfl rfl rfl hT.1 rfl (Nat.le_of_ble_eq_true rfl) (Nat.le_of_ble_eq_true rfl) (tr_become hT ht1) ?_
  have hT2 := tr_st_is (gs := va_cpy fs (tr_cl (fun _ => 0)) 0 0 8) (gc := va_cpy fc (fun _ => 0) 0 0 320) hT
  have hO2 : sg_out [M.2 + 1, M.2 + 2] M1 (tr_st M1 (M.2 + 1) (M.2 + 2) (va_cpy fs (tr_cl (fun _ => 0)) 0 0 8) (va_cpy fc (fun _ => 0) 0 0 320)) := tr_st_out
  generalize hM2 : tr_st M1 (M.2 + 1) (M.2 + 2) (va_cpy fs (tr_cl (fun _ => 0)) 0 0 8) (va_cpy fc (fun _ => 0) 0 0 320) = M2 at hT2 hO2 ⊢
  have hG2 : sg_ag [] 3 M M2 := hG1.tr hO2.ag (fun q z => z) (fun q hq z => by rcases List.mem_cons.mp z with y | y; omega; rw [List.mem_singleton.mp y] at hq; omega)
  have hH2 : hs_is M2 n g K := h.ag hG2 (fun q z => nomatch z)
  have hz2 : M2.2 = M.2 + 3 := hG2.2
  have cf := (hs_get hH2 f).1
  have ce := (hs_get hH2 e).1
  refine sg_wr 3 rfl ?_
  refine sg_p_callV rfl rfl rfl hH2.1 rfl (Nat.le_of_ble_eq_true rfl) (Nat.le_of_ble_eq_true rfl) (hs_at hH2 f) ?_
  refine sg_r_getf rfl cf rfl ?_
  refine sg_wr 2 rfl ?_
  refine sg_p_callV rfl rfl rfl hH2.1 rfl (Nat.le_of_ble_eq_true rfl) (Nat.le_of_ble_eq_true rfl) (hs_at hH2 e) ?_
  refine sg_r_getf rfl ce rfl ?_
  refine sg_wr 5 rfl ?_
  refine sg_r_getf rfl hH2.1 rfl ?_
  refine sg_wr 3 rfl ?_
  refine sg_p_callV rfl rfl rfl hH2.1 rfl (Nat.le_of_ble_eq_true rfl) (Nat.le_of_ble_eq_true rfl) (hs_at hH2 f) ?_
  refine sg_r_getf rfl cf rfl ?_
  refine sg_wr 3 rfl ?_
  refine sg_p_callV rfl rfl rfl hH2.1 rfl (Nat.le_of_ble_eq_true rfl) (Nat.le_of_ble_eq_true rfl) (hs_at hH2 e) ?_
  refine sg_r_getf rfl ce rfl ?_
  refine sg_wr 3 rfl ?_
  refine sg_r_getf rfl hH2.1 rfl ?_
  refine sg_wr 1 rfl ?_
  refine sg_r_getf rfl hH2.1 rfl ?_
  refine sg_r_new rfl ?_
  rw [hz2]
  refine sg_wr 7 rfl ?_
  refine sg_r_callI rfl rfl rfl rfl (Nat.le_of_ble_eq_true rfl) (Nat.le_of_ble_eq_true rfl) (cm_init sg_upself) ?_
  rintro _ _ _ _ ⟨rfl, rfl, rfl, rfl⟩
  refine sg_a0 ?_
  rw [sg_upup]
  obtain ⟨k1, ⟨mk, k2, k2'⟩, k3, k4, k5, k6⟩ := hH2
  refine sg_r_aast rfl ((sg_upne (show 133 ≠ M.2 + 3 by omega)).trans k2) sg_upself (sg_in_n hn (by decide)) ?_
  rw [nI_clamp (by omega)]
  refine sg_wr 2 rfl ?_
  refine sg_r_getf rfl ((sg_upne (show 132 ≠ M.2 + 3 by omega)).trans k1) rfl ?_
  refine sg_wr 2 rfl ?_
  refine sg_r_putf rfl ((sg_upne (show 132 ≠ M.2 + 3 by omega)).trans k1) (Nat.le_of_ble_eq_true rfl) rfl ?_
  refine sg_wr 1 rfl ?_
  refine sg_r_getf rfl rfl rfl ?_
  refine sg_wr 2 rfl ?_
  rw [show nI n + 1 - 1 = nI n from by rw [nI_1]; exact nI_pred n]
  refine sg_we rfl rfl (Or.inr ⟨hn, rfl, hs_addM (k := hs_new M n K w f e fs fc) ⟨k1, ⟨mk, k2, k2'⟩, k3, k4, k5, k6⟩ k2 k2' hn h5 hz2 rfl (show hs_t (hs_new M n K w f e fs fc) = M.2 from rfl) rfl rfl hT2 rfl, ?_, rfl, rfl⟩)
  refine ⟨fun q hq hqF => ?_, rfl⟩
  have n1 : q ≠ 132 := fun z => hqF (by rw [z]; exact List.mem_cons_self)
  have n2 : q ≠ 133 := fun z => hqF (by rw [z]; exact List.mem_cons_of_mem _ List.mem_cons_self)
  exact (sg_upne n1).trans ((sg_upne n2).trans ((sg_upne (by omega)).trans (hG2.1 q hq (by simp))))
end
end SGAD
