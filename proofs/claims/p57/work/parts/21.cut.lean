section SGMG
theorem mg_no {q : Nat} (h : q ∉ mg_F) {L : List Nat} (hL : ∀ x ∈ L, x ∈ mg_F) : q ∉ L := fun z => h (hL q z)
section
variable {Ls : Nat} {xs : Nat → Int32} {M : sg_M} {G : mg_C}
def mg_um1 (G : mg_C) (gl gb ga : Nat → Int32) (p : Int32) : mg_C := (mg_mk G.b G.o G.t G.pc G.cc G.fi G.to G.sz G.wy G.nx G.cp G.fs G.fc (gl) (gb) (ga) G.l2 G.b2 G.a2 (p) G.p2)
def mg_um2 (G : mg_C) (gl gb ga : Nat → Int32) (p : Int32) : mg_C := (mg_mk G.b G.o G.t G.pc G.cc G.fi G.to G.sz G.wy G.nx G.cp G.fs G.fc G.l1 G.b1 G.a1 (gl) (gb) (ga) G.p1 (p))
def mg_unx (G : mg_C) (f : Nat → Int32) : mg_C := (mg_mk G.b G.o G.t G.pc G.cc G.fi G.to G.sz G.wy (f) G.cp G.fs G.fc G.l1 G.b1 G.a1 G.l2 G.b2 G.a2 G.p1 G.p2)
theorem mg_is.m1 (h : mg_is M G) (gl gb ga : Nat → Int32) (p : Int32) : mg_is (mt_m M 144 145 146 147 gl gb ga p) (mg_um1 G gl gb ga p) := by
  obtain ⟨g143, g155, g156, g157, g158, g159, g160, gR, g144, g145, g146, g147, g148, g149, g150, g151⟩ := id h
  exact ⟨g143, g155, g156, g157, g158, g159, g160, gR, rfl, rfl, rfl, rfl, g148, g149, g150, g151⟩
theorem mg_is.m2 (h : mg_is M G) (gl gb ga : Nat → Int32) (p : Int32) : mg_is (mt_m M 148 149 150 151 gl gb ga p) (mg_um2 G gl gb ga p) := by
  obtain ⟨g143, g155, g156, g157, g158, g159, g160, gR, g144, g145, g146, g147, g148, g149, g150, g151⟩ := id h
  exact ⟨g143, g155, g156, g157, g158, g159, g160, gR, g144, g145, g146, g147, rfl, rfl, rfl, rfl⟩
theorem mg_is.unx (h : mg_is M G) (f : Nat → Int32) : mg_is (sg_up M.1 159 (.inl (0, 3, .inl f)), M.2) (mg_unx G f) := by
  obtain ⟨g143, g155, g156, g157, g158, g159, g160, gR, g144, g145, g146, g147, g148, g149, g150, g151⟩ := id h
  exact ⟨g143, g155, g156, g157, g158, rfl, g160, gR, g144, g145, g146, g147, g148, g149, g150, g151⟩
theorem mg_m1_out {gl gb ga : Nat → Int32} {p : Int32} : sg_out mg_F M (mt_m M 144 145 146 147 gl gb ga p) := mt_out.mono (by decide)
theorem mg_m2_out {gl gb ga : Nat → Int32} {p : Int32} : sg_out mg_F M (mt_m M 148 149 150 151 gl gb ga p) := mt_out.mono (by decide)
theorem mg_d1 : mt_d 144 145 146 147 := by unfold mt_d; decide
theorem mg_d2 : mt_d 148 149 150 151 := by unfold mt_d; decide
/-- what cutting a file leaves as it is -/
def mg_kq (G G1 : mg_C) : Prop := G1.b = G.b ∧ G1.o = G.o ∧ G1.t = G.t ∧ G1.cc = G.cc ∧ G1.fs = G.fs ∧ G1.fc = G.fc
theorem mg_kq.rf : mg_kq G G := ⟨rfl, rfl, rfl, rfl, rfl, rfl⟩
theorem mg_kq.tr {G1 G2 : mg_C} (h : mg_kq G G1) (g : mg_kq G1 G2) : mg_kq G G2 := by
  obtain ⟨a1, a2, a3, a4, a5, a6⟩ := h
  obtain ⟨c1, c2, c3, c4, c5, c6⟩ := g
  exact ⟨c1.trans a1, c2.trans a2, c3.trans a3, c4.trans a4, c5.trans a5, c6.trans a6⟩
theorem mg_kp.kq {G1 : mg_C} (h : mg_kp G G1) : mg_kq G G1 := ⟨h.1, h.2.1, h.2.2.1, h.2.2.2.1, h.2.2.2.2.1, h.2.2.2.2.2.1⟩
theorem mg_kq.trees {G1 : mg_C} {M1 : sg_M} (h : mg_kq G G1) (ht : mg_tr M G) (ho : sg_out mg_F M M1) : mg_tr M1 G1 := ht.out ho h.1 h.2.1 h.2.2.1
abbrev mg_cq (M : sg_M) (G : mg_C) : Option Value ⊕ Nat → sg_M → Nat → Nat → Prop := fun r M1 c s => r = .inl none ∧ (∃ G1 : mg_C, mg_is M1 G1 ∧ sg_out mg_F M M1 ∧ mg_kq G G1 ∧ G1.pc ≤ 328 ∧ (G.o = G.t → mg_sp G → G.nx 0 = G.nx 1 → mg_sp G1)) ∧ c = 0 ∧ s = 0
theorem mg_cq_tr {M1 : sg_M} {G1 : mg_C} {k pc : Nat} {L : sg_L} {st : List Value} (h : wpa Ls xs k pc L st M1 (mg_cq M1 G1)) (o1 : sg_out mg_F M M1) (hk : mg_kq G G1) (hs : G.o = G.t → mg_sp G → G.nx 0 = G.nx 1 → mg_sp G1 ∧ G1.nx 0 = G1.nx 1) : wpa Ls xs k pc L st M1 (mg_cq M G) :=
  h.mono fun r M2 c s ⟨e1, ⟨G2, q1, q2, q3, q4, q5⟩, e2, e3⟩ => ⟨e1, ⟨G2, q1, o1.tr q2 (fun _ z => z), hk.tr q3, q4, fun z1 z2 z3 => q5 (by rw [hk.2.1, hk.2.2.1]; exact z1) (hs z1 z2 z3).1 (hs z1 z2 z3).2⟩, e2, e3⟩
theorem mg_pq_cq {e0 e1 : Int32} (he : G.o = G.t → e0 = e1) {r : Option Value ⊕ Nat} {M1 : sg_M} {c s : Nat} (h : mg_pq M G e0 e1 r M1 c s) : mg_cq M G r M1 c s := by
  obtain ⟨e1, ⟨G1, q1, q2, q3, q4, q5⟩, e2, e3⟩ := h
  exact ⟨e1, ⟨G1, q1, q2, q3.kq, q4, fun z1 z2 z3 => (q5 (he z1) z2 z3).1⟩, e2, e3⟩
theorem mg_cl {x : Int32} {nb : Nat} (hnb : nb ≤ 40) : ∀ (d i : Nat) (M : sg_M) (G : mg_C) (T : sg_L), mg_is M G → mg_tr M G → G.pc ≤ 328 → (G.o = G.t → ∀ j : Nat, j < 40 → G.b1 j = G.b2 j) → d = nb - i → i ≤ nb → (T = [] ∨ ∃ v v2 : Int32, T = [(4, .int v), (5, .int v2)]) → wpa Ls xs 47 103 ([(0, .ref 143), (1, .int x), (2, .int (nI nb)), (3, .int (nI i))] ++ T) [] M (mg_cq M G) := by
  intro d
  induction d with
  | zero =>
    intro i M G T h ht hp hb hd hi hT
    obtain ⟨so, co, fso, fco, to, -⟩ := ht.2.1
    obtain ⟨st, ct, fst, fct, tt, -⟩ := ht.2.2
    have g143 := h.1
    have e : i = nb := by omega
    subst e
    have hz : G.o = G.t → tr_size fso x = tr_size fst x := fun q => by
      rw [q] at to
      rw [(tr_inj to tt).1]
    rcases hT with rfl | ⟨v, v2, rfl⟩
    · refine sg_wr 2 rfl ?_
      refine sg_wb rfl rfl (fun h105 => ?_) (fun h105 => absurd Int32.le_rfl h105)
      refine sg_wr 3 rfl ?_
      refine sg_r_getf rfl g143 rfl ?_
      refine sg_wr 1 rfl ?_
      refine sg_p_callV rfl rfl rfl to.1 rfl (Nat.le_of_ble_eq_true rfl) (Nat.le_of_ble_eq_true rfl) (tr_sizeOf to x) ?_
      refine sg_wr 1 rfl ?_
      refine sg_r_getf rfl g143 rfl ?_
      refine sg_wr 1 rfl ?_
      refine sg_p_callV rfl rfl rfl tt.1 rfl (Nat.le_of_ble_eq_true rfl) (Nat.le_of_ble_eq_true rfl) (tr_sizeOf tt x) ?_
      refine sg_wr 1 rfl ?_
      refine sg_r_callV rfl rfl rfl g143 rfl (Nat.le_of_ble_eq_true rfl) (Nat.le_of_ble_eq_true rfl) (mg_piece h hp _ _ _ _) ?_
      intro r M1 c s hq
      obtain ⟨rfl, hq2, rfl, rfl⟩ := mg_pq_cq hz hq
      refine sg_a0 ?_
      exact sg_we rfl rfl ⟨rfl, hq2, rfl, rfl⟩
    · refine sg_wr 2 rfl ?_
      refine sg_wb rfl rfl (fun h105 => ?_) (fun h105 => absurd Int32.le_rfl h105)
      refine sg_wr 3 rfl ?_
      refine sg_r_getf rfl g143 rfl ?_
      refine sg_wr 1 rfl ?_
      refine sg_p_callV rfl rfl rfl to.1 rfl (Nat.le_of_ble_eq_true rfl) (Nat.le_of_ble_eq_true rfl) (tr_sizeOf to x) ?_
      refine sg_wr 1 rfl ?_
      refine sg_r_getf rfl g143 rfl ?_
      refine sg_wr 1 rfl ?_
      refine sg_p_callV rfl rfl rfl tt.1 rfl (Nat.le_of_ble_eq_true rfl) (Nat.le_of_ble_eq_true rfl) (tr_sizeOf tt x) ?_
      refine sg_wr 1 rfl ?_
      refine sg_r_callV rfl rfl rfl g143 rfl (Nat.le_of_ble_eq_true rfl) (Nat.le_of_ble_eq_true rfl) (mg_piece h hp _ _ _ _) ?_
      intro r M1 c s hq
      obtain ⟨rfl, hq2, rfl, rfl⟩ := mg_pq_cq hz hq
      refine sg_a0 ?_
      exact sg_we rfl rfl ⟨rfl, hq2, rfl, rfl⟩
  | succ d ih =>
    intro i M G T h ht hp hb hd hi hT
    obtain ⟨g143, g155, g156, g157, g158, g159, g160, gR, g144, g145, g146, g147, g148, g149, g150, g151⟩ := id h
    have hlt : i < nb := by omega
    have hgo : ∀ (v v2 : Int32), wpa Ls xs 47 150 [(0, .ref 143), (1, .int x), (2, .int (nI nb)), (3, .int (nI i)), (4, .int v), (5, .int v2)] [] M (mg_cq M G) := by
      intro v v2
      refine sg_wr 2 rfl ?_
      have h9 := ih (i + 1) M G [(4, .int v), (5, .int v2)] h ht hp hb (by omega) hlt (Or.inr ⟨v, v2, rfl⟩)
      rw [nI_succ] at h9
      exact h9
    have heq : G.o = G.t → mt_get G.b1 (nI i) = mt_get G.b2 (nI i) := fun q => by
      rw [mt_get_n (by omega), mt_get_n (by omega)]
      exact hb q i (by omega)
    rcases hT with rfl | ⟨v, v2, rfl⟩
    · refine sg_wr 2 rfl ?_
      refine sg_wb rfl rfl (fun h105 => absurd h105 (nI_ge hlt (by omega))) (fun h105 => ?_)
      refine sg_wr 1 rfl ?_
      refine sg_r_getf rfl g143 rfl ?_
      refine sg_wr 1 rfl ?_
      refine sg_p_callV rfl rfl rfl g144 rfl (Nat.le_of_ble_eq_true rfl) (Nat.le_of_ble_eq_true rfl) (mt_placeB g144 g146 (by decide) (nI i)) ?_
      refine sg_wr 2 rfl ?_
      refine sg_r_getf rfl g143 rfl ?_
      refine sg_wr 1 rfl ?_
      refine sg_p_callV rfl rfl rfl g148 rfl (Nat.le_of_ble_eq_true rfl) (Nat.le_of_ble_eq_true rfl) (mt_placeB g148 g150 (by decide) (nI i)) ?_
      refine sg_wr 3 rfl ?_
      refine sg_wb rfl rfl (fun h131 => ?_) (fun h131 => ?_)
      · exact hgo _ _
      · refine sg_wr 2 rfl ?_
        refine sg_wb rfl rfl (fun h137 => ?_) (fun h137 => ?_)
        · exact hgo _ _
        · refine sg_wr 5 rfl ?_
          refine sg_r_callV rfl rfl rfl g143 rfl (Nat.le_of_ble_eq_true rfl) (Nat.le_of_ble_eq_true rfl) (mg_piece h hp _ _ _ _) ?_
          rintro _ M1 _ _ ⟨rfl, ⟨G1, q1, q2, q3, q4, q5⟩, rfl, rfl⟩
          refine sg_a0 ?_
          refine sg_wr 2 rfl ?_
          have h9 := ih (i + 1) M1 G1 _ q1 (ht.out q2 q3.1 q3.2.1 q3.2.2.1) q4 (by rw [q3.2.1, q3.2.2.1, q3.2.2.2.2.2.2.1, q3.2.2.2.2.2.2.2]; exact hb) (by omega) hlt (Or.inr ⟨mt_get G.b1 (nI i), mt_get G.b2 (nI i), rfl⟩)
          rw [nI_succ] at h9
          exact mg_cq_tr h9 q2 q3.kq (fun z1 z2 z3 => q5 (heq z1) z2 z3)
    · refine sg_wr 2 rfl ?_
      refine sg_wb rfl rfl (fun h105 => absurd h105 (nI_ge hlt (by omega))) (fun h105 => ?_)
      refine sg_wr 1 rfl ?_
      refine sg_r_getf rfl g143 rfl ?_
      refine sg_wr 1 rfl ?_
      refine sg_p_callV rfl rfl rfl g144 rfl (Nat.le_of_ble_eq_true rfl) (Nat.le_of_ble_eq_true rfl) (mt_placeB g144 g146 (by decide) (nI i)) ?_
      refine sg_wr 2 rfl ?_
      refine sg_r_getf rfl g143 rfl ?_
      refine sg_wr 1 rfl ?_
      refine sg_p_callV rfl rfl rfl g148 rfl (Nat.le_of_ble_eq_true rfl) (Nat.le_of_ble_eq_true rfl) (mt_placeB g148 g150 (by decide) (nI i)) ?_
      refine sg_wr 3 rfl ?_
      refine sg_wb rfl rfl (fun h131 => ?_) (fun h131 => ?_)
      · exact hgo _ _
      · refine sg_wr 2 rfl ?_
        refine sg_wb rfl rfl (fun h137 => ?_) (fun h137 => ?_)
        · exact hgo _ _
        · refine sg_wr 5 rfl ?_
          refine sg_r_callV rfl rfl rfl g143 rfl (Nat.le_of_ble_eq_true rfl) (Nat.le_of_ble_eq_true rfl) (mg_piece h hp _ _ _ _) ?_
          rintro _ M1 _ _ ⟨rfl, ⟨G1, q1, q2, q3, q4, q5⟩, rfl, rfl⟩
          refine sg_a0 ?_
          refine sg_wr 2 rfl ?_
          have h9 := ih (i + 1) M1 G1 _ q1 (ht.out q2 q3.1 q3.2.1 q3.2.2.1) q4 (by rw [q3.2.1, q3.2.2.1, q3.2.2.2.2.2.2.1, q3.2.2.2.2.2.2.2]; exact hb) (by omega) hlt (Or.inr ⟨mt_get G.b1 (nI i), mt_get G.b2 (nI i), rfl⟩)
          rw [nI_succ] at h9
          exact mg_cq_tr h9 q2 q3.kq (fun z1 z2 z3 => q5 (heq z1) z2 z3)

theorem mg_cut8 (h : mg_is M G) (ht : mg_tr M G) (hp : G.pc ≤ 328) (x : Int32) : wpa Ls xs 47 8 [(0, .ref 143), (1, .int x)] [] M (mg_cq M G) := by
  obtain ⟨g143, g155, g156, g157, g158, g159, g160, gR, g144, g145, g146, g147, g148, g149, g150, g151⟩ := id h
  obtain ⟨sb, cb, fsb, fcb, tb, b1, b2, b3, b4⟩ := ht.1
  obtain ⟨so, co, fso, fco, to, o1, o2, o3, o4⟩ := ht.2.1
  obtain ⟨st, ct, fst, fct, tt, t1, t2, t3, t4⟩ := ht.2.2
  obtain ⟨nb, kb, hnb⟩ := tr_cnt_n b4 x
  obtain ⟨no, ko, hno⟩ := tr_cnt_n o4 x
  obtain ⟨nt, kt, hnt⟩ := tr_cnt_n t4 x
  have hsz : G.o = G.t → tr_size fso x = tr_size fst x := fun q => by
    rw [q] at to
    rw [(tr_inj to tt).1]
  have hrn : G.o = G.t → mt_rn (fun i => tr_line fsb fcb x (nI i)) (fun i => tr_line fso fco x (nI i)) nb no = mt_rn (fun i => tr_line fsb fcb x (nI i)) (fun i => tr_line fst fct x (nI i)) nb nt := fun q => by
    rw [q] at to
    obtain ⟨e1, e2⟩ := tr_inj to tt
    subst e1
    subst e2
    have e3 := hno.symm.trans hnt
    rw [(nI_eq (by omega) (by omega)).mp e3]
  have k30 : wpa Ls xs 47 30 [(0, .ref 143), (1, .int x)] [] M (mg_cq M G) := by
    refine sg_wr 3 rfl ?_
    refine sg_r_getf rfl g143 rfl ?_
    refine sg_wr 1 rfl ?_
    refine sg_p_callV rfl rfl rfl to.1 rfl (Nat.le_of_ble_eq_true rfl) (Nat.le_of_ble_eq_true rfl) (tr_sizeOf to x) ?_
    refine sg_wr 1 rfl ?_
    refine sg_r_getf rfl g143 rfl ?_
    refine sg_wr 1 rfl ?_
    refine sg_p_callV rfl rfl rfl tt.1 rfl (Nat.le_of_ble_eq_true rfl) (Nat.le_of_ble_eq_true rfl) (tr_sizeOf tt x) ?_
    refine sg_wr 1 rfl ?_
    refine sg_r_getf rfl g143 rfl ?_
    refine sg_wr 1 rfl ?_
    refine sg_p_callV rfl rfl rfl tb.1 rfl (Nat.le_of_ble_eq_true rfl) (Nat.le_of_ble_eq_true rfl) (tr_sizeOf tb x) ?_
    refine sg_r_callV rfl rfl rfl g143 rfl (Nat.le_of_ble_eq_true rfl) (Nat.le_of_ble_eq_true rfl) (mg_piece h hp _ _ _ _) ?_
    intro r M1 c s hq
    obtain ⟨rfl, hq2, rfl, rfl⟩ := mg_pq_cq hsz hq
    refine sg_a0 ?_
    exact sg_we rfl rfl ⟨rfl, hq2, rfl, rfl⟩
  have k60 : wpa Ls xs 47 60 [(0, .ref 143), (1, .int x)] [] M (mg_cq M G) := by
    refine sg_wr 1 rfl ?_
    refine sg_r_getf rfl g143 rfl ?_
    refine sg_wr 1 rfl ?_
    refine sg_r_getf rfl g143 rfl ?_
    refine sg_wr 1 rfl ?_
    refine sg_r_getf rfl g143 rfl ?_
    refine sg_wr 1 rfl ?_
    have hr1 := mt_run (Ls := Ls) (xs := xs) (M := M) (fl := G.l1) (fb := G.b1) (fa := G.a1) (p := G.p1) (x := x) mg_d1 (fun _ _ _ _ => mt_tr tb (mg_no b1 (by decide)) (mg_no b2 (by decide)) (mg_no b3 (by decide))) (fun _ _ _ _ => mt_tr to (mg_no o1 (by decide)) (mg_no o2 (by decide)) (mg_no o3 (by decide))) hnb hno kb ko
    rw [mt_self g144 g145 g146 g147] at hr1
    refine sg_r_callV rfl rfl rfl g144 rfl (Nat.le_of_ble_eq_true rfl) (Nat.le_of_ble_eq_true rfl) hr1 ?_
    rintro _ _ _ _ ⟨rfl, ⟨gl, gb, ga, rfl, hc1⟩, rfl, rfl⟩
    refine sg_a0 ?_
    have h1 := h.m1 gl gb ga (mt_rn (fun i => tr_line fsb fcb x (nI i)) (fun i => tr_line fso fco x (nI i)) nb no).2.2
    have ho1 := mg_m1_out (M := M) (gl := gl) (gb := gb) (ga := ga) (p := (mt_rn (fun i => tr_line fsb fcb x (nI i)) (fun i => tr_line fso fco x (nI i)) nb no).2.2)
    have hk1 : mg_kq G (mg_um1 G gl gb ga (mt_rn (fun i => tr_line fsb fcb x (nI i)) (fun i => tr_line fso fco x (nI i)) nb no).2.2) := ⟨rfl, rfl, rfl, rfl, rfl, rfl⟩
    have hm1 : (mg_um1 G gl gb ga (mt_rn (fun i => tr_line fsb fcb x (nI i)) (fun i => tr_line fso fco x (nI i)) nb no).2.2).b1 = gb ∧ (mg_um1 G gl gb ga (mt_rn (fun i => tr_line fsb fcb x (nI i)) (fun i => tr_line fso fco x (nI i)) nb no).2.2).pc = G.pc ∧ (mg_um1 G gl gb ga (mt_rn (fun i => tr_line fsb fcb x (nI i)) (fun i => tr_line fso fco x (nI i)) nb no).2.2).nx = G.nx ∧ (mg_um1 G gl gb ga (mt_rn (fun i => tr_line fsb fcb x (nI i)) (fun i => tr_line fso fco x (nI i)) nb no).2.2).to = G.to ∧ (mg_um1 G gl gb ga (mt_rn (fun i => tr_line fsb fcb x (nI i)) (fun i => tr_line fso fco x (nI i)) nb no).2.2).sz = G.sz := ⟨rfl, rfl, rfl, rfl, rfl⟩
    generalize mg_um1 G gl gb ga (mt_rn (fun i => tr_line fsb fcb x (nI i)) (fun i => tr_line fso fco x (nI i)) nb no).2.2 = G1 at h1 hk1 hm1
    generalize mt_m M 144 145 146 147 gl gb ga (mt_rn (fun i => tr_line fsb fcb x (nI i)) (fun i => tr_line fso fco x (nI i)) nb no).2.2 = M1 at h1 ho1 ⊢
    obtain ⟨i143, i155, i156, i157, i158, i159, i160, iR, i144, i145, i146, i147, i148, i149, i150, i151⟩ := id h1
    have tb1 := tb.out ho1 b1 b2 b3
    have tt1 := tt.out ho1 t1 t2 t3
    refine sg_wr 1 rfl ?_
    refine sg_r_getf rfl i143 rfl ?_
    refine sg_wr 1 rfl ?_
    refine sg_r_getf rfl i143 rfl ?_
    refine sg_wr 1 rfl ?_
    refine sg_r_getf rfl i143 rfl ?_
    refine sg_wr 1 rfl ?_
    rw [hk1.1, hk1.2.2.1]
    have hr2 := mt_run (Ls := Ls) (xs := xs) (M := M1) (fl := G1.l2) (fb := G1.b2) (fa := G1.a2) (p := G1.p2) (x := x) mg_d2 (fun _ _ _ _ => mt_tr tb1 (mg_no b1 (by decide)) (mg_no b2 (by decide)) (mg_no b3 (by decide))) (fun _ _ _ _ => mt_tr tt1 (mg_no t1 (by decide)) (mg_no t2 (by decide)) (mg_no t3 (by decide))) hnb hnt kb kt
    rw [mt_self i148 i149 i150 i151] at hr2
    refine sg_r_callV rfl rfl rfl i148 rfl (Nat.le_of_ble_eq_true rfl) (Nat.le_of_ble_eq_true rfl) hr2 ?_
    rintro _ _ _ _ ⟨rfl, ⟨gl2, gb2, ga2, rfl, hc2⟩, rfl, rfl⟩
    refine sg_a0 ?_
    generalize hpp : (mt_rn (fun i => tr_line fsb fcb x (nI i)) (fun i => tr_line fst fct x (nI i)) nb nt).2.2 = pp
    have h2 := h1.m2 gl2 gb2 ga2 pp
    have ho2 := ho1.tr (mg_m2_out (M := M1) (gl := gl2) (gb := gb2) (ga := ga2) (p := pp)) (fun _ z => z)
    have hk2 : mg_kq G (mg_um2 G1 gl2 gb2 ga2 pp) := hk1.tr ⟨rfl, rfl, rfl, rfl, rfl, rfl⟩
    have hm2 : (mg_um2 G1 gl2 gb2 ga2 pp).b1 = gb ∧ (mg_um2 G1 gl2 gb2 ga2 pp).b2 = gb2 ∧ (mg_um2 G1 gl2 gb2 ga2 pp).pc = G.pc ∧ (mg_um2 G1 gl2 gb2 ga2 pp).nx = G.nx ∧ (mg_um2 G1 gl2 gb2 ga2 pp).to = G.to ∧ (mg_um2 G1 gl2 gb2 ga2 pp).sz = G.sz := ⟨hm1.1, rfl, hm1.2.1, hm1.2.2.1, hm1.2.2.2.1, hm1.2.2.2.2⟩
    generalize mg_um2 G1 gl2 gb2 ga2 pp = G2 at h2 hk2 hm2
    generalize mt_m M1 148 149 150 151 gl2 gb2 ga2 pp = M2 at h2 ho2 ⊢
    have tb2 := tb.out ho2 b1 b2 b3
    have j143 := h2.1
    refine sg_wr 1 rfl ?_
    refine sg_r_getf rfl j143 rfl ?_
    rw [hk2.1]
    refine sg_wr 1 rfl ?_
    refine sg_p_callV rfl rfl rfl tb2.1 rfl (Nat.le_of_ble_eq_true rfl) (Nat.le_of_ble_eq_true rfl) (tr_countOf tb2 x) ?_
    rw [hnb]
    refine sg_wr 3 rfl ?_
    have hb12 : G2.o = G2.t → ∀ j : Nat, j < 40 → G2.b1 j = G2.b2 j := fun q j hj => by
      rw [hk2.2.1, hk2.2.2.1] at q
      rw [hm2.1, hm2.2.1, (hc1 j hj).1, (hc2 j hj).1, hrn q]
    have h9 := mg_cl (Ls := Ls) (xs := xs) (x := x) kb nb 0 M2 G2 [] h2 (hk2.trees ht ho2) (by rw [hm2.2.2.1]; exact hp) hb12 rfl (Nat.zero_le _) (Or.inl rfl)
    exact mg_cq_tr h9 ho2 hk2 (fun z1 z2 z3 => ⟨fun i hi => by rw [hm2.2.2.1] at hi; rw [hm2.2.2.2.2.1, hm2.2.2.2.2.2]; exact z2 i hi, by rw [hm2.2.2.2.1]; exact z3⟩)
  refine sg_wr 1 rfl ?_
  refine sg_r_getf rfl g143 rfl ?_
  refine sg_wr 1 rfl ?_
  refine sg_p_callV rfl rfl rfl to.1 rfl (Nat.le_of_ble_eq_true rfl) (Nat.le_of_ble_eq_true rfl) (tr_has to x) ?_
  refine sg_wb rfl rfl (fun h16 => ?_) (fun h16 => ?_)
  · exact k30
  · refine sg_wr 1 rfl ?_
    refine sg_r_getf rfl g143 rfl ?_
    refine sg_wr 1 rfl ?_
    refine sg_p_callV rfl rfl rfl tt.1 rfl (Nat.le_of_ble_eq_true rfl) (Nat.le_of_ble_eq_true rfl) (tr_has tt x) ?_
    refine sg_wb rfl rfl (fun h27 => ?_) (fun h27 => ?_)
    · exact k60
    · exact k30
theorem mg_cut (h : mg_is M G) (ht : mg_tr M G) (hp : G.pc ≤ 328) (x : Int32) : wpm Ls xs 47 [.ref 143, .int x] M (fun r M1 c s => r = .inl none ∧ (∃ G1 : mg_C, mg_is M1 G1 ∧ sg_out mg_F M M1 ∧ mg_kq G G1 ∧ G1.pc ≤ 328 ∧ (G.o = G.t → mg_sp G → mg_sp G1)) ∧ c = 0 ∧ s = 0) := by
  obtain ⟨g143, g155, g156, g157, g158, g159, g160, gR, g144, g145, g146, g147, g148, g149, g150, g151⟩ := id h
  refine sg_wr 1 rfl ?_
  refine sg_r_getf rfl g143 rfl ?_
  refine sg_wr 1 rfl ?_
  refine sg_p_callS rfl rfl rfl rfl (Nat.le_of_ble_eq_true rfl) (Nat.le_of_ble_eq_true rfl) (jd_fill (by decide) (by decide) g159) ?_
  have h1 := h.unx (sg_fl 3 0 G.nx)
  have ho1 : sg_out mg_F M (sg_up M.1 159 (.inl (0, 3, .inl (sg_fl 3 0 G.nx))), M.2) := sg_out.rf.up (by decide)
  exact (mg_cut8 (x := x) h1 (ht.out ho1 rfl rfl rfl) hp).mono fun r M2 c s ⟨e1, ⟨G2, q1, q2, q3, q4, q5⟩, e2, e3⟩ => ⟨e1, ⟨G2, q1, ho1.tr q2 (fun _ z => z), q3, q4, fun z1 z2 => q5 z1 z2 rfl⟩, e2, e3⟩
def mg_g0 (G : mg_C) (b o t : Nat) : mg_C := (mg_mk (b) (o) (t) (0) (0) G.fi G.to G.sz G.wy G.nx G.cp G.fs G.fc G.l1 G.b1 G.a1 G.l2 G.b2 G.a2 G.p1 G.p2)
abbrev mg_tq (M : sg_M) (b o t : Nat) : Option Value ⊕ Nat → sg_M → Nat → Nat → Prop := fun r M1 c s => r = .inl none ∧ (∃ G1 : mg_C, mg_is M1 G1 ∧ sg_out mg_F M M1 ∧ mg_tr M1 G1 ∧ G1.b = b ∧ G1.o = o ∧ G1.t = t ∧ G1.pc ≤ 328 ∧ G1.cc ≤ 328 ∧ tr_ti G1.fs ∧ (o = t → G1.cc = 0)) ∧ c = 0 ∧ s = 0
theorem mg_tq_tr {M1 : sg_M} {b o t : Nat} {k pc : Nat} {L : sg_L} {st : List Value} (h : wpa Ls xs k pc L st M1 (mg_tq M1 b o t)) (o1 : sg_out mg_F M M1) : wpa Ls xs k pc L st M1 (mg_tq M b o t) :=
  h.mono fun r M2 c s ⟨e1, ⟨G2, q1, q2, q3⟩, e2, e3⟩ => ⟨e1, ⟨G2, q1, o1.tr q2 (fun _ z => z), q3⟩, e2, e3⟩
theorem mg_S01 {i : Nat} (h : mg_sp G) (he : G.o = G.t) (hi : i < G.pc) (hp : G.pc ≤ 328) : mg_S G (nI i) 0 1 := by
  have a0 : ∀ f : Nat → Int32, mg_szf f (nI i) 0 = f i := fun f => by
    unfold mg_szf
    rw [if_neg (nI_pos (by omega)), if_neg (show ¬ 328 ≤ nI i from nI_ge (b := 328) (by omega) (by decide)), if_neg (by decide), if_pos (by decide), show (0 : Int32) * 328 + nI i = nI (0 * 328 + i) from mg_ix (s := 0), nI_clamp (by omega), show 0 * 328 + i = i by omega]
  have a1 : ∀ f : Nat → Int32, mg_szf f (nI i) 1 = f (328 + i) := fun f => by
    unfold mg_szf
    rw [if_neg (nI_pos (by omega)), if_neg (show ¬ 328 ≤ nI i from nI_ge (b := 328) (by omega) (by decide)), if_neg (by decide), if_pos (by decide), show (1 : Int32) * 328 + nI i = nI (1 * 328 + i) from mg_ix (s := 1), nI_clamp (by omega), show 1 * 328 + i = 328 + i by omega]
  refine ⟨?_, ?_, ?_⟩
  · have e0 : mg_tos G 0 = G.o := if_neg (by decide)
    have e1 : mg_tos G 1 = G.t := (if_pos (by decide)).trans (if_neg (by decide))
    rw [e0, e1, he]
  · rw [a0, a1]; exact (h i hi).2
  · rw [a0, a1]; exact (h i hi).1
theorem mg_s_loop2 {b o t : Nat} : ∀ (d i : Nat) (M : sg_M) (G : mg_C), mg_is M G → mg_tr M G → G.b = b → G.o = o → G.t = t → G.pc ≤ 328 → G.cc ≤ 328 → (o = t → mg_sp G ∧ G.cc = 0) → d = G.pc - i → i ≤ G.pc → wpa Ls xs 34 50 [(0, .ref 143), (1, .ref b), (2, .ref o), (3, .ref t), (4, .int (nI i))] [] M (mg_tq M b o t) := by
  intro d
  induction d with
  | zero =>
    intro i M G h ht kb ko kt hp hc hs hd hi
    have g143 := h.1
    have e : i = G.pc := by omega
    subst e
    refine sg_wr 2 rfl ?_
    refine sg_r_getf rfl g143 rfl ?_
    refine sg_wb rfl rfl (fun _ => ?_) (fun h56 => absurd Int32.le_rfl h56)
    refine sg_wr 1 rfl ?_
    refine sg_r_callV rfl rfl rfl g143 rfl (Nat.le_of_ble_eq_true rfl) (Nat.le_of_ble_eq_true rfl) (mg_build h ht hp) ?_
    rintro _ M1 _ _ ⟨rfl, ⟨gs, gc, q1, q2, q3⟩, rfl, rfl⟩
    refine sg_a0 ?_
    exact sg_we rfl rfl ⟨rfl, ⟨_, q1, q3, ht.ur q3, kb, ko, kt, hp, hc, q2, fun z => (hs z).2⟩, rfl, rfl⟩
  | succ d ih =>
    intro i M G h ht kb ko kt hp hc hs hd hi
    have g143 := h.1
    have hlt : i < G.pc := by omega
    refine sg_wr 2 rfl ?_
    refine sg_r_getf rfl g143 rfl ?_
    refine sg_wb rfl rfl (fun h56 => absurd h56 (nI_ge hlt (by omega))) (fun h56 => ?_)
    refine sg_wr 2 rfl ?_
    refine sg_r_callV rfl rfl rfl g143 rfl (Nat.le_of_ble_eq_true rfl) (Nat.le_of_ble_eq_true rfl) (mg_choose h ht hc (by omega)) ?_
    rintro _ M1 _ _ ⟨rfl, ⟨G1, q1, q2, q3, q4, q5⟩, rfl, rfl⟩
    refine sg_a0 ?_
    refine sg_wr 2 rfl ?_
    obtain ⟨a1, a2, a3, a4, a5, a6, a7, a8⟩ := q3
    have h9 := ih (i + 1) M1 G1 q1 (ht.out q2 a1 a2 a3) (a1.trans kb) (a2.trans ko) (a3.trans kt) (by omega) q4 (fun z => ⟨fun j hj => by rw [a7, a8]; exact (hs z).1 j (by omega), (q5 (mg_S01 (hs z).1 (ko.trans (z.trans kt.symm)) hlt hp)).trans (hs z).2⟩) (by omega) (by omega)
    rw [nI_succ] at h9
    exact mg_tq_tr h9 q2
theorem mg_s_loop1 {b o t : Nat} : ∀ (d i : Nat) (M : sg_M) (G : mg_C), mg_is M G → mg_tr M G → G.b = b → G.o = o → G.t = t → G.pc ≤ 328 → G.cc = 0 → (o = t → mg_sp G) → d = 8 - i → i ≤ 8 → wpa Ls xs 34 28 [(0, .ref 143), (1, .ref b), (2, .ref o), (3, .ref t), (4, .int (nI i))] [] M (mg_tq M b o t) := by
  intro d
  induction d with
  | zero =>
    intro i M G h ht kb ko kt hp hc hs hd hi
    have e : i = 8 := by omega
    subst e
    refine sg_wr 3 rfl ?_
    refine sg_wr 2 rfl ?_
    exact mg_s_loop2 G.pc 0 M G h ht kb ko kt hp (by omega) (fun z => ⟨hs z, hc⟩) rfl (Nat.zero_le _)
  | succ d ih =>
    intro i M G h ht kb ko kt hp hc hs hd hi
    have g143 := h.1
    have hlt : i < 8 := by omega
    refine sg_wr 2 rfl ?_
    refine sg_wb rfl rfl (fun h32 => absurd h32 (nI_ge (b := 8) hlt (by decide))) (fun h32 => ?_)
    refine sg_wr 2 rfl ?_
    refine sg_r_callV rfl rfl rfl g143 rfl (Nat.le_of_ble_eq_true rfl) (Nat.le_of_ble_eq_true rfl) (mg_cut h ht hp (nI i)) ?_
    rintro _ M1 _ _ ⟨rfl, ⟨G1, q1, q2, q3, q4, q5⟩, rfl, rfl⟩
    refine sg_a0 ?_
    refine sg_wr 2 rfl ?_
    obtain ⟨a1, a2, a3, a4, a5, a6⟩ := id q3
    have h9 := ih (i + 1) M1 G1 q1 (q3.trees ht q2) (a1.trans kb) (a2.trans ko) (a3.trans kt) q4 (a4.trans hc) (fun z => q5 (ko.trans (z.trans kt.symm)) (hs z)) (by omega) hlt
    rw [nI_succ] at h9
    exact mg_tq_tr h9 q2
theorem mg_start {b o t : Nat} (h : mg_is M G) (hb : mg_t M b) (ho : mg_t M o) (ht : mg_t M t) : wpm Ls xs 34 [.ref 143, .ref b, .ref o, .ref t] M (mg_tq M b o t) := by
  obtain ⟨g143, g155, g156, g157, g158, g159, g160, gR, g144, g145, g146, g147, g148, g149, g150, g151⟩ := id h
  have h0 : mg_is (sg_up M.1 143 (.inr (3, mg_fs (mg_g0 G b o t))), M.2) (mg_g0 G b o t) := ⟨rfl, g155, g156, g157, g158, g159, g160, gR, g144, g145, g146, g147, g148, g149, g150, g151⟩
  have ho0 : sg_out mg_F M (sg_up M.1 143 (.inr (3, mg_fs (mg_g0 G b o t))), M.2) := sg_out.rf.up (by decide)
  refine sg_wr 2 rfl ?_
  refine sg_r_putf rfl g143 (Nat.le_of_ble_eq_true rfl) rfl ?_
  refine sg_wr 2 rfl ?_
  refine sg_r_putf (fs := ((mg_fs G).set 3 (.ref b))) rfl (sg_upself (f := M.1) (a := 143) (e := .inr (3, ((mg_fs G).set 3 (.ref b))))) (Nat.le_of_ble_eq_true rfl) rfl ?_
  rw [sg_upup]
  refine sg_wr 2 rfl ?_
  refine sg_r_putf (fs := (((mg_fs G).set 3 (.ref b)).set 4 (.ref o))) rfl (sg_upself (f := M.1) (a := 143) (e := .inr (3, (((mg_fs G).set 3 (.ref b)).set 4 (.ref o))))) (Nat.le_of_ble_eq_true rfl) rfl ?_
  rw [sg_upup]
  refine sg_wr 2 rfl ?_
  refine sg_r_putf (fs := ((((mg_fs G).set 3 (.ref b)).set 4 (.ref o)).set 5 (.ref t))) rfl (sg_upself (f := M.1) (a := 143) (e := .inr (3, ((((mg_fs G).set 3 (.ref b)).set 4 (.ref o)).set 5 (.ref t))))) (Nat.le_of_ble_eq_true rfl) rfl ?_
  rw [sg_upup]
  refine sg_wr 2 rfl ?_
  refine sg_r_putf (fs := (((((mg_fs G).set 3 (.ref b)).set 4 (.ref o)).set 5 (.ref t)).set 10 (.int 0))) rfl (sg_upself (f := M.1) (a := 143) (e := .inr (3, (((((mg_fs G).set 3 (.ref b)).set 4 (.ref o)).set 5 (.ref t)).set 10 (.int 0))))) (Nat.le_of_ble_eq_true rfl) rfl ?_
  rw [sg_upup]
  refine sg_wr 2 rfl ?_
  exact mg_tq_tr (mg_s_loop1 (b := b) (o := o) (t := t) 8 0 _ _ h0 ⟨hb.out ho0, ho.out ho0, ht.out ho0⟩ rfl rfl rfl (Nat.zero_le _) rfl (fun _ i hi => absurd hi (Nat.not_lt_zero i)) rfl (by decide)) ho0
end
end SGMG
