section SGKE
/-- none, or a commit below i -/
def kp_is (p : Int32) (i : Nat) : Prop := p = -1 ∨ ∃ j : Nat, j < i ∧ p = nI j
/-- what always holds of the commits and of those that are gone -/
def kc_ok (n : Nat) (g : Int64) (K : Nat → hs_K) : Prop :=
  (∀ j : Nat, n ≤ j → j < 64 → bt g (nI j) = false) ∧ (∃ dp : Nat → Nat, ∀ i : Nat, i < n → hs_d (K i) = nI (dp i) ∧ 1 ≤ dp i ∧ dp i ≤ i + 1 ∧ ∀ j : Nat, j < i → (hs_f (K i) = nI j ∨ hs_e (K i) = nI j) → dp j < dp i) ∧
  ∀ i : Nat, i < n → kp_is (hs_f (K i)) i ∧ kp_is (hs_e (K i)) i ∧ tr_ti (hs_fs (K i)) ∧ bt (hs_a (K i)) (nI i) = true ∧ (∀ j : Nat, j < 64 → bt (hs_a (K i)) (nI j) = true → j ≤ i) ∧
    (∀ j : Nat, j < i → (hs_f (K i) = nI j ∨ hs_e (K i) = nI j) → bt (hs_a (K i)) (nI j) = true) ∧
    (∀ j : Nat, j ≤ i → bt (hs_a (K i)) (nI j) = true → ∀ q : Nat, q < 64 → bt (hs_a (K j)) (nI q) = true → bt (hs_a (K i)) (nI q) = true) ∧
    (bt g (nI i) = false → ∀ j : Nat, j ≤ i → bt (hs_a (K i)) (nI j) = true → bt g (nI j) = false)
/-- none, or a commit that is there -/
def kt_is (n : Nat) (g : Int64) (p : Int32) : Prop := p = -1 ∨ ∃ j : Nat, j < n ∧ p = nI j ∧ bt g (nI j) = false
def hs_up (K : Nat → hs_K) (n : Nat) (k : hs_K) : Nat → hs_K := fun i => if i = n then k else K i
theorem hs_up_n {K : Nat → hs_K} {n : Nat} {k : hs_K} : hs_up K n k n = k := if_pos rfl
theorem hs_up_lt {K : Nat → hs_K} {n i : Nat} {k : hs_K} (h : i < n) : hs_up K n k i = K i := if_neg (by omega)
theorem hs_D_up {K : Nat → hs_K} {n : Nat} {k : hs_K} {x : Int32} (hn : n < 60) (h : ¬ x = nI n) : hs_D (n + 1) (hs_up K n k) x = hs_D n K x := by
  unfold hs_D
  by_cases c1 : x < 0
  · rw [if_pos c1, if_pos c1]
  · rw [if_neg c1, if_neg c1]
    obtain ⟨j, hj, rfl⟩ := nI_of c1
    have hjn : j ≠ n := fun z => h (by rw [z])
    rw [nI_clamp hj]
    by_cases c2 : j < n
    · rw [if_neg (nI_ge (by omega) (by omega)), if_neg (nI_ge c2 (by omega)), hs_up_lt c2]
    · rw [if_pos (nI_le (by omega) hj), if_pos (nI_le (by omega) hj)]
section
variable {n : Nat} {g : Int64} {K : Nat → hs_K}
/-- what a new commit is made with -/
def ka_new (n : Nat) (K : Nat → hs_K) (f e : Int32) : Int64 := (((1 : Int64) <<< ((nI n).toInt64 &&& 63)) ||| hs_a (hs_D n K f)) ||| hs_a (hs_D n K e)
def kd_new (n : Nat) (K : Nat → hs_K) (f e : Int32) : Int32 := 1 + (if hs_d (hs_D n K f) < hs_d (hs_D n K e) then hs_d (hs_D n K e) else hs_d (hs_D n K f))
theorem ka_at {p : Int32} (h : kc_ok n g K) (hn : n ≤ 60) (hp : kt_is n g p) {q : Nat} (hq : q < 64) : bt (hs_a (hs_D n K p)) (nI q) = true ↔ ∃ j : Nat, j < n ∧ p = nI j ∧ bt (hs_a (K j)) (nI q) = true := by
  rcases hp with rfl | ⟨j, hj, rfl, -⟩
  · rw [hs_D_m1]
    constructor
    · intro z
      exact absurd z (by rw [show hs_a hs_N = 0 from rfl, bt_0 hq]; decide)
    · rintro ⟨j, hj, z, -⟩
      exact absurd (z ▸ (by decide : (-1 : Int32) < 0)) (nI_pos (by omega))
  · rw [hs_D_K hj hn]
    constructor
    · intro z; exact ⟨j, hj, rfl, z⟩
    · rintro ⟨i, hi, z, z2⟩
      rw [(nI_eq (by omega) (by omega)).mp z]
      exact z2
theorem ka_bit {f e : Int32} (h : kc_ok n g K) (hn : n < 60) (hf : kt_is n g f) (he : kt_is n g e) {q : Nat} (hq : q < 64) : bt (ka_new n K f e) (nI q) = true ↔ q = n ∨ ∃ j : Nat, j < n ∧ (f = nI j ∨ e = nI j) ∧ bt (hs_a (K j)) (nI q) = true := by
  unfold ka_new
  rw [bt_or hq, bt_or hq, bt_1 (by omega) hq]
  simp only [Bool.or_eq_true, decide_eq_true_eq]
  rw [ka_at h (by omega) hf hq, ka_at h (by omega) he hq]
  constructor
  · rintro ((z | ⟨j, a, b, c⟩) | ⟨j, a, b, c⟩)
    · exact Or.inl z
    · exact Or.inr ⟨j, a, Or.inl b, c⟩
    · exact Or.inr ⟨j, a, Or.inr b, c⟩
  · rintro (z | ⟨j, a, b | b, c⟩)
    · exact Or.inl (Or.inl z)
    · exact Or.inl (Or.inr ⟨j, a, b, c⟩)
    · exact Or.inr ⟨j, a, b, c⟩
theorem kt_kp {p : Int32} (h : kt_is n g p) : kp_is p n := by
  rcases h with h | ⟨j, a, b, -⟩
  · exact Or.inl h
  · exact Or.inr ⟨j, a, b⟩
theorem kd_at {p : Int32} {dp : Nat → Nat} (hd : ∀ i, i < n → hs_d (K i) = nI (dp i)) (hn : n ≤ 60) (hp : kt_is n g p) : (p = -1 ∧ hs_d (hs_D n K p) = nI 0) ∨ ∃ j, j < n ∧ p = nI j ∧ hs_d (hs_D n K p) = nI (dp j) := by
  rcases hp with rfl | ⟨j, hj, rfl, -⟩
  · exact Or.inl ⟨rfl, by rw [hs_D_m1]; rfl⟩
  · exact Or.inr ⟨j, hj, rfl, by rw [hs_D_K hj hn]; exact hd j hj⟩
/-- one commit more -/
theorem kc_add {k : hs_K} {f e : Int32} (h : kc_ok n g K) (hn : n < 60) (hf : kt_is n g f) (he : kt_is n g e) (kf : hs_f k = f) (ke : hs_e k = e) (ka : hs_a k = ka_new n K f e) (kd : hs_d k = kd_new n K f e) (kt : tr_ti (hs_fs k)) : kc_ok (n + 1) g (hs_up K n k) := by
  have hbit := fun {q : Nat} (hq : q < 64) => ka_bit h hn hf he hq
  have hpar : ∀ j, (f = nI j ∨ e = nI j) → j < 2 ^ 31 → j < n := by
    intro j hj h31
    rcases hj with z | z
    · rcases hf with y | ⟨i, a, b, -⟩
      · rw [y] at z; exact absurd (z ▸ (by decide : (-1 : Int32) < 0)) (nI_pos h31)
      · have := (nI_eq h31 (by omega)).mp (z.symm.trans b); omega
    · rcases he with y | ⟨i, a, b, -⟩
      · rw [y] at z; exact absurd (z ▸ (by decide : (-1 : Int32) < 0)) (nI_pos h31)
      · have := (nI_eq h31 (by omega)).mp (z.symm.trans b); omega
  have hth : ∀ j, j < n → (f = nI j ∨ e = nI j) → bt g (nI j) = false := by
    intro j hj hz
    rcases hz with z | z
    · rcases hf with y | ⟨i, a, b, c⟩
      · rw [y] at z; exact absurd (z ▸ (by decide : (-1 : Int32) < 0)) (nI_pos (by omega))
      · have := (nI_eq (by omega) (by omega)).mp (z.symm.trans b); rw [this]; exact c
    · rcases he with y | ⟨i, a, b, c⟩
      · rw [y] at z; exact absurd (z ▸ (by decide : (-1 : Int32) < 0)) (nI_pos (by omega))
      · have := (nI_eq (by omega) (by omega)).mp (z.symm.trans b); rw [this]; exact c
  obtain ⟨h1, ⟨dp, h2⟩, h3⟩ := id h
  refine ⟨fun j a b => h1 j (by omega) b, ?_, fun i hi => ?_⟩
  · -- depths
    have hdd : ∀ i, i < n → hs_d (K i) = nI (dp i) := fun i hi => (h2 i hi).1
    have hdl : ∀ i, i < n → dp i ≤ n := fun i hi => by have := (h2 i hi).2.2.1; omega
    obtain ⟨df, a1, a2, a3⟩ : ∃ df : Nat, hs_d (hs_D n K f) = nI df ∧ df ≤ n ∧ ∀ j, j < n → f = nI j → dp j ≤ df := by
      rcases kd_at hdd (by omega) hf with ⟨z, y⟩ | ⟨j, hj, z, y⟩
      · exact ⟨0, y, Nat.zero_le _, fun j hj q => absurd (q ▸ z ▸ (by decide : (-1 : Int32) < 0)) (nI_pos (by omega))⟩
      · exact ⟨dp j, y, hdl j hj, fun i hi q => by rw [(nI_eq (by omega) (by omega)).mp (z.symm.trans q)]; exact Nat.le_refl _⟩
    obtain ⟨de, b1, b2, b3⟩ : ∃ de : Nat, hs_d (hs_D n K e) = nI de ∧ de ≤ n ∧ ∀ j, j < n → e = nI j → dp j ≤ de := by
      rcases kd_at hdd (by omega) he with ⟨z, y⟩ | ⟨j, hj, z, y⟩
      · exact ⟨0, y, Nat.zero_le _, fun j hj q => absurd (q ▸ z ▸ (by decide : (-1 : Int32) < 0)) (nI_pos (by omega))⟩
      · exact ⟨dp j, y, hdl j hj, fun i hi q => by rw [(nI_eq (by omega) (by omega)).mp (z.symm.trans q)]; exact Nat.le_refl _⟩
    have hnew : kd_new n K f e = nI (1 + max df de) := by
      unfold kd_new
      rw [a1, b1]
      by_cases hc : df < de
      · rw [if_pos (nI_lt hc (by omega)), Nat.max_eq_right (by omega)]
        exact nI_add 1 de
      · rw [if_neg (nI_nlt (by omega) (by omega)), Nat.max_eq_left (by omega)]
        exact nI_add 1 df
    refine ⟨fun i => if i = n then 1 + max df de else dp i, fun i hi => ?_⟩
    by_cases hz : i = n
    · subst hz
      rw [hs_up_n]
      simp only [if_true]
      refine ⟨kd.trans hnew, by omega, by omega, fun j hj hz => ?_⟩
      rw [if_neg (by omega)]
      rw [kf, ke] at hz
      rcases hz with z | z
      · have := a3 j hj z; omega
      · have := b3 j hj z; omega
    · have hi' : i < n := by omega
      rw [hs_up_lt hi']
      simp only [if_neg hz]
      obtain ⟨c1, c2, c3, c4⟩ := h2 i hi'
      exact ⟨c1, c2, c3, fun j hj hp => by rw [if_neg (by omega)]; exact c4 j hj hp⟩
  · by_cases hz : i = n
    · subst hz
      rw [hs_up_n]
      refine ⟨by rw [kf]; exact kt_kp hf, by rw [ke]; exact kt_kp he, kt, ?_, ?_, ?_, ?_, ?_⟩
      · rw [ka]; exact (hbit (by omega)).mpr (Or.inl rfl)
      · intro j hj hb
        rw [ka] at hb
        rcases (hbit hj).mp hb with z | ⟨q, a, b, c⟩
        · omega
        · have := (h3 q a).2.2.2.2.1 j hj c; omega
      · intro j hj hp
        rw [kf, ke] at hp
        rw [ka]
        exact (hbit (by omega)).mpr (Or.inr ⟨j, hj, hp, (h3 j hj).2.2.2.1⟩)
      · intro j hj hb q hq hb2
        rw [ka] at hb ⊢
        rcases (hbit (by omega)).mp hb with z | ⟨p, a, b, c⟩
        · subst z
          rw [hs_up_n, ka] at hb2
          exact hb2
        · have hjp := (h3 p a).2.2.2.2.1 j (by omega) c
          rw [hs_up_lt (by omega)] at hb2
          exact (hbit hq).mpr (Or.inr ⟨p, a, b, (h3 p a).2.2.2.2.2.2.1 j hjp c q hq hb2⟩)
      · intro hg j hj hb
        rw [ka] at hb
        rcases (hbit (by omega)).mp hb with z | ⟨p, a, b, c⟩
        · rw [z]; exact hg
        · have hjp := (h3 p a).2.2.2.2.1 j (by omega) c
          exact (h3 p a).2.2.2.2.2.2.2 (hth p a b) j hjp c
    · have hi' : i < n := by omega
      rw [hs_up_lt hi']
      obtain ⟨c1, c2, c3, c4, c5, c6, c7, c8⟩ := h3 i hi'
      refine ⟨c1, c2, c3, c4, c5, c6, fun j hj hb q hq hb2 => ?_, c8⟩
      rw [hs_up_lt (by omega)] at hb2
      exact c7 j hj hb q hq hb2
theorem kt_add {p : Int32} (h : kt_is n g p) : kt_is (n + 1) g p := by
  rcases h with h | ⟨j, a, b, c⟩
  · exact Or.inl h
  · exact Or.inr ⟨j, by omega, b, c⟩
theorem kt_new (h : kc_ok n g K) (hn : n < 60) : kt_is (n + 1) g (nI n) := Or.inr ⟨n, Nat.lt_succ_self n, rfl, h.1 n (Nat.le_refl _) (by omega)⟩
/-- what the tips reach: all bits of theirs -/
def kr_is (n : Nat) (K : Nat → hs_K) (tp : Nat → Int32) (r : Int64) : Prop := ∀ q : Nat, q < 64 → (bt r (nI q) = true ↔ ∃ b : Nat, b < 8 ∧ ∃ j : Nat, j < n ∧ tp b = nI j ∧ bt (hs_a (K j)) (nI q) = true)
/-- the tips: no branch, at none, or at a commit that is there -/
def kb_ok (n : Nat) (g : Int64) (tp : Nat → Int32) : Prop := ∀ b : Nat, b < 8 → tp b = -2 ∨ kt_is n g (tp b)
theorem kl_bit {x : Int64} (hn : n ≤ 60) {q : Nat} (hq : q < 64) : bt (hs_lost n g x) (nI q) = true ↔ q < n ∧ bt g (nI q) = false ∧ bt x (nI q) = false := by
  unfold hs_lost
  rw [bt_and hq, bt_and hq, bt_notx hq, bt_notx hq, bt_low hn hq]
  simp only [Bool.and_eq_true, decide_eq_true_eq, Bool.not_eq_true']
  constructor
  · rintro ⟨⟨a, b⟩, c⟩; exact ⟨a, b, c⟩
  · rintro ⟨a, b, c⟩; exact ⟨⟨a, b⟩, c⟩
theorem kl_not {x : Int64} (hn : n ≤ 60) {q : Nat} (hq : q < 64) : bt (g ||| hs_lost n g x) (nI q) = false ↔ bt g (nI q) = false ∧ (q < n → bt x (nI q) = true) := by
  rw [bt_or hq]
  have h := kl_bit (g := g) (x := x) hn hq
  cases hg : bt g (nI q) with
  | true => simp
  | false =>
    rw [hg] at h
    cases hl : bt (hs_lost n g x) (nI q) with
    | true =>
      have := h.mp hl
      simp [this.1, this.2.2]
    | false =>
      have h2 : ¬ (q < n ∧ false = false ∧ bt x (nI q) = false) := fun z => by rw [h.mpr z] at hl; cases hl
      simp only [Bool.or_false, true_and, eq_self_iff_true]
      refine ⟨fun _ hqn => ?_, fun _ => trivial⟩
      cases hx : bt x (nI q) with
      | true => rfl
      | false => exact absurd ⟨hqn, rfl, hx⟩ h2
/-- sweeping keeps it -/
theorem kc_sweep {tp : Nat → Int32} {r : Int64} (h : kc_ok n g K) (hn : n ≤ 60) (hb : kb_ok n g tp) (hr : kr_is n K tp r) : kc_ok n (g ||| hs_lost n g r) K ∧ kb_ok n (g ||| hs_lost n g r) tp := by
  obtain ⟨h1, h2, h3⟩ := h
  refine ⟨⟨fun j a b => (kl_not hn b).mpr ⟨h1 j a b, fun z => by omega⟩, h2, fun i hi => ?_⟩, fun b hb8 => ?_⟩
  · obtain ⟨c1, c2, c3, c4, c5, c6, c7, c8⟩ := h3 i hi
    refine ⟨c1, c2, c3, c4, c5, c6, c7, fun hg j hj hbj => ?_⟩
    obtain ⟨g1, g2⟩ := (kl_not hn (by omega)).mp hg
    refine (kl_not hn (by omega)).mpr ⟨c8 g1 j hj hbj, fun _ => ?_⟩
    obtain ⟨b, hb8, t, ht, htp, hbt⟩ := (hr i (by omega)).mp (g2 hi)
    have hit := (h3 t ht).2.2.2.2.1 i (by omega) hbt
    exact (hr j (by omega)).mpr ⟨b, hb8, t, ht, htp, (h3 t ht).2.2.2.2.2.2.1 i hit hbt j (by omega) hbj⟩
  · rcases hb b hb8 with z | z | ⟨t, ht, htp, hg⟩
    · exact Or.inl z
    · exact Or.inr (Or.inl z)
    · exact Or.inr (Or.inr ⟨t, ht, htp, (kl_not hn (by omega)).mpr ⟨hg, fun _ => (hr t (by omega)).mpr ⟨b, hb8, t, ht, htp, (h3 t ht).2.2.2.1⟩⟩⟩)
/-- the greatest common one of a commit and one that has it behind it -/
theorem kg_base {c h : Nat} (hk : kc_ok n g K) (hn : n ≤ 60) (hc : c < n) (hh : h < n) (hb : bt (hs_a (K h)) (nI c) = true) : gr (hs_a (K c) &&& hs_a (K h)) 60 = nI c := by
  obtain ⟨-, -, h3⟩ := hk
  refine gr_max (by rw [bt_and (by omega), (h3 c hc).2.2.2.1, hb]; rfl) 60 (by omega) (fun j a b => ?_)
  rw [bt_and (by omega)]
  cases hj : bt (hs_a (K c)) (nI j) with
  | false => rfl
  | true => exact absurd ((h3 c hc).2.2.2.2.1 j (by omega) hj) (by omega)
end
end SGKE
