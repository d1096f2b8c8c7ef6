theorem pk_sub {a b : Nat} (h : b ≤ a) : nI a - nI b = nI (a - b) := by
  obtain ⟨c, rfl⟩ : ∃ c, a = c + b := ⟨a - b, by omega⟩
  rw [← nI_add, Int32.add_sub_cancel, Nat.add_sub_cancel]
theorem pk_m1 (n : Nat) : nI (n + 1) + (-1) = nI n := by
  rw [← nI_1, Int32.add_assoc, show (1 : Int32) + (-1) = 0 from rfl, Int32.add_zero]
theorem pk_div {a d : Nat} (ha : a < 2 ^ 31) (h0 : 0 < d) (hd : d < 2 ^ 31) : nI a / nI d = nI (a / d) := by
  apply Int32.toInt_inj.mp
  rw [lg_idiv_nonneg (by rw [nI_toInt ha]; omega) (by rw [nI_toInt hd]; omega), nI_toInt ha, nI_toInt hd, nI_toInt (Nat.lt_of_le_of_lt (Nat.div_le_self a d) ha)]
  first | rfl | exact (Int.natCast_ediv _ _).symm
theorem pk_ix (x : Int32) {n : Nat} (hn : n < 2 ^ 31) : x < 0 ∨ nI n ≤ x ∨ ∃ j : Nat, j < n ∧ x = nI j := by
  by_cases h : x < 0
  · exact Or.inl h
  · obtain ⟨j, hj, rfl⟩ := nI_of h
    by_cases h2 : j < n
    · exact Or.inr (Or.inr ⟨j, h2, rfl⟩)
    · exact Or.inr (Or.inl (nI_le (by omega) hj))
theorem oe_c40 : (40 : Int32) = nI 40 := by decide +kernel
theorem oe_c2 : (2 : Int32) = nI 2 := by decide +kernel
theorem oe_c1 : (1 : Int32) = nI 1 := by decide +kernel
theorem oe_cl {n : Nat} (h : n < 100) : (nI n).toNatClampNeg = n := nI_clamp (by omega)
theorem oe_in {n : Nat} (h : n < 40) : vp_in (nI n) 40 := vp_in_nI h (by omega)
theorem oe_mm (x : Int32) : x + (-1) = x - 1 := (Int32.sub_eq_add_neg x 1).symm
theorem oe_pm (x : Int32) : x + 1 - 1 = x := Int32.add_sub_cancel x 1
theorem oe_n0 : vp_nar .boolean 0 = 0 := by rfl
theorem oe_n1 : vp_nar .boolean 1 = 1 := by rfl
theorem oe_dlt : ∀ a, a < 50 → nI a - 1 < nI a := by decide +kernel
theorem oe_neg : nI 0 - 1 < 0 := by decide +kernel
theorem oe_ne4 : ∀ a, a < 50 → ¬ nI a = -4 := by decide +kernel
/-- every fold is one that a boolean's store leaves as it is -/
def oe_B (F : Nat → Int32) : Prop := ∀ i, vp_nar .boolean (F i) = F i
theorem oe_Bu {F : Nat → Int32} (h : oe_B F) (k : Nat) {x : Int32} (hx : vp_nar .boolean x = x) : oe_B (upd F k x) := by
  intro i
  unfold upd
  split
  · exact hx
  · exact h i
/-- the two states hold the same headings -/
def i_Rel (_ : Nat) (u : SX) (v : SY) : Prop :=
  ∃ (c : Nat) (m : Int32) (N L F kN kL kF : Nat → Int32), c ≤ 40 ∧ oe_B F ∧ u = (nI c, m, N, L, F) ∧ v = (nI c, m, N, L, F, kN, kL, kF)
theorem oe_R (k : Nat) {c : Nat} (m : Int32) (N L : Nat → Int32) {F : Nat → Int32} (kN kL kF : Nat → Int32) (hc : c ≤ 40) (hF : oe_B F) : i_Rel k (nI c, m, N, L, F) (nI c, m, N, L, F, kN, kL, kF) :=
  ⟨c, m, N, L, F, kN, kL, kF, hc, hF, rfl, rfl⟩
theorem i_up {k : Nat} {u : SX} {v : SY} (h : i_Rel k u v) : i_Rel (k + 3) u v := h
theorem i_vc0 : wpX_init (fun u => wpY_init (fun v => i_Rel 0 u v)) :=
  oe_R (c := 0) 0 0 (fun _ => 0) (fun _ => 0) (fun _ => 0) (fun _ => 0) (fun _ => 0) (by omega) (fun _ => oe_n0)
/-- an argument is a place, or both sides say that it is none -/
theorem oe_ix (x : Int32) {c : Nat} (hc : c ≤ 40) (m : Int32) (N L F kN kL kF : Nat → Int32) : (∃ i, i < c ∧ x = nI i) ∨ ((∀ post : Int32 → Prop, post 0 → wpX_isPlace post (nI c, m, N, L, F) x) ∧ (∀ post : Int32 → Prop, post 0 → wpY_isPlace post (nI c, m, N, L, F, kN, kL, kF) x)) := by
  rcases pk_ix x (n := c) (by omega) with h | h | h
  · exact Or.inr ⟨fun _ hp => br_t h hp, fun _ hp => br_t h hp⟩
  · have h0 : ¬ x < 0 := Int32.not_lt.mpr (Int32.le_trans (nI_pos' (n := c) (by omega)) h)
    exact Or.inr ⟨fun _ hp => br_f h0 (br_t h hp), fun _ hp => br_f h0 (br_t h hp)⟩
  · exact Or.inl h
theorem oe_plX {i c : Nat} (hi : i < c) (hc : c ≤ 40) {m : Int32} {N L F : Nat → Int32} {post : Int32 → Prop} (h : post 1) : wpX_isPlace post (nI c, m, N, L, F) (nI i) :=
  br_f (nI_pos (by omega)) (br_f (nI_ge hi (by omega)) h)
theorem oe_plY {i c : Nat} (hi : i < c) (hc : c ≤ 40) {m : Int32} {N L F kN kL kF : Nat → Int32} {post : Int32 → Prop} (h : post 1) : wpY_isPlace post (nI c, m, N, L, F, kN, kL, kF) (nI i) :=
  br_f (nI_pos (by omega)) (br_f (nI_ge hi (by omega)) h)
theorem oe_10 : ¬ (1 : Int32) = 0 := by decide
theorem oe_cpX {x y : Int32} (p q : Nat) (hx : x = nI p) (hy : y = nI q) (hp : p < 40) (hq : q < 40) {c m : Int32} {N L F : Nat → Int32} (hF : oe_B F) {post : SX → Prop} (h : post (c, m, upd N q (N p), upd L q (L p), upd F q (F p))) : wpX_copyHeading post (c, m, N, L, F) x y := by
  subst hx hy
  have cp := oe_cl (n := p) (by omega)
  have cq := oe_cl (n := q) (by omega)
  have vp := oe_in hp
  have vq := oe_in hq
  exact ⟨vp, vq, nm_r (by rw [cp, cq]) ⟨vp, vq, nm_r (by rw [cp, cq]) ⟨vp, vq, nm_r (by rw [cp, cq, hF p]) h⟩⟩⟩
theorem oe_cpY {x y : Int32} (p q : Nat) (hx : x = nI p) (hy : y = nI q) (hp : p < 40) (hq : q < 40) {c m : Int32} {N L F kN kL kF : Nat → Int32} (hF : oe_B F) {post : SY → Prop} (h : post (c, m, upd N q (N p), upd L q (L p), upd F q (F p), kN, kL, kF)) : wpY_copyTo post (c, m, N, L, F, kN, kL, kF) x y := by
  subst hx hy
  have cp := oe_cl (n := p) (by omega)
  have cq := oe_cl (n := q) (by omega)
  have vp := oe_in hp
  have vq := oe_in hq
  exact ⟨vp, vq, nm_r (by rw [cp, cq]) ⟨vp, vq, nm_r (by rw [cp, cq]) ⟨vp, vq, nm_r (by rw [cp, cq, hF p]) h⟩⟩⟩
