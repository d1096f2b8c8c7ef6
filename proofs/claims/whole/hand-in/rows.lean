section
theorem pk_sub {a b : Nat} (h : b ≤ a) : nI a - nI b = nI (a - b) := by
  obtain ⟨c, rfl⟩ : ∃ c, a = c + b := ⟨a - b, by omega⟩
  rw [← nI_add, Int32.add_sub_cancel, Nat.add_sub_cancel]
theorem pk_m1 (n : Nat) : nI (n + 1) + (-1) = nI n := by
  rw [← nI_1, Int32.add_assoc, show (1 : Int32) + (-1) = 0 from rfl, Int32.add_zero]
theorem pk_div {a d : Nat} (ha : a < 2 ^ 31) (h0 : 0 < d) (hd : d < 2 ^ 31) : nI a / nI d = nI (a / d) := by
  apply Int32.toInt_inj.mp
  rw [lg_idiv_nonneg (by rw [nI_toInt ha]; omega) (by rw [nI_toInt hd]; omega), nI_toInt ha, nI_toInt hd, nI_toInt (Nat.lt_of_le_of_lt (Nat.div_le_self a d) ha)]
  first | rfl | exact (Int.natCast_ediv _ _).symm
theorem pk_ix (x : Int32) {n : Nat} (hn : n < 2 ^ 31) : x < 0 ∨ nI n ≤ x ∨ ∃ j : Nat, j < n ∧ x = nI j := by
  by_cases h : x < 0
  · exact Or.inl h
  · obtain ⟨j, hj, rfl⟩ := nI_of h
    by_cases h2 : j < n
    · exact Or.inr (Or.inr ⟨j, h2, rfl⟩)
    · exact Or.inr (Or.inl (nI_le (by omega) hj))
theorem oe_c40 : (40 : Int32) = nI 40 := by decide +kernel
theorem oe_c2 : (2 : Int32) = nI 2 := by decide +kernel
theorem oe_c1 : (1 : Int32) = nI 1 := by decide +kernel
theorem oe_cl {n : Nat} (h : n < 100) : (nI n).toNatClampNeg = n := nI_clamp (by omega)
theorem oe_in {n : Nat} (h : n < 40) : vp_in (nI n) 40 := vp_in_nI h (by omega)
theorem oe_mm (x : Int32) : x + (-1) = x - 1 := (Int32.sub_eq_add_neg x 1).symm
theorem oe_pm (x : Int32) : x + 1 - 1 = x := Int32.add_sub_cancel x 1
theorem oe_n0 : vp_nar .boolean 0 = 0 := by rfl
theorem oe_n1 : vp_nar .boolean 1 = 1 := by rfl
theorem oe_dlt : ∀ a, a < 50 → nI a - 1 < nI a := by decide +kernel
theorem oe_neg : nI 0 - 1 < 0 := by decide +kernel
theorem oe_ne4 : ∀ a, a < 50 → ¬ nI a = -4 := by decide +kernel
/-- every fold is one that a boolean's store leaves as it is -/
def oe_B (F : Nat → Int32) : Prop := ∀ i, vp_nar .boolean (F i) = F i
theorem oe_Bu {F : Nat → Int32} (h : oe_B F) (k : Nat) {x : Int32} (hx : vp_nar .boolean x = x) : oe_B (upd F k x) := by
  intro i
  unfold upd
  split
  · exact hx
  · exact h i
/-- the two states hold the same headings -/
def i_Rel (_ : Nat) (u : SX) (v : SY) : Prop :=
  ∃ (c : Nat) (m : Int32) (N L F kN kL kF : Nat → Int32), c ≤ 40 ∧ oe_B F ∧ u = (nI c, m, N, L, F) ∧ v = (nI c, m, N, L, F, kN, kL, kF)
theorem oe_R (k : Nat) {c : Nat} (m : Int32) (N L : Nat → Int32) {F : Nat → Int32} (kN kL kF : Nat → Int32) (hc : c ≤ 40) (hF : oe_B F) : i_Rel k (nI c, m, N, L, F) (nI c, m, N, L, F, kN, kL, kF) :=
  ⟨c, m, N, L, F, kN, kL, kF, hc, hF, rfl, rfl⟩
theorem i_up {k : Nat} {u : SX} {v : SY} (h : i_Rel k u v) : i_Rel (k + 3) u v := h
theorem i_vc0 : wpX_init (fun u => wpY_init (fun v => i_Rel 0 u v)) :=
  oe_R (c := 0) 0 0 (fun _ => 0) (fun _ => 0) (fun _ => 0) (fun _ => 0) (fun _ => 0) (by omega) (fun _ => oe_n0)
/-- an argument is a place, or both sides say that it is none -/
theorem oe_ix (x : Int32) {c : Nat} (hc : c ≤ 40) (m : Int32) (N L F kN kL kF : Nat → Int32) : (∃ i, i < c ∧ x = nI i) ∨ ((∀ post : Int32 → Prop, post 0 → wpX_isPlace post (nI c, m, N, L, F) x) ∧ (∀ post : Int32 → Prop, post 0 → wpY_isPlace post (nI c, m, N, L, F, kN, kL, kF) x)) := by
  rcases pk_ix x (n := c) (by omega) with h | h | h
  · exact Or.inr ⟨fun _ hp => br_t h hp, fun _ hp => br_t h hp⟩
  · have h0 : ¬ x < 0 := Int32.not_lt.mpr (Int32.le_trans (nI_pos' (n := c) (by omega)) h)
    exact Or.inr ⟨fun _ hp => br_f h0 (br_t h hp), fun _ hp => br_f h0 (br_t h hp)⟩
  · exact Or.inl h
theorem oe_plX {i c : Nat} (hi : i < c) (hc : c ≤ 40) {m : Int32} {N L F : Nat → Int32} {post : Int32 → Prop} (h : post 1) : wpX_isPlace post (nI c, m, N, L, F) (nI i) :=
  br_f (nI_pos (by omega)) (br_f (nI_ge hi (by omega)) h)
theorem oe_plY {i c : Nat} (hi : i < c) (hc : c ≤ 40) {m : Int32} {N L F kN kL kF : Nat → Int32} {post : Int32 → Prop} (h : post 1) : wpY_isPlace post (nI c, m, N, L, F, kN, kL, kF) (nI i) :=
  br_f (nI_pos (by omega)) (br_f (nI_ge hi (by omega)) h)
theorem oe_10 : ¬ (1 : Int32) = 0 := by decide
theorem oe_cpX {x y : Int32} (p q : Nat) (hx : x = nI p) (hy : y = nI q) (hp : p < 40) (hq : q < 40) {c m : Int32} {N L F : Nat → Int32} (hF : oe_B F) {post : SX → Prop} (h : post (c, m, upd N q (N p), upd L q (L p), upd F q (F p))) : wpX_copyHeading post (c, m, N, L, F) x y := by
  subst hx hy
  have cp := oe_cl (n := p) (by omega)
  have cq := oe_cl (n := q) (by omega)
  have vp := oe_in hp
  have vq := oe_in hq
  exact ⟨vp, vq, nm_r (by rw [cp, cq]) ⟨vp, vq, nm_r (by rw [cp, cq]) ⟨vp, vq, nm_r (by rw [cp, cq, hF p]) h⟩⟩⟩
theorem oe_cpY {x y : Int32} (p q : Nat) (hx : x = nI p) (hy : y = nI q) (hp : p < 40) (hq : q < 40) {c m : Int32} {N L F kN kL kF : Nat → Int32} (hF : oe_B F) {post : SY → Prop} (h : post (c, m, upd N q (N p), upd L q (L p), upd F q (F p), kN, kL, kF)) : wpY_copyTo post (c, m, N, L, F, kN, kL, kF) x y := by
  subst hx hy
  have cp := oe_cl (n := p) (by omega)
  have cq := oe_cl (n := q) (by omega)
  have vp := oe_in hp
  have vq := oe_in hq
  exact ⟨vp, vq, nm_r (by rw [cp, cq]) ⟨vp, vq, nm_r (by rw [cp, cq]) ⟨vp, vq, nm_r (by rw [cp, cq, hF p]) h⟩⟩⟩
end
section
/-- r is where i's branch ends -/
def oe_E (L : Nat → Int32) (c i r : Nat) : Prop := i < r ∧ r ≤ c ∧ (∀ j, i < j → j < r → L i < L j) ∧ (r < c → ¬ L i < L r)
theorem oe_end4 {c : Nat} (hc : c ≤ 40) (m : Int32) (N L F kN kL kF : Nat → Int32) (i : Nat) (hi : i < c) : ∀ d j : Nat, j + d = c → i < j → (∀ t, i < t → t < j → L i < L t) → ∃ r, oe_E L c i r ∧ (∀ post : Int32 → Prop, post (nI r) → wX_branchEnd_4 post (nI i) (nI c) m N L F (d + 1) (nI j)) ∧ (∀ post : Int32 → Prop, post (nI r) → wY_endOf_4 post (nI i) (nI c) m N L F kN kL kF (d + 1) (nI j)) := by
  intro d
  induction d with
  | zero =>
    intro j hj hij hall
    obtain rfl : j = c := by omega
    have h : nI j ≤ nI j := Int32.le_refl _
    exact ⟨j, ⟨hij, Nat.le_refl _, hall, fun z => absurd z (by omega)⟩, fun _ hp => br_t h hp, fun _ hp => br_t h hp⟩
  | succ d ih =>
    intro j hj hij hall
    have h : ¬ nI c ≤ nI j := nI_ge (by omega) (by omega)
    have vi := oe_in (n := i) (by omega)
    have vj := oe_in (n := j) (by omega)
    have ci := oe_cl (n := i) (by omega)
    have cj := oe_cl (n := j) (by omega)
    by_cases z : L i < L j
    · obtain ⟨r, hE, hX, hY⟩ := ih (j + 1) (by omega) (by omega) (fun t h1 h2 => by
        by_cases e : t = j
        · rw [e]; exact z
        · exact hall t h1 (by omega))
      refine ⟨r, hE, fun post hp => br_f h ⟨vj, vi, br_t (by rw [ci, cj]; exact z) fun y ey => ?_⟩, fun post hp => br_f h ⟨vj, vi, br_f (by rw [ci, cj]; exact Int32.not_le.mpr z) fun y ey => ?_⟩⟩
      · rw [ey, nI_1]; exact hX post hp
      · rw [ey, nI_1]; exact hY post hp
    · exact ⟨j, ⟨hij, by omega, hall, fun _ => z⟩, fun post hp => br_f h ⟨vj, vi, br_f (by rw [ci, cj]; exact z) hp⟩, fun post hp => br_f h ⟨vj, vi, br_t (by rw [ci, cj]; exact Int32.not_lt.mp z) hp⟩⟩
theorem oe_end {c : Nat} (hc : c ≤ 40) (m : Int32) (N L F kN kL kF : Nat → Int32) (i : Nat) (hi : i < c) : ∃ r, oe_E L c i r ∧ (∀ post : Int32 → Prop, post (nI r) → wpX_branchEnd post (nI c, m, N, L, F) (nI i)) ∧ (∀ post : Int32 → Prop, post (nI r) → wpY_endOf post (nI c, m, N, L, F, kN, kL, kF) (nI i)) := by
  obtain ⟨r, hE, hX, hY⟩ := oe_end4 hc m N L F kN kL kF i hi (c - (i + 1)) (i + 1) (by omega) (by omega) (fun t h1 h2 => absurd h1 (by omega))
  exact ⟨r, hE, fun post hp => nm_r (nI_1 i) ⟨_, hX post hp⟩, fun post hp => nm_r (nI_1 i) ⟨_, hY post hp⟩⟩
theorem oe_deep5 {c : Nat} (cc m : Int32) (N L F kN kL kF : Nat → Int32) (e : Nat) (he : e ≤ 40) : ∀ (d j : Nat) (x : Int32), j + d = e → ∃ r, (∀ post : Int32 → Prop, post r → wX_deepestLevel_5 post (nI e) cc m N L F (d + 1) x (nI j)) ∧ (∀ post : Int32 → Prop, post r → wY_deepest_5 post (nI e) cc m N L F kN kL kF (d + 1) x (nI j)) := by
  intro d
  induction d with
  | zero =>
    intro j x hj
    obtain rfl : j = e := by omega
    have h : nI j ≤ nI j := Int32.le_refl _
    exact ⟨x, fun _ hp => br_t h hp, fun _ hp => br_t h hp⟩
  | succ d ih =>
    intro j x hj
    have h : ¬ nI e ≤ nI j := nI_ge (by omega) (by omega)
    have vj := oe_in (n := j) (by omega)
    have cj := oe_cl (n := j) (by omega)
    by_cases z : L j ≤ x
    · obtain ⟨r, hX, hY⟩ := ih (j + 1) x (by omega)
      exact ⟨r, fun post hp => br_f h ⟨vj, br_t (by rw [cj]; exact z) (nm_r (nI_1 j) (hX post hp))⟩, fun post hp => br_f h ⟨vj, br_t (by rw [cj]; exact z) (nm_r (nI_1 j) (hY post hp))⟩⟩
    · obtain ⟨r, hX, hY⟩ := ih (j + 1) (L j) (by omega)
      exact ⟨r, fun post hp => br_f h ⟨vj, br_f (by rw [cj]; exact z) ⟨vj, nm_r (by rw [cj]) (nm_r (nI_1 j) (hX post hp))⟩⟩, fun post hp => br_f h ⟨vj, br_f (by rw [cj]; exact z) ⟨vj, nm_r (by rw [cj]) (nm_r (nI_1 j) (hY post hp))⟩⟩⟩
theorem oe_deep (cc m : Int32) (N L F kN kL kF : Nat → Int32) (a e : Nat) (ha : a ≤ e) (he : e ≤ 40) : ∃ r, (∀ post : Int32 → Prop, post r → wpX_deepestLevel post (cc, m, N, L, F) (nI a) (nI e)) ∧ (∀ post : Int32 → Prop, post r → wpY_deepest post (cc, m, N, L, F, kN, kL, kF) (nI a) (nI e)) := by
  obtain ⟨r, hX, hY⟩ := oe_deep5 (c := 0) cc m N L F kN kL kF e he (e - a) a 0 (by omega)
  exact ⟨r, fun post hp => ⟨_, hX post hp⟩, fun post hp => ⟨_, hY post hp⟩⟩
theorem oe_shift3 (cc m : Int32) (N F kN kL kF : Nat → Int32) (e : Nat) (x : Int32) (he : e ≤ 40) : ∀ (d j : Nat) (L : Nat → Int32), j + d = e → ∃ L', (∀ post : SX → Prop, post (cc, m, N, L', F) → wX_shiftLevels_3 post (nI e) x cc m (d + 1) (nI j) N L F) ∧ (∀ post : SY → Prop, post (cc, m, N, L', F, kN, kL, kF) → wY_addLevels_3 post (nI e) x cc m (d + 1) (nI j) N L F kN kL kF) := by
  intro d
  induction d with
  | zero =>
    intro j L hj
    obtain rfl : j = e := by omega
    have h : nI j ≤ nI j := Int32.le_refl _
    exact ⟨L, fun _ hp => br_t h hp, fun _ hp => br_t h hp⟩
  | succ d ih =>
    intro j L hj
    have h : ¬ nI e ≤ nI j := nI_ge (by omega) (by omega)
    have vj := oe_in (n := j) (by omega)
    have cj := oe_cl (n := j) (by omega)
    obtain ⟨L', hX, hY⟩ := ih (j + 1) (upd L j (L j + x)) (by omega)
    exact ⟨L', fun post hp => br_f h ⟨vj, vj, nm_r (by rw [cj]) (nm_r (nI_1 j) (hX post hp))⟩, fun post hp => br_f h ⟨vj, vj, nm_r (by rw [cj]) (nm_r (nI_1 j) (hY post hp))⟩⟩
theorem oe_shift (cc m : Int32) (N L F kN kL kF : Nat → Int32) (a e : Nat) (x : Int32) (ha : a ≤ e) (he : e ≤ 40) : ∃ L', (∀ post : SX → Prop, post (cc, m, N, L', F) → wpX_shiftLevels post (cc, m, N, L, F) (nI a) (nI e) x) ∧ (∀ post : SY → Prop, post (cc, m, N, L', F, kN, kL, kF) → wpY_addLevels post (cc, m, N, L, F, kN, kL, kF) (nI a) (nI e) x) := by
  obtain ⟨L', hX, hY⟩ := oe_shift3 cc m N F kN kL kF e x he (e - a) a L (by omega)
  exact ⟨L', fun post hp => ⟨_, hX post hp⟩, fun post hp => ⟨_, hY post hp⟩⟩
theorem oe_ins5 {c : Nat} (hc : c < 40) (m : Int32) (kN kL kF : Nat → Int32) (a : Nat) (lv : Int32) (ha : a ≤ c) : ∀ (d : Nat) (N L F : Nat → Int32), a + d ≤ c → oe_B F → ∃ N' L' F', oe_B F' ∧ (∀ post : Int32 → SX → Prop, post m (nI (c + 1), m + 1, N', L', F') → wX_insert_5 post (nI a) lv (d + 1) (nI (a + d)) (nI c) m N L F) ∧ (∀ post : Int32 → SY → Prop, post m (nI (c + 1), m + 1, N', L', F', kN, kL, kF) → wY_insert_5 post (nI a) lv (d + 1) (nI (a + d)) (nI c) m N L F kN kL kF) := by
  intro d
  induction d with
  | zero =>
    intro N L F hd hF
    have h : nI (a + 0) ≤ nI a := Int32.le_refl _
    have va := oe_in (n := a) (by omega)
    have ca := oe_cl (n := a) (by omega)
    refine ⟨upd N a m, upd L a lv, upd F a 0, oe_Bu hF a oe_n0, fun post hp => br_t h ⟨va, nm_r (by rw [ca]) ⟨va, nm_r (by rw [ca]) ⟨va, nm_r (by rw [ca, oe_n0]) (nm_r (nI_1 c) (nm_e hp))⟩⟩⟩, fun post hp => br_t h ⟨va, nm_r (by rw [ca]) ⟨va, nm_r (by rw [ca]) ⟨va, nm_r (by rw [ca, oe_n0]) (nm_r (nI_1 c) (nm_e ?_))⟩⟩⟩⟩
    rw [oe_pm]
    exact hp
  | succ d ih =>
    intro N L F hd hF
    have h : ¬ nI (a + (d + 1)) ≤ nI a := nI_ge (by omega) (by omega)
    obtain ⟨N', L', F', hB, hX, hY⟩ := ih (upd N (a + d + 1) (N (a + d))) (upd L (a + d + 1) (L (a + d))) (upd F (a + d + 1) (F (a + d))) (by omega) (oe_Bu hF _ (hF _))
    exact ⟨N', L', F', hB, fun post hp => br_f h (oe_cpX (a + d) (a + d + 1) (nI_pred _) rfl (by omega) (by omega) hF (nm_r (pk_m1 (a + d)) (hX post hp))), fun post hp => br_f h (oe_cpY (a + d) (a + d + 1) (nI_pred _) rfl (by omega) (by omega) hF (nm_r (pk_m1 (a + d)) (hY post hp)))⟩
theorem oe_ins {c : Nat} (hc : c < 40) (m : Int32) (N L F kN kL kF : Nat → Int32) (a : Nat) (lv : Int32) (ha : a ≤ c) (hF : oe_B F) : ∃ N' L' F', oe_B F' ∧ (∀ post : Int32 → SX → Prop, post m (nI (c + 1), m + 1, N', L', F') → wpX_insert post (nI c, m, N, L, F) (nI a) lv) ∧ (∀ post : Int32 → SY → Prop, post m (nI (c + 1), m + 1, N', L', F', kN, kL, kF) → wpY_insert post (nI c, m, N, L, F, kN, kL, kF) (nI a) lv) := by
  obtain ⟨N', L', F', hB, hX, hY⟩ := oe_ins5 hc m kN kL kF a lv ha (c - a) N L F (by omega) hF
  rw [show a + (c - a) = c from by omega] at hX hY
  exact ⟨N', L', F', hB, fun post hp => ⟨_, hX post hp⟩, fun post hp => ⟨_, hY post hp⟩⟩
end
section
theorem oe_ne40 {c : Nat} (hc : c ≤ 40) (h : ¬ c = 40) : ¬ nI c = 40 := by
  rw [oe_c40, nI_eq (by omega) (by omega)]; exact h
theorem i_vc_size {k : Nat} {u : SX} {v : SY} (I : i_Rel k u v) (hk : k + 3 ≤ 1536) : wpX_size (fun r => wpY_size (fun r' => r' = r ∧ i_Rel (k + 3) u v) v) u := by
  have I' := I
  obtain ⟨c, m, N, L, F, kN, kL, kF, hc, hF, rfl, rfl⟩ := I
  exact ⟨rfl, I'⟩
theorem i_vc_name {k : Nat} {u : SX} {v : SY} (I : i_Rel k u v) (hk : k + 3 ≤ 1536) (v1 : Int32) : wpX_name (fun r => wpY_name (fun r' => r' = r ∧ i_Rel (k + 3) u v) v v1) u v1 := by
  have I' := I
  obtain ⟨c, m, N, L, F, kN, kL, kF, hc, hF, rfl, rfl⟩ := I
  unfold wpX_name wpY_name; dsimp only
  rcases oe_ix v1 hc m N L F kN kL kF with ⟨i, hi, rfl⟩ | ⟨bX, bY⟩
  · have vi := oe_in (n := i) (by omega)
    exact oe_plX hi hc (br_f oe_10 ⟨vi, oe_plY hi hc (br_f oe_10 ⟨vi, rfl, I'⟩)⟩)
  · exact bX _ (br_t rfl (bY _ (br_t rfl ⟨rfl, I'⟩)))
theorem i_vc_level {k : Nat} {u : SX} {v : SY} (I : i_Rel k u v) (hk : k + 3 ≤ 1536) (v1 : Int32) : wpX_level (fun r => wpY_level (fun r' => r' = r ∧ i_Rel (k + 3) u v) v v1) u v1 := by
  have I' := I
  obtain ⟨c, m, N, L, F, kN, kL, kF, hc, hF, rfl, rfl⟩ := I
  unfold wpX_level wpY_level; dsimp only
  rcases oe_ix v1 hc m N L F kN kL kF with ⟨i, hi, rfl⟩ | ⟨bX, bY⟩
  · have vi := oe_in (n := i) (by omega)
    exact oe_plX hi hc (br_f oe_10 ⟨vi, oe_plY hi hc (br_f oe_10 ⟨vi, rfl, I'⟩)⟩)
  · exact bX _ (br_t rfl (bY _ (br_t rfl ⟨rfl, I'⟩)))
theorem i_vc_under {k : Nat} {u : SX} {v : SY} (I : i_Rel k u v) (hk : k + 3 ≤ 1536) (v1 : Int32) : wpX_under (fun r => wpY_under (fun r' => r' = r ∧ i_Rel (k + 3) u v) v v1) u v1 := by
  have I' := I
  obtain ⟨c, m, N, L, F, kN, kL, kF, hc, hF, rfl, rfl⟩ := I
  unfold wpX_under wpY_under; dsimp only
  rcases oe_ix v1 hc m N L F kN kL kF with ⟨i, hi, rfl⟩ | ⟨bX, bY⟩
  · obtain ⟨r, hE, hX, hY⟩ := oe_end hc m N L F kN kL kF i hi
    exact oe_plX hi hc (br_f oe_10 (hX _ (oe_plY hi hc (br_f oe_10 (hY _ ⟨rfl, I'⟩)))))
  · exact bX _ (br_t rfl (bY _ (br_t rfl ⟨rfl, I'⟩)))
theorem oe_place2 {c : Nat} (hc : c ≤ 40) (m : Int32) (N L F kN kL kF : Nat → Int32) (x : Int32) : ∀ d j : Nat, j + d = c → ∃ r, (∀ post : Int32 → Prop, post r → wX_place_2 post x (nI c) m N L F (d + 1) (nI j)) ∧ (∀ post : Int32 → Prop, post r → wY_place_2 post x (nI c) m N L F kN kL kF (d + 1) (nI j)) := by
  intro d
  induction d with
  | zero =>
    intro j hj
    obtain rfl : j = c := by omega
    have h : nI j ≤ nI j := Int32.le_refl _
    exact ⟨-4, fun _ hp => br_t h hp, fun _ hp => br_t h hp⟩
  | succ d ih =>
    intro j hj
    have h : ¬ nI c ≤ nI j := nI_ge (by omega) (by omega)
    have vj := oe_in (n := j) (by omega)
    by_cases z : N (nI j).toNatClampNeg = x
    · exact ⟨nI j, fun _ hp => br_f h ⟨vj, br_t z hp⟩, fun _ hp => br_f h ⟨vj, br_t z hp⟩⟩
    · obtain ⟨r, hX, hY⟩ := ih (j + 1) (by omega)
      exact ⟨r, fun post hp => br_f h ⟨vj, br_f z (nm_r (nI_1 j) (hX post hp))⟩, fun post hp => br_f h ⟨vj, br_f z (nm_r (nI_1 j) (hY post hp))⟩⟩
theorem i_vc_place {k : Nat} {u : SX} {v : SY} (I : i_Rel k u v) (hk : k + 3 ≤ 1536) (v1 : Int32) : wpX_place (fun r => wpY_place (fun r' => r' = r ∧ i_Rel (k + 3) u v) v v1) u v1 := by
  have I' := I
  obtain ⟨c, m, N, L, F, kN, kL, kF, hc, hF, rfl, rfl⟩ := I
  obtain ⟨r, hX, hY⟩ := oe_place2 hc m N L F kN kL kF v1 c 0 (by omega)
  exact ⟨_, hX _ ⟨_, hY _ ⟨rfl, I'⟩⟩⟩
theorem oe_par14 {c : Nat} (hc : c ≤ 40) (m : Int32) (N L F kN kL kF : Nat → Int32) (i : Nat) (hi : i < c) : ∀ (t : Nat) (x : Int32), x = nI t - 1 → t ≤ i → ∃ r, (∀ post : Int32 → Prop, post r → wX_parent_14 post (nI i) (nI c) m N L F (t + 1) x) ∧ (∀ post : Int32 → Prop, post r → wY_parent_14 post (nI i) (nI c) m N L F kN kL kF (t + 1) x) := by
  intro t
  induction t with
  | zero =>
    intro x hx ht
    have h : x < 0 := by rw [hx]; exact oe_neg
    exact ⟨-4, fun _ hp => br_t h hp, fun _ hp => br_t h hp⟩
  | succ t ih =>
    intro x hx ht
    rw [nI_pred] at hx
    subst hx
    have h : ¬ nI t < 0 := nI_pos (by omega)
    have vt := oe_in (n := t) (by omega)
    have vi := oe_in (n := i) (by omega)
    by_cases z : L (nI i).toNatClampNeg ≤ L (nI t).toNatClampNeg
    · obtain ⟨r, hX, hY⟩ := ih _ rfl (by omega)
      exact ⟨r, fun post hp => br_f h ⟨vt, vi, br_t z (nm_r (oe_mm _) (hX post hp))⟩, fun post hp => br_f h ⟨vt, vi, br_t z (nm_r (oe_mm _) (hY post hp))⟩⟩
    · exact ⟨nI t, fun _ hp => br_f h ⟨vt, vi, br_f z hp⟩, fun _ hp => br_f h ⟨vt, vi, br_f z hp⟩⟩
theorem i_vc_parent {k : Nat} {u : SX} {v : SY} (I : i_Rel k u v) (hk : k + 3 ≤ 1536) (v1 : Int32) : wpX_parent (fun r => wpY_parent (fun r' => r' = r ∧ i_Rel (k + 3) u v) v v1) u v1 := by
  have I' := I
  obtain ⟨c, m, N, L, F, kN, kL, kF, hc, hF, rfl, rfl⟩ := I
  unfold wpX_parent wpY_parent; dsimp only
  rcases oe_ix v1 hc m N L F kN kL kF with ⟨i, hi, rfl⟩ | ⟨bX, bY⟩
  · obtain ⟨r, hX, hY⟩ := oe_par14 hc m N L F kN kL kF i hi i _ rfl (Nat.le_refl _)
    exact oe_plX hi hc (br_f oe_10 (nm_e ⟨_, hX _ (oe_plY hi hc (br_f oe_10 (nm_e ⟨_, hY _ ⟨rfl, I'⟩⟩)))⟩))
  · exact bX _ (br_t rfl (bY _ (br_t rfl ⟨rfl, I'⟩)))
theorem i_vc_add {k : Nat} {u : SX} {v : SY} (I : i_Rel k u v) (hk : k + 3 ≤ 1536) (v1 : Int32) : wpX_add (fun r u' => wpY_add (fun r' v' => r' = r ∧ i_Rel (k + 3) u' v') v v1) u v1 := by
  have I' := I
  obtain ⟨c, m, N, L, F, kN, kL, kF, hc, hF, rfl, rfl⟩ := I
  unfold wpX_add wpY_add; dsimp only
  by_cases h0 : v1 < 0
  · exact br_t h0 (br_t rfl (br_t h0 ⟨rfl, I'⟩))
  by_cases h7 : 7 < v1
  · exact br_f h0 (br_t h7 (br_t rfl (br_f h0 (br_f (Int32.not_le.mpr h7) ⟨rfl, I'⟩))))
  have g7 : v1 ≤ 7 := Int32.not_lt.mp h7
  by_cases h40 : c = 40
  · subst h40
    exact br_f h0 (br_f h7 (br_f oe_10 (br_t oe_c40.symm (br_f h0 (br_t g7 (br_t oe_c40.symm ⟨rfl, I'⟩))))))
  have hn := oe_ne40 hc h40
  obtain ⟨N', L', F', hB, iX, iY⟩ := oe_ins (c := c) (by omega) m N L F kN kL kF c v1 (Nat.le_refl _) hF
  by_cases hz : c = 0
  · subst hz
    have e : (-1 : Int32) + 1 = 0 := by decide
    by_cases z : v1 ≤ 0
    · exact br_f h0 <| br_f h7 <| br_f oe_10 <| br_f hn <| br_t nI_0 <| br_t z <| iX _ <| br_f h0 <| br_t g7 <| br_f hn <| br_t nI_0 <| br_t (by rw [e]; exact z) <| iY _ ⟨rfl, oe_R _ _ _ _ _ _ _ (by omega) hB⟩
    · exact br_f h0 <| br_f h7 <| br_f oe_10 <| br_f hn <| br_t nI_0 <| br_f z <| br_f h0 <| br_t g7 <| br_f hn <| br_t nI_0 <| br_f (by rw [e]; exact z) ⟨rfl, I'⟩
  · have hz' : ¬ nI c = 0 := nI_ne0 (by omega) (by omega)
    have vc : vp_in (nI c - 1) 40 := by
      rw [oe_c1, pk_sub (by omega)]; exact oe_in (by omega)
    by_cases z : v1 ≤ L (nI c - 1).toNatClampNeg + 1
    · exact br_f h0 (br_f h7 (br_f oe_10 (br_f hn (br_f hz' ⟨vc, br_t z (iX _ (br_f h0 (br_t g7 (br_f hn (br_f hz' ⟨vc, br_t z (iY _ ⟨rfl, oe_R _ _ _ _ _ _ _ (by omega) hB⟩)⟩)))))⟩))))
    · exact br_f h0 (br_f h7 (br_f oe_10 (br_f hn (br_f hz' ⟨vc, br_f z (br_f h0 (br_t g7 (br_f hn (br_f hz' ⟨vc, br_f z ⟨rfl, I'⟩⟩))))⟩))))
theorem i_vc_addAfter {k : Nat} {u : SX} {v : SY} (I : i_Rel k u v) (hk : k + 3 ≤ 1536) (v1 : Int32) : wpX_addAfter (fun r u' => wpY_addAfter (fun r' v' => r' = r ∧ i_Rel (k + 3) u' v') v v1) u v1 := by
  have I' := I
  obtain ⟨c, m, N, L, F, kN, kL, kF, hc, hF, rfl, rfl⟩ := I
  unfold wpX_addAfter wpY_addAfter; dsimp only
  rcases oe_ix v1 hc m N L F kN kL kF with ⟨i, hi, rfl⟩ | ⟨bX, bY⟩
  · by_cases h40 : c = 40
    · subst h40
      exact oe_plX hi hc (br_f oe_10 (br_t oe_c40.symm (oe_plY hi hc (br_f oe_10 (br_t oe_c40.symm ⟨rfl, I'⟩)))))
    have hn := oe_ne40 hc h40
    have vi := oe_in (n := i) (by omega)
    obtain ⟨r, hE, hX, hY⟩ := oe_end hc m N L F kN kL kF i hi
    obtain ⟨N', L', F', hB, iX, iY⟩ := oe_ins (c := c) (by omega) m N L F kN kL kF r (L (nI i).toNatClampNeg) hE.2.1 hF
    exact oe_plX hi hc (br_f oe_10 (br_f hn (hX _ ⟨vi, iX _ (oe_plY hi hc (br_f oe_10 (br_f hn (hY _ ⟨vi, iY _ ⟨rfl, oe_R _ _ _ _ _ _ _ (by omega) hB⟩⟩))))⟩)))
  · exact bX _ (br_t rfl (bY _ (br_t rfl ⟨rfl, I'⟩)))
theorem i_vc_addUnder {k : Nat} {u : SX} {v : SY} (I : i_Rel k u v) (hk : k + 3 ≤ 1536) (v1 : Int32) : wpX_addUnder (fun r u' => wpY_addUnder (fun r' v' => r' = r ∧ i_Rel (k + 3) u' v') v v1) u v1 := by
  have I' := I
  obtain ⟨c, m, N, L, F, kN, kL, kF, hc, hF, rfl, rfl⟩ := I
  unfold wpX_addUnder wpY_addUnder; dsimp only
  rcases oe_ix v1 hc m N L F kN kL kF with ⟨i, hi, rfl⟩ | ⟨bX, bY⟩
  · by_cases h40 : c = 40
    · subst h40
      exact oe_plX hi hc (br_f oe_10 (br_t oe_c40.symm (oe_plY hi hc (br_f oe_10 (br_t oe_c40.symm ⟨rfl, I'⟩)))))
    have hn := oe_ne40 hc h40
    have vi := oe_in (n := i) (by omega)
    by_cases z : L (nI i).toNatClampNeg = 7
    · exact oe_plX hi hc (br_f oe_10 (br_f hn ⟨vi, br_t z (oe_plY hi hc (br_f oe_10 (br_f hn ⟨vi, br_t z ⟨rfl, I'⟩⟩)))⟩))
    · obtain ⟨N', L', F', hB, iX, iY⟩ := oe_ins (c := c) (by omega) m N L F kN kL kF (i + 1) (L (nI i).toNatClampNeg + 1) hi hF
      rw [← nI_1 i] at iX iY
      exact oe_plX hi hc (br_f oe_10 (br_f hn ⟨vi, br_f z ⟨vi, iX _ (oe_plY hi hc (br_f oe_10 (br_f hn ⟨vi, br_f z ⟨vi, iY _ ⟨rfl, oe_R _ _ _ _ _ _ _ (by omega) hB⟩⟩⟩)))⟩⟩))
  · exact bX _ (br_t rfl (bY _ (br_t rfl ⟨rfl, I'⟩)))
end
section
theorem i_vc_indent {k : Nat} {u : SX} {v : SY} (I : i_Rel k u v) (hk : k + 3 ≤ 1536) (v1 : Int32) : wpX_indent (fun r u' => wpY_indent (fun r' v' => r' = r ∧ i_Rel (k + 3) u' v') v v1) u v1 := by
  have I' := I
  obtain ⟨c, m, N, L, F, kN, kL, kF, hc, hF, rfl, rfl⟩ := I
  unfold wpX_indent wpY_indent; dsimp only
  rcases oe_ix v1 hc m N L F kN kL kF with ⟨i, hi, rfl⟩ | ⟨bX, bY⟩
  · obtain ⟨r, hE, hX, hY⟩ := oe_end hc m N L F kN kL kF i hi
    by_cases i0 : i = 0
    · subst i0
      exact oe_plX hi hc <| br_f oe_10 <| br_t nI_0 <| oe_plY hi hc <| br_f oe_10 <| hY _ <| br_t nI_0 ⟨rfl, I'⟩
    have hne : ¬ nI i = 0 := nI_ne0 (by omega) (by omega)
    have vi := oe_in (n := i) (by omega)
    have vj : vp_in (nI i - 1) 40 := by
      rw [oe_c1, pk_sub (by omega)]; exact oe_in (by omega)
    by_cases z : L (nI i).toNatClampNeg ≤ L (nI i - 1).toNatClampNeg
    · have z' := Int32.not_lt.mpr z
      obtain ⟨d, dX, dY⟩ := oe_deep (nI c) m N L F kN kL kF i r (by have := hE.1; omega) (by have := hE.2.1; omega)
      obtain ⟨L', sX, sY⟩ := oe_shift (nI c) m N L F kN kL kF i r 1 (by have := hE.1; omega) (by have := hE.2.1; omega)
      by_cases w : d = 7
      · exact oe_plX hi hc <| br_f oe_10 <| br_f hne ⟨vi, vj, br_t z <| hX _ <| dX _ <| br_t w <| oe_plY hi hc <| br_f oe_10 <| hY _ <| br_f hne ⟨vi, vj, br_f z' <| dY _ <| br_t w ⟨rfl, I'⟩⟩⟩
      · exact oe_plX hi hc <| br_f oe_10 <| br_f hne ⟨vi, vj, br_t z <| hX _ <| dX _ <| br_f w <| sX _ ⟨vi, oe_plY hi hc <| br_f oe_10 <| hY _ <| br_f hne ⟨vi, vj, br_f z' <| dY _ <| br_f w <| sY _ ⟨vi, rfl, oe_R _ _ _ _ _ _ _ hc hF⟩⟩⟩⟩
    · have z' := Int32.not_le.mp z
      exact oe_plX hi hc <| br_f oe_10 <| br_f hne ⟨vi, vj, br_f z <| oe_plY hi hc <| br_f oe_10 <| hY _ <| br_f hne ⟨vi, vj, br_t z' ⟨rfl, I'⟩⟩⟩
  · exact bX _ (br_t rfl (bY _ (br_t rfl ⟨rfl, I'⟩)))
theorem i_vc_outdent {k : Nat} {u : SX} {v : SY} (I : i_Rel k u v) (hk : k + 3 ≤ 1536) (v1 : Int32) : wpX_outdent (fun r u' => wpY_outdent (fun r' v' => r' = r ∧ i_Rel (k + 3) u' v') v v1) u v1 := by
  have I' := I
  obtain ⟨c, m, N, L, F, kN, kL, kF, hc, hF, rfl, rfl⟩ := I
  unfold wpX_outdent wpY_outdent; dsimp only
  rcases oe_ix v1 hc m N L F kN kL kF with ⟨i, hi, rfl⟩ | ⟨bX, bY⟩
  · have vi := oe_in (n := i) (by omega)
    by_cases z : L (nI i).toNatClampNeg = 0
    · exact oe_plX hi hc <| br_f oe_10 ⟨vi, br_t z <| oe_plY hi hc <| br_f oe_10 ⟨vi, br_t z ⟨rfl, I'⟩⟩⟩
    · obtain ⟨r, hE, hX, hY⟩ := oe_end hc m N L F kN kL kF i hi
      obtain ⟨L', sX, sY⟩ := oe_shift (nI c) m N L F kN kL kF i r (-1) (by have := hE.1; omega) (by have := hE.2.1; omega)
      exact oe_plX hi hc <| br_f oe_10 ⟨vi, br_f z <| hX _ <| sX _ ⟨vi, oe_plY hi hc <| br_f oe_10 ⟨vi, br_f z <| hY _ <| sY _ ⟨vi, rfl, oe_R _ _ _ _ _ _ _ hc hF⟩⟩⟩⟩
  · exact bX _ (br_t rfl (bY _ (br_t rfl ⟨rfl, I'⟩)))
theorem i_vc_fold {k : Nat} {u : SX} {v : SY} (I : i_Rel k u v) (hk : k + 3 ≤ 1536) (v1 : Int32) (v2 : Int32) : wpX_fold (fun r u' => wpY_fold (fun r' v' => r' = r ∧ i_Rel (k + 3) u' v') v v1 v2) u v1 v2 := by
  have I' := I
  obtain ⟨c, m, N, L, F, kN, kL, kF, hc, hF, rfl, rfl⟩ := I
  unfold wpX_fold wpY_fold; dsimp only
  rcases oe_ix v1 hc m N L F kN kL kF with ⟨i, hi, rfl⟩ | ⟨bX, bY⟩
  · have vi := oe_in (n := i) (by omega)
    have e0 : oe_B (upd F (nI i).toNatClampNeg (vp_nar .boolean 0)) := oe_Bu hF _ (by rw [oe_n0, oe_n0])
    have e1 : oe_B (upd F (nI i).toNatClampNeg (vp_nar .boolean 1)) := oe_Bu hF _ (by rw [oe_n1, oe_n1])
    by_cases z : F (nI i).toNatClampNeg = 0
    · by_cases w : v2 = 0
      · exact oe_plX hi hc <| br_f oe_10 ⟨vi, br_t z <| br_t w ⟨vi, nm_e <| oe_plY hi hc <| br_f oe_10 ⟨vi, br_t z <| br_t w ⟨vi, nm_e ⟨rfl, oe_R _ _ _ _ _ _ _ hc e0⟩⟩⟩⟩⟩
      · exact oe_plX hi hc <| br_f oe_10 ⟨vi, br_t z <| br_f w ⟨vi, nm_e <| oe_plY hi hc <| br_f oe_10 ⟨vi, br_t z <| br_f w ⟨vi, nm_e ⟨rfl, oe_R _ _ _ _ _ _ _ hc e1⟩⟩⟩⟩⟩
    · by_cases w : v2 = 0
      · exact oe_plX hi hc <| br_f oe_10 ⟨vi, br_f z <| br_t w ⟨vi, nm_e <| oe_plY hi hc <| br_f oe_10 ⟨vi, br_f z <| br_t w ⟨vi, nm_e ⟨rfl, oe_R _ _ _ _ _ _ _ hc e0⟩⟩⟩⟩⟩
      · exact oe_plX hi hc <| br_f oe_10 ⟨vi, br_f z <| br_f w ⟨vi, nm_e <| oe_plY hi hc <| br_f oe_10 ⟨vi, br_f z <| br_f w ⟨vi, nm_e ⟨rfl, oe_R _ _ _ _ _ _ _ hc e1⟩⟩⟩⟩⟩
  · exact bX _ (br_t rfl (bY _ (br_t rfl ⟨rfl, I'⟩)))
/-- the branch of m headings at i taken out, as far as the headings before k have moved -/
def oe_dl (i m k : Nat) (g : Nat → Int32) : Nat → Int32 := fun p => if i ≤ p ∧ p + m < k then g (p + m) else g p
theorem oe_dl0 (i m : Nat) (g : Nat → Int32) : oe_dl i m (i + m) g = g := by
  funext p
  unfold oe_dl
  exact if_neg (by omega)
theorem oe_dlS (i m k : Nat) (g : Nat → Int32) (h : i + m ≤ k) : upd (oe_dl i m k g) (k - m) (oe_dl i m k g k) = oe_dl i m (k + 1) g := by
  funext p
  simp only [oe_dl, upd]
  repeat' split
  all_goals first | rfl | (exfalso; omega) | exact congrArg g (by omega)
theorem oe_dlB {i m k : Nat} {F : Nat → Int32} (hF : oe_B F) : oe_B (oe_dl i m k F) := by
  intro p
  unfold oe_dl
  split
  · exact hF _
  · exact hF _
theorem oe_cut7 {c : Nat} (hc : c ≤ 40) (mm : Int32) (N L F : Nat → Int32) (hF : oe_B F) (i m : Nat) (post : SX → Prop) (hp : post (nI (c - m), mm, oe_dl i m c N, oe_dl i m c L, oe_dl i m c F)) : ∀ d j : Nat, j + d = c → i + m ≤ j → wX_cut_7 post (nI m) (d + 1) (nI j) (nI c) mm (oe_dl i m j N) (oe_dl i m j L) (oe_dl i m j F) := by
  intro d
  induction d with
  | zero =>
    intro j hj hij
    obtain rfl : j = c := by omega
    have h : nI j ≤ nI j := Int32.le_refl _
    exact br_t h (nm_r (pk_sub (by omega)) hp)
  | succ d ih =>
    intro j hj hij
    have h : ¬ nI c ≤ nI j := nI_ge (by omega) (by omega)
    have H := ih (j + 1) (by omega) (by omega)
    rw [← oe_dlS i m j N hij, ← oe_dlS i m j L hij, ← oe_dlS i m j F hij] at H
    exact br_f h (oe_cpX j (j - m) rfl (pk_sub (by omega)) (by omega) (by omega) (oe_dlB hF) (nm_r (nI_1 j) H))
theorem oe_del2 {c : Nat} (hc : c ≤ 40) (mm : Int32) (N L F kN kL kF : Nat → Int32) (hF : oe_B F) (i m : Nat) (post : SY → Prop) (hp : post (nI (c - m), mm, oe_dl i m c N, oe_dl i m c L, oe_dl i m c F, kN, kL, kF)) : ∀ d j : Nat, j + d = c → i + m ≤ j → wY_delete_2 post (nI i) (nI (i + m)) (d + 1) (nI j) (nI c) mm (oe_dl i m j N) (oe_dl i m j L) (oe_dl i m j F) kN kL kF := by
  have em : nI (i + m) - nI i = nI m := by rw [pk_sub (by omega), Nat.add_sub_cancel_left]
  intro d
  induction d with
  | zero =>
    intro j hj hij
    obtain rfl : j = c := by omega
    have h : nI j ≤ nI j := Int32.le_refl _
    exact br_t h (nm_r (by rw [em]; exact pk_sub (by omega)) hp)
  | succ d ih =>
    intro j hj hij
    have h : ¬ nI c ≤ nI j := nI_ge (by omega) (by omega)
    have H := ih (j + 1) (by omega) (by omega)
    rw [← oe_dlS i m j N hij, ← oe_dlS i m j L hij, ← oe_dlS i m j F hij] at H
    exact br_f h (oe_cpY j (j - m) rfl (by rw [em]; exact pk_sub (by omega)) (by omega) (by omega) (oe_dlB hF) (nm_r (nI_1 j) H))
theorem oe_cut {c : Nat} (hc : c ≤ 40) {mm : Int32} {N L F : Nat → Int32} (hF : oe_B F) (i j : Nat) (hij : i ≤ j) (hj : j ≤ c) {post : SX → Prop} (hp : post (nI (c - (j - i)), mm, oe_dl i (j - i) c N, oe_dl i (j - i) c L, oe_dl i (j - i) c F)) : wpX_cut post (nI c, mm, N, L, F) (nI i) (nI j) := by
  have H := oe_cut7 hc mm N L F hF i (j - i) post hp (c - j) j (by omega) (by omega)
  have e : ∀ g, oe_dl i (j - i) j g = g := by
    intro g
    have := oe_dl0 i (j - i) g
    rwa [show i + (j - i) = j from by omega] at this
  rw [e, e, e] at H
  exact nm_r (pk_sub hij) ⟨_, H⟩
theorem oe_del {c : Nat} (hc : c ≤ 40) {mm : Int32} {N L F kN kL kF : Nat → Int32} (hF : oe_B F) (i j : Nat) (hij : i ≤ j) (hj : j ≤ c) {post : SY → Prop} (hp : post (nI (c - (j - i)), mm, oe_dl i (j - i) c N, oe_dl i (j - i) c L, oe_dl i (j - i) c F, kN, kL, kF)) : wpY_delete post (nI c, mm, N, L, F, kN, kL, kF) (nI i) (nI j) := by
  have H := oe_del2 hc mm N L F kN kL kF hF i (j - i) post hp (c - j) j (by omega) (by omega)
  have e : ∀ g, oe_dl i (j - i) j g = g := by
    intro g
    have := oe_dl0 i (j - i) g
    rwa [show i + (j - i) = j from by omega] at this
  rw [e, e, e, show i + (j - i) = j from by omega] at H
  exact ⟨_, H⟩
theorem i_vc_remove {k : Nat} {u : SX} {v : SY} (I : i_Rel k u v) (hk : k + 3 ≤ 1536) (v1 : Int32) : wpX_remove (fun r u' => wpY_remove (fun r' v' => r' = r ∧ i_Rel (k + 3) u' v') v v1) u v1 := by
  have I' := I
  obtain ⟨c, m, N, L, F, kN, kL, kF, hc, hF, rfl, rfl⟩ := I
  unfold wpX_remove wpY_remove; dsimp only
  rcases oe_ix v1 hc m N L F kN kL kF with ⟨i, hi, rfl⟩ | ⟨bX, bY⟩
  · obtain ⟨r, hE, hX, hY⟩ := oe_end hc m N L F kN kL kF i hi
    have h1 := hE.1
    have h2 := hE.2.1
    exact oe_plX hi hc <| br_f oe_10 <| hX _ <| oe_cut hc hF i r (by omega) h2 <| oe_plY hi hc <| br_f oe_10 <| hY _ <| oe_del hc hF i r (by omega) h2 ⟨rfl, oe_R _ _ _ _ _ _ _ (by omega) (oe_dlB hF)⟩
  · exact bX _ (br_t rfl (bY _ (br_t rfl ⟨rfl, I'⟩)))
theorem i_vc_dissolve {k : Nat} {u : SX} {v : SY} (I : i_Rel k u v) (hk : k + 3 ≤ 1536) (v1 : Int32) : wpX_dissolve (fun r u' => wpY_dissolve (fun r' v' => r' = r ∧ i_Rel (k + 3) u' v') v v1) u v1 := by
  have I' := I
  obtain ⟨c, m, N, L, F, kN, kL, kF, hc, hF, rfl, rfl⟩ := I
  unfold wpX_dissolve wpY_dissolve; dsimp only
  rcases oe_ix v1 hc m N L F kN kL kF with ⟨i, hi, rfl⟩ | ⟨bX, bY⟩
  · obtain ⟨r, hE, hX, hY⟩ := oe_end hc m N L F kN kL kF i hi
    have h1 := hE.1
    have h2 := hE.2.1
    obtain ⟨L', sX, sY⟩ := oe_shift (nI c) m N L F kN kL kF (i + 1) r (-1) (by omega) (by omega)
    rw [nI_1 i]
    exact oe_plX hi hc <| br_f oe_10 <| hX _ <| sX _ <| oe_cut hc hF i (i + 1) (by omega) (by omega) <| oe_plY hi hc <| br_f oe_10 <| hY _ <| sY _ <| oe_del hc hF i (i + 1) (by omega) (by omega) ⟨rfl, oe_R _ _ _ _ _ _ _ (by omega) (oe_dlB hF)⟩
  · exact bX _ (br_t rfl (bY _ (br_t rfl ⟨rfl, I'⟩)))
end
section
/-- the stretch from a to e reversed, its outer k on either side -/
def oe_rv (a e k : Nat) (g : Nat → Int32) : Nat → Int32 := fun p => if (a ≤ p ∧ p < a + k) ∨ (e ≤ p + k ∧ p < e) then g (a + e - 1 - p) else g p
def oe_re (a e : Nat) (g : Nat → Int32) : Nat → Int32 := fun p => if a ≤ p ∧ p < e then g (a + e - 1 - p) else g p
/-- the stretches a to b and b to e change places -/
def oe_rot (a b e : Nat) (g : Nat → Int32) : Nat → Int32 := fun p => if a ≤ p ∧ p < e then (if p < a + (e - b) then g (p + (b - a)) else g (p - (e - b))) else g p
theorem oe_rv0 (a e : Nat) (g : Nat → Int32) : oe_rv a e 0 g = g := by
  funext p
  exact if_neg (by omega)
theorem oe_rvS (a e k : Nat) (g : Nat → Int32) (h : a + 2 * k + 2 ≤ e) : upd (upd (oe_rv a e k g) (a + k) (oe_rv a e k g (e - 1 - k))) (e - 1 - k) (oe_rv a e k g (a + k)) = oe_rv a e (k + 1) g := by
  funext p
  simp only [oe_rv, upd]
  repeat' split
  all_goals first | rfl | (exfalso; omega) | exact congrArg g (by omega)
theorem oe_rvE (a e : Nat) (g : Nat → Int32) (h : a ≤ e) : oe_rv a e ((e - a) / 2) g = oe_re a e g := by
  funext p
  simp only [oe_rv, oe_re]
  repeat' split
  all_goals first | rfl | (exfalso; omega) | exact congrArg g (by omega)
theorem oe_re3 (a b e : Nat) (g : Nat → Int32) (h1 : a ≤ b) (h2 : b ≤ e) : oe_re a e (oe_re b e (oe_re a b g)) = oe_rot a b e g := by
  funext p
  simp only [oe_re, oe_rot]
  repeat' split
  all_goals first | rfl | (exfalso; omega) | exact congrArg g (by omega)
theorem oe_rvB {a e k : Nat} {F : Nat → Int32} (hF : oe_B F) : oe_B (oe_rv a e k F) := by
  intro p
  unfold oe_rv
  split
  · exact hF _
  · exact hF _
theorem oe_reB {a e : Nat} {F : Nat → Int32} (hF : oe_B F) : oe_B (oe_re a e F) := by
  intro p
  unfold oe_re
  split
  · exact hF _
  · exact hF _
theorem oe_rotB {a b e : Nat} {F : Nat → Int32} (hF : oe_B F) : oe_B (oe_rot a b e F) := by
  intro p
  simp only [oe_rot]
  repeat' split
  all_goals exact hF _
theorem oe_swX {x y : Int32} (p q : Nat) (hx : x = nI p) (hy : y = nI q) (hp : p < 40) (hq : q < 40) {c m : Int32} {N L F : Nat → Int32} (hF : oe_B F) {post : SX → Prop} (h : post (c, m, upd (upd N p (N q)) q (N p), upd (upd L p (L q)) q (L p), upd (upd F p (F q)) q (F p))) : wpX_swapHeadings post (c, m, N, L, F) x y := by
  subst hx hy
  have cp := oe_cl (n := p) (by omega)
  have cq := oe_cl (n := q) (by omega)
  have vp := oe_in hp
  have vq := oe_in hq
  exact ⟨vp, nm_r (by rw [cp]) ⟨vp, nm_r (by rw [cp]) ⟨vp, nm_r (by rw [cp]) (oe_cpX q p rfl rfl hq hp hF ⟨vq, nm_r (by rw [cq]) ⟨vq, nm_r (by rw [cq]) ⟨vq, nm_r (by rw [cq, hF p]) h⟩⟩⟩)⟩⟩⟩
theorem oe_rev9 (cc m : Int32) (N L F : Nat → Int32) (hF : oe_B F) (a e : Nat) (h : a ≤ e) (he : e ≤ 40) (post : SX → Prop) (hp : post (cc, m, oe_re a e N, oe_re a e L, oe_re a e F)) : ∀ d k : Nat, k + d = (e - a) / 2 → wX_reverse_9 post (nI a) (nI e) (nI ((e - a) / 2)) (d + 1) (nI k) cc m (oe_rv a e k N) (oe_rv a e k L) (oe_rv a e k F) := by
  intro d
  induction d with
  | zero =>
    intro k hk
    obtain rfl : k = (e - a) / 2 := by omega
    rw [oe_rvE a e N h, oe_rvE a e L h, oe_rvE a e F h]
    exact br_t (Int32.le_refl _) hp
  | succ d ih =>
    intro k hk
    have hh : ¬ nI ((e - a) / 2) ≤ nI k := nI_ge (by omega) (by omega)
    have H := ih (k + 1) (by omega)
    have hs : a + 2 * k + 2 ≤ e := by omega
    rw [← oe_rvS a e k N hs, ← oe_rvS a e k L hs, ← oe_rvS a e k F hs] at H
    refine br_f hh (oe_swX (a + k) (e - 1 - k) (nI_add a k) ?_ (by omega) (by omega) (oe_rvB hF) (nm_r (nI_1 k) H))
    rw [oe_c1, pk_sub (by omega), pk_sub (by omega)]
theorem oe_rev {cc m : Int32} {N L F : Nat → Int32} (hF : oe_B F) (a e : Nat) (h : a ≤ e) (he : e ≤ 40) {post : SX → Prop} (hp : post (cc, m, oe_re a e N, oe_re a e L, oe_re a e F)) : wpX_reverse post (cc, m, N, L, F) (nI a) (nI e) := by
  have H := oe_rev9 cc m N L F hF a e h he post hp ((e - a) / 2) 0 (by omega)
  rw [oe_rv0, oe_rv0, oe_rv0] at H
  exact ⟨by decide, nm_r (by rw [pk_sub h, oe_c2]; exact pk_div (by omega) (by omega) (by omega)) ⟨_, H⟩⟩
theorem oe_exch {cc m : Int32} {N L F : Nat → Int32} (hF : oe_B F) (a b e : Nat) (h1 : a ≤ b) (h2 : b ≤ e) (he : e ≤ 40) {post : SX → Prop} (hp : post (cc, m, oe_rot a b e N, oe_rot a b e L, oe_rot a b e F)) : wpX_exchange post (cc, m, N, L, F) (nI a) (nI b) (nI e) := by
  unfold wpX_exchange; dsimp only
  rw [← oe_re3 a b e N h1 h2, ← oe_re3 a b e L h1 h2, ← oe_re3 a b e F h1 h2] at hp
  exact oe_rev hF a b h1 (by omega) <| oe_rev (oe_reB hF) b e h2 he <| oe_rev (oe_reB (oe_reB hF)) a e (by omega) he hp
/-- the first x of what was kept, written at a -/
def oe_pt (a x : Nat) (K g : Nat → Int32) : Nat → Int32 := fun p => if a ≤ p ∧ p < a + x then K (p - a) else g p
/-- what lies at t and behind it, moved on by m, up to c -/
def oe_sr (t m c : Nat) (g : Nat → Int32) : Nat → Int32 := fun p => if t + m ≤ p ∧ p < c then g (p - m) else g p
/-- the first t from i, kept -/
def oe_kp (i t : Nat) (g K : Nat → Int32) : Nat → Int32 := fun x => if x < t then g (i + x) else K x
theorem oe_pt0 (a : Nat) (K g : Nat → Int32) : oe_pt a 0 K g = g := by
  funext p
  exact if_neg (by omega)
theorem oe_ptS (a x : Nat) (K g : Nat → Int32) : upd (oe_pt a x K g) (a + x) (K x) = oe_pt a (x + 1) K g := by
  funext p
  simp only [oe_pt, upd]
  repeat' split
  all_goals first | rfl | (exfalso; omega) | exact congrArg K (by omega)
theorem oe_sr0 (m c : Nat) (g : Nat → Int32) (h : m ≤ c) : oe_sr (c - m) m c g = g := by
  funext p
  exact if_neg (by omega)
theorem oe_srS (t m c : Nat) (g : Nat → Int32) (h : t + m < c) : upd (oe_sr (t + 1) m c g) (t + m) (oe_sr (t + 1) m c g t) = oe_sr t m c g := by
  funext p
  simp only [oe_sr, upd]
  repeat' split
  all_goals first | rfl | (exfalso; omega) | exact congrArg g (by omega)
theorem oe_kp0 (i : Nat) (g K : Nat → Int32) : oe_kp i 0 g K = K := by
  funext p
  exact if_neg (by omega)
theorem oe_kpS (i t : Nat) (g K : Nat → Int32) : upd (oe_kp i t g K) t (g (i + t)) = oe_kp i (t + 1) g K := by
  funext p
  simp only [oe_kp, upd]
  repeat' split
  all_goals first | rfl | (exfalso; omega) | exact congrArg g (by omega)
theorem oe_srB {t m c : Nat} {F : Nat → Int32} (hF : oe_B F) : oe_B (oe_sr t m c F) := by
  intro p
  unfold oe_sr
  split
  · exact hF _
  · exact hF _
/-- what a branch's move leaves -/
def oe_mv (i m a c : Nat) (g K : Nat → Int32) : Nat → Int32 := oe_pt a m (oe_kp i m g K) (oe_sr a m c (oe_dl i m c g))
theorem oe_mvL (i m a c : Nat) (g K : Nat → Int32) (h1 : a ≤ i) (h2 : i + m ≤ c) : oe_mv i m a c g K = oe_rot a i (i + m) g := by
  funext p
  simp only [oe_mv, oe_pt, oe_kp, oe_sr, oe_dl, oe_rot]
  repeat' split
  all_goals first | rfl | (exfalso; omega) | exact congrArg g (by omega)
theorem oe_mvR (i m a c : Nat) (g K : Nat → Int32) (h1 : i ≤ a) (h2 : a + m ≤ c) : oe_mv i m a c g K = oe_rot i (i + m) (a + m) g := by
  funext p
  simp only [oe_mv, oe_pt, oe_kp, oe_sr, oe_dl, oe_rot]
  repeat' split
  all_goals first | rfl | (exfalso; omega) | exact congrArg g (by omega)
theorem oe_mv119 (cc mm : Int32) (N L F kN kL kF : Nat → Int32) (a m : Nat) (ha : a + m ≤ 40) (hK : ∀ x, x < m → vp_nar .boolean (kF x) = kF x) (post : SY → Prop) (hp : post (cc, mm, oe_pt a m kN N, oe_pt a m kL L, oe_pt a m kF F, kN, kL, kF)) : ∀ d x : Nat, x + d = m → wY_moveTo_119 post (nI a) (nI m) cc mm (d + 1) (nI x) (oe_pt a x kN N) (oe_pt a x kL L) (oe_pt a x kF F) kN kL kF := by
  intro d
  induction d with
  | zero =>
    intro x hx
    obtain rfl : x = m := by omega
    exact br_t (Int32.le_refl _) hp
  | succ d ih =>
    intro x hx
    have hh : ¬ nI m ≤ nI x := nI_ge (by omega) (by omega)
    have H := ih (x + 1) (by omega)
    have vx := oe_in (n := x) (by omega)
    have cx := oe_cl (n := x) (by omega)
    have va : vp_in (nI a + nI x) 40 := by rw [nI_add]; exact oe_in (by omega)
    have ca : (nI a + nI x).toNatClampNeg = a + x := by rw [nI_add]; exact oe_cl (by omega)
    rw [← oe_ptS a x kN N, ← oe_ptS a x kL L, ← oe_ptS a x kF F] at H
    exact br_f hh ⟨vx, va, nm_r (by rw [cx, ca]) ⟨vx, va, nm_r (by rw [cx, ca]) ⟨vx, va, nm_r (by rw [cx, ca, hK x (by omega)]) (nm_r (nI_1 x) H)⟩⟩⟩
theorem oe_mv82 {c : Nat} (hc : c ≤ 40) (mm : Int32) (N L F kN kL kF : Nat → Int32) (hF : oe_B F) (a m : Nat) (ha : a + m ≤ c) (hK : ∀ x, x < m → vp_nar .boolean (kF x) = kF x) (post : SY → Prop) (hp : post (nI c, mm, oe_pt a m kN (oe_sr a m c N), oe_pt a m kL (oe_sr a m c L), oe_pt a m kF (oe_sr a m c F), kN, kL, kF)) : ∀ (d : Nat) (x : Int32), x = nI (a + d) - 1 → a + d + m ≤ c → wY_moveTo_82 post (nI a) (nI m) (d + 1) x (nI (c - m)) mm (oe_sr (a + d) m c N) (oe_sr (a + d) m c L) (oe_sr (a + d) m c F) kN kL kF := by
  intro d
  induction d with
  | zero =>
    intro x hx hd
    have hh : x < nI a := by rw [hx]; exact oe_dlt a (by omega)
    have H := oe_mv119 (nI c) mm (oe_sr a m c N) (oe_sr a m c L) (oe_sr a m c F) kN kL kF a m (by omega) hK post hp m 0 (by omega)
    rw [oe_pt0, oe_pt0, oe_pt0] at H
    exact br_t hh (nm_r (by rw [nI_add, Nat.sub_add_cancel (by omega)]) ⟨_, H⟩)
  | succ d ih =>
    intro x hx hd
    rw [← Nat.add_assoc, nI_pred] at hx
    subst hx
    have hh : ¬ nI (a + d) < nI a := nI_nlt (by omega) (by omega)
    have H := ih _ rfl (by omega)
    have hs : a + d + m < c := by omega
    rw [← oe_srS (a + d) m c N hs, ← oe_srS (a + d) m c L hs, ← oe_srS (a + d) m c F hs] at H
    exact br_f hh (oe_cpY (a + d) (a + d + m) rfl (nI_add _ _) (by omega) (by omega) (oe_srB hF) (nm_r (oe_mm _) H))
theorem oe_mv3 {c : Nat} (hc : c ≤ 40) (mm : Int32) (N L F kN kL kF : Nat → Int32) (hF : oe_B F) (i m a : Nat) (hi : i + m ≤ c) (ha : a + m ≤ c) (post : SY → Prop) (hp : post (nI c, mm, oe_mv i m a c N kN, oe_mv i m a c L kL, oe_mv i m a c F kF, oe_kp i m N kN, oe_kp i m L kL, oe_kp i m F kF)) : ∀ d t : Nat, t + d = m → wY_moveTo_3 post (nI i) (nI (i + m)) (nI a) (nI c) mm (d + 1) (nI (i + t)) N L F (oe_kp i t N kN) (oe_kp i t L kL) (oe_kp i t F kF) := by
  intro d
  induction d with
  | zero =>
    intro t ht
    obtain rfl : t = m := by omega
    have H := oe_mv82 hc mm (oe_dl i t c N) (oe_dl i t c L) (oe_dl i t c F) (oe_kp i t N kN) (oe_kp i t L kL) (oe_kp i t F kF) (oe_dlB hF) a t ha (fun x hx => by
      unfold oe_kp
      rw [if_pos hx]
      exact hF _) post hp (c - t - a) _ rfl (by omega)
    rw [show a + (c - t - a) = c - t from by omega, oe_sr0 t c _ (by omega), oe_sr0 t c _ (by omega), oe_sr0 t c _ (by omega)] at H
    refine br_t (Int32.le_refl _) (oe_del hc hF i (i + t) (by omega) hi ?_)
    rw [show i + t - i = t from by omega]
    exact nm_r (by rw [pk_sub (by omega), show i + t - i = t from by omega]) (nm_e ⟨_, H⟩)
  | succ d ih =>
    intro t ht
    have hh : ¬ nI (i + m) ≤ nI (i + t) := nI_ge (by omega) (by omega)
    have H := ih (t + 1) (by omega)
    have vx := oe_in (n := i + t) (by omega)
    have cx := oe_cl (n := i + t) (by omega)
    have e : nI (i + t) - nI i = nI t := by rw [pk_sub (by omega), Nat.add_sub_cancel_left]
    have va : vp_in (nI (i + t) - nI i) 40 := by rw [e]; exact oe_in (by omega)
    have ca : (nI (i + t) - nI i).toNatClampNeg = t := by rw [e]; exact oe_cl (by omega)
    rw [← oe_kpS i t N kN, ← oe_kpS i t L kL, ← oe_kpS i t F kF, ← Nat.add_assoc] at H
    exact br_f hh ⟨vx, va, nm_r (by rw [cx, ca]) ⟨vx, va, nm_r (by rw [cx, ca]) ⟨vx, va, nm_r (by rw [cx, ca, hF (i + t)]) (nm_r (nI_1 (i + t)) H)⟩⟩⟩
theorem oe_move {c : Nat} (hc : c ≤ 40) {mm : Int32} {N L F kN kL kF : Nat → Int32} (hF : oe_B F) (i m a : Nat) (hi : i + m ≤ c) (ha : a + m ≤ c) {post : SY → Prop} (hp : post (nI c, mm, oe_mv i m a c N kN, oe_mv i m a c L kL, oe_mv i m a c F kF, oe_kp i m N kN, oe_kp i m L kL, oe_kp i m F kF)) : wpY_moveTo post (nI c, mm, N, L, F, kN, kL, kF) (nI i) (nI (i + m)) (nI a) := by
  have H := oe_mv3 hc mm N L F kN kL kF hF i m a hi ha post hp m 0 (by omega)
  rw [oe_kp0, oe_kp0, oe_kp0] at H
  exact ⟨_, H⟩
/-- a move to the left, as the change of two stretches -/
theorem oe_moveL {c : Nat} (hc : c ≤ 40) {mm : Int32} {N L F kN kL kF : Nat → Int32} (hF : oe_B F) (a i j : Nat) (h1 : a ≤ i) (h2 : i ≤ j) (h3 : j ≤ c) {post : SY → Prop} (hp : post (nI c, mm, oe_rot a i j N, oe_rot a i j L, oe_rot a i j F, oe_kp i (j - i) N kN, oe_kp i (j - i) L kL, oe_kp i (j - i) F kF)) : wpY_moveTo post (nI c, mm, N, L, F, kN, kL, kF) (nI i) (nI j) (nI a) := by
  obtain ⟨m, rfl⟩ : ∃ m, j = i + m := ⟨j - i, by omega⟩
  refine oe_move hc hF i m a h3 (by omega) ?_
  rw [oe_mvL i m a c N kN h1 h3, oe_mvL i m a c L kL h1 h3, oe_mvL i m a c F kF h1 h3]
  rwa [Nat.add_sub_cancel_left] at hp
/-- a move to the right -/
theorem oe_moveR {c : Nat} (hc : c ≤ 40) {mm : Int32} {N L F kN kL kF : Nat → Int32} (hF : oe_B F) (i j e : Nat) (h1 : i ≤ j) (h2 : j ≤ e) (h3 : e ≤ c) {x : Int32} (hx : x = nI (e - (j - i))) {post : SY → Prop} (hp : post (nI c, mm, oe_rot i j e N, oe_rot i j e L, oe_rot i j e F, oe_kp i (j - i) N kN, oe_kp i (j - i) L kL, oe_kp i (j - i) F kF)) : wpY_moveTo post (nI c, mm, N, L, F, kN, kL, kF) (nI i) (nI j) x := by
  subst hx
  obtain ⟨m, rfl⟩ : ∃ m, j = i + m := ⟨j - i, by omega⟩
  rw [Nat.add_sub_cancel_left] at hp ⊢
  refine oe_move hc hF i m (e - m) (by omega) (by omega) ?_
  have q := fun g K => oe_mvR i m (e - m) c g K (by omega) (by omega)
  rw [show e - m + m = e from by omega] at q
  rw [q, q, q]
  exact hp
end
section
theorem oe_bro {c : Nat} (hc : c ≤ 40) (m : Int32) (N L F kN kL kF : Nat → Int32) (i : Nat) (hi : i < c) : ∀ (t : Nat) (x : Int32), x = nI t - 1 → t ≤ i →
    ((∀ post : Int32 → Prop, post (-4) → wX_brotherBefore_4 post (nI i) (nI c) m N L F (t + 1) x) ∧ (∀ post : Int32 → SY → Prop, post (-4) (nI c, m, N, L, F, kN, kL, kF) → wY_up_14 post (nI i) (nI c) m N L F kN kL kF (t + 1) x)) ∨
    (∃ b, b < i ∧ L (nI i).toNatClampNeg ≤ L (nI b).toNatClampNeg ∧ (∀ post : Int32 → Prop, post (nI b) → wX_brotherBefore_4 post (nI i) (nI c) m N L F (t + 1) x) ∧ (∀ post : Int32 → SY → Prop, wY_up_39 post (nI i) (nI b) (nI c) m N L F kN kL kF → wY_up_14 post (nI i) (nI c) m N L F kN kL kF (t + 1) x)) := by
  intro t
  induction t with
  | zero =>
    intro x hx ht
    have h : x < 0 := by rw [hx]; exact oe_neg
    exact Or.inl ⟨fun _ hp => br_t h hp, fun _ hp => br_t h (br_t h hp)⟩
  | succ t ih =>
    intro x hx ht
    rw [nI_pred] at hx
    subst hx
    have h : ¬ nI t < 0 := nI_pos (by omega)
    have vt := oe_in (n := t) (by omega)
    have vi := oe_in (n := i) (by omega)
    by_cases z : L (nI i).toNatClampNeg ≤ L (nI t).toNatClampNeg
    · by_cases w : L (nI t).toNatClampNeg = L (nI i).toNatClampNeg
      · have w' : L (nI t).toNatClampNeg ≤ L (nI i).toNatClampNeg := by rw [w]; exact Int32.le_refl _
        exact Or.inr ⟨t, by omega, z, fun _ hp => br_f h ⟨vt, vi, br_t z ⟨vt, vi, br_t w hp⟩⟩, fun _ hp => br_f h ⟨vt, vi, br_t w' hp⟩⟩
      · have w' : ¬ L (nI t).toNatClampNeg ≤ L (nI i).toNatClampNeg := fun q => w (Int32.le_antisymm q z)
        rcases ih _ rfl (by omega) with ⟨hX, hY⟩ | ⟨b, hb, hl, hX, hY⟩
        · exact Or.inl ⟨fun post hp => br_f h ⟨vt, vi, br_t z ⟨vt, vi, br_f w (nm_r (oe_mm _) (hX post hp))⟩⟩, fun post hp => br_f h ⟨vt, vi, br_f w' (nm_r (oe_mm _) (hY post hp))⟩⟩
        · exact Or.inr ⟨b, hb, hl, fun post hp => br_f h ⟨vt, vi, br_t z ⟨vt, vi, br_f w (nm_r (oe_mm _) (hX post hp))⟩⟩, fun post hp => br_f h ⟨vt, vi, br_f w' (nm_r (oe_mm _) (hY post hp))⟩⟩
    · have z' : L (nI t).toNatClampNeg ≤ L (nI i).toNatClampNeg := Int32.le_of_lt (Int32.not_le.mp z)
      exact Or.inl ⟨fun _ hp => br_f h ⟨vt, vi, br_f z hp⟩, fun _ hp => br_f h ⟨vt, vi, br_t z' (br_f h ⟨vt, vi, br_f z hp⟩)⟩⟩
theorem i_vc_up {k : Nat} {u : SX} {v : SY} (I : i_Rel k u v) (hk : k + 3 ≤ 1536) (v1 : Int32) : wpX_up (fun r u' => wpY_up (fun r' v' => r' = r ∧ i_Rel (k + 3) u' v') v v1) u v1 := by
  have I' := I
  obtain ⟨c, m, N, L, F, kN, kL, kF, hc, hF, rfl, rfl⟩ := I
  unfold wpX_up wpY_up; dsimp only
  rcases oe_ix v1 hc m N L F kN kL kF with ⟨i, hi, rfl⟩ | ⟨bX, bY⟩
  · obtain ⟨r, hE, hX, hY⟩ := oe_end hc m N L F kN kL kF i hi
    have h1 := hE.1
    have h2 := hE.2.1
    rcases oe_bro hc m N L F kN kL kF i hi i _ rfl (Nat.le_refl _) with ⟨pX, pY⟩ | ⟨b, hb, hl, pX, pY⟩
    · exact oe_plX hi hc <| br_f oe_10 <| nm_e ⟨_, pX _ <| br_t rfl <| oe_plY hi hc <| br_f oe_10 <| nm_e ⟨_, pY _ ⟨rfl, I'⟩⟩⟩
    · have vi := oe_in (n := i) (by omega)
      have vb := oe_in (n := b) (by omega)
      have nb : ¬ nI b < 0 := nI_pos (by omega)
      exact oe_plX hi hc <| br_f oe_10 <| nm_e ⟨_, pX _ <| br_f (oe_ne4 b (by omega)) <| hX _ <| oe_exch hF b i r (by omega) (by omega) (by omega) <| oe_plY hi hc <| br_f oe_10 <| nm_e ⟨_, pY _ <| br_f nb ⟨vb, vi, br_t hl <| hY _ <| oe_moveL hc hF b i r (by omega) (by omega) h2 ⟨rfl, oe_R _ _ _ _ _ _ _ hc (oe_rotB hF)⟩⟩⟩⟩
  · exact bX _ (br_t rfl (bY _ (br_t rfl ⟨rfl, I'⟩)))
theorem i_vc_down {k : Nat} {u : SX} {v : SY} (I : i_Rel k u v) (hk : k + 3 ≤ 1536) (v1 : Int32) : wpX_down (fun r u' => wpY_down (fun r' v' => r' = r ∧ i_Rel (k + 3) u' v') v v1) u v1 := by
  have I' := I
  obtain ⟨c, m, N, L, F, kN, kL, kF, hc, hF, rfl, rfl⟩ := I
  unfold wpX_down wpY_down; dsimp only
  rcases oe_ix v1 hc m N L F kN kL kF with ⟨i, hi, rfl⟩ | ⟨bX, bY⟩
  · obtain ⟨r, hE, hX, hY⟩ := oe_end hc m N L F kN kL kF i hi
    have h1 := hE.1
    have h2 := hE.2.1
    by_cases z : r = c
    · have z' : nI r = nI c := by rw [z]
      exact oe_plX hi hc <| br_f oe_10 <| hX _ <| br_t z' <| oe_plY hi hc <| br_f oe_10 <| hY _ <| br_t z' ⟨rfl, I'⟩
    have z' : ¬ nI r = nI c := by rw [nI_eq (by omega) (by omega)]; exact z
    have vi := oe_in (n := i) (by omega)
    have vr := oe_in (n := r) (by omega)
    by_cases w : L (nI r).toNatClampNeg = L (nI i).toNatClampNeg
    · obtain ⟨s, hE', hX', hY'⟩ := oe_end hc m N L F kN kL kF r (by omega)
      have h3 := hE'.1
      have h4 := hE'.2.1
      exact oe_plX hi hc <| br_f oe_10 <| hX _ <| br_f z' ⟨vr, vi, br_t w <| hX' _ <| oe_exch hF i r s (by omega) (by omega) (by omega) <| oe_plY hi hc <| br_f oe_10 <| hY _ <| br_f z' ⟨vr, vi, br_t w <| hY' _ <| nm_e <| oe_moveR hc hF i r s (by omega) (by omega) h4 (by rw [pk_sub (by omega), nI_add]; exact congrArg nI (by omega)) ⟨rfl, oe_R _ _ _ _ _ _ _ hc (oe_rotB hF)⟩⟩⟩
    · exact oe_plX hi hc <| br_f oe_10 <| hX _ <| br_f z' ⟨vr, vi, br_f w <| oe_plY hi hc <| br_f oe_10 <| hY _ <| br_f z' ⟨vr, vi, br_f w ⟨rfl, I'⟩⟩⟩
  · exact bX _ (br_t rfl (bY _ (br_t rfl ⟨rfl, I'⟩)))
theorem oe_mu37 {c : Nat} (hc : c ≤ 40) (m : Int32) (N L F kN kL kF : Nat → Int32) (hF : oe_B F) (i j r : Nat) (hi : i < c) (hj : j < c) (hE : oe_E L c i r) (hij : j < i ∨ r ≤ j) : ∃ q N' L' F' kN' kL' kF', oe_B F' ∧ (∀ post : Int32 → SX → Prop, post q (nI c, m, N', L', F') → wX_moveUnder_37 post (nI i) (nI j) (nI r) (nI c) m N L F) ∧ (∀ post : Int32 → SY → Prop, post q (nI c, m, N', L', F', kN', kL', kF') → wY_moveUnder_37 post (nI i) (nI j) (nI r) (nI c) m N L F kN kL kF) := by
  have h1 := hE.1
  have h2 := hE.2.1
  have vi := oe_in (n := i) (by omega)
  have vj := oe_in (n := j) (by omega)
  obtain ⟨d, dX, dY⟩ := oe_deep (nI c) m N L F kN kL kF i r (by omega) (by omega)
  by_cases z : d + (L (nI j).toNatClampNeg + 1 - L (nI i).toNatClampNeg) ≤ 7
  · obtain ⟨s, hS, hX, hY⟩ := oe_end hc m N L F kN kL kF j hj
    have h3 := hS.1
    have h4 := hS.2.1
    obtain ⟨L', sX, sY⟩ := oe_shift (nI c) m N L F kN kL kF i r (L (nI j).toNatClampNeg + 1 - L (nI i).toNatClampNeg) (by omega) (by omega)
    by_cases w : i < s
    · have w' : nI i < nI s := nI_lt w (by omega)
      have hrs : r ≤ s := by
        rcases hij with g | g
        · by_cases q : r ≤ s
          · exact q
          · exfalso
            have a1 : L j < L i := hS.2.2.1 i g w
            have a2 : L i < L s := hE.2.2.1 s w (by omega)
            exact hS.2.2.2 (by omega) (Int32.lt_trans a1 a2)
        · omega
      have e : nI s - (nI r - nI i) = nI (s - (r - i)) := by rw [pk_sub (by omega), pk_sub (by omega)]
      exact ⟨_, _, _, _, _, _, _, oe_rotB hF, fun post hp => ⟨vj, vi, nm_e <| dX _ <| br_t z <| hX _ <| sX _ <| br_t w' <| oe_exch hF i r s (by omega) hrs (by omega) hp⟩, fun post hp => ⟨vj, vi, nm_e <| dY _ <| br_t z <| nm_e <| hY _ <| br_t w' <| sY _ <| oe_moveR hc hF i r s (by omega) hrs h4 e hp⟩⟩
    · have w' : ¬ nI i < nI s := nI_nlt (by omega) (by omega)
      exact ⟨_, _, _, _, _, _, _, oe_rotB hF, fun post hp => ⟨vj, vi, nm_e <| dX _ <| br_t z <| hX _ <| sX _ <| br_f w' <| oe_exch hF s i r (by omega) (by omega) (by omega) hp⟩, fun post hp => ⟨vj, vi, nm_e <| dY _ <| br_t z <| nm_e <| hY _ <| br_f w' <| sY _ <| oe_moveL hc hF s i r (by omega) (by omega) h2 hp⟩⟩
  · exact ⟨_, _, _, _, _, _, _, hF, fun post hp => ⟨vj, vi, nm_e <| dX _ <| br_f z hp⟩, fun post hp => ⟨vj, vi, nm_e <| dY _ <| br_f z hp⟩⟩
theorem i_vc_moveUnder {k : Nat} {u : SX} {v : SY} (I : i_Rel k u v) (hk : k + 3 ≤ 1536) (v1 : Int32) (v2 : Int32) : wpX_moveUnder (fun r u' => wpY_moveUnder (fun r' v' => r' = r ∧ i_Rel (k + 3) u' v') v v1 v2) u v1 v2 := by
  have I' := I
  obtain ⟨c, m, N, L, F, kN, kL, kF, hc, hF, rfl, rfl⟩ := I
  unfold wpX_moveUnder wpY_moveUnder; dsimp only
  rcases oe_ix v1 hc m N L F kN kL kF with ⟨i, hi, rfl⟩ | ⟨bX, bY⟩
  · rcases oe_ix v2 hc m N L F kN kL kF with ⟨j, hj, rfl⟩ | ⟨bX, bY⟩
    · obtain ⟨r, hE, hX, hY⟩ := oe_end hc m N L F kN kL kF i hi
      have h1 := hE.1
      have h2 := hE.2.1
      by_cases z : j < i
      · have z' : nI j < nI i := nI_lt z (by omega)
        obtain ⟨q, N', L', F', kN', kL', kF', hB, mX, mY⟩ := oe_mu37 hc m N L F kN kL kF hF i j r hi hj hE (Or.inl z)
        exact oe_plX hi hc <| br_f oe_10 <| oe_plX hj hc <| br_f oe_10 <| hX _ <| br_t z' <| mX _ <| oe_plY hi hc <| br_f oe_10 <| oe_plY hj hc <| br_f oe_10 <| hY _ <| br_t z' <| mY _ ⟨rfl, oe_R _ _ _ _ _ _ _ hc hB⟩
      have z' : ¬ nI j < nI i := nI_nlt (by omega) (by omega)
      by_cases w : r ≤ j
      · have w' : nI r ≤ nI j := nI_le w (by omega)
        obtain ⟨q, N', L', F', kN', kL', kF', hB, mX, mY⟩ := oe_mu37 hc m N L F kN kL kF hF i j r hi hj hE (Or.inr w)
        exact oe_plX hi hc <| br_f oe_10 <| oe_plX hj hc <| br_f oe_10 <| hX _ <| br_f z' <| br_t w' <| mX _ <| oe_plY hi hc <| br_f oe_10 <| oe_plY hj hc <| br_f oe_10 <| hY _ <| br_f z' <| br_t w' <| mY _ ⟨rfl, oe_R _ _ _ _ _ _ _ hc hB⟩
      · have w' : ¬ nI r ≤ nI j := nI_ge (by omega) (by omega)
        exact oe_plX hi hc <| br_f oe_10 <| oe_plX hj hc <| br_f oe_10 <| hX _ <| br_f z' <| br_f w' <| oe_plY hi hc <| br_f oe_10 <| oe_plY hj hc <| br_f oe_10 <| hY _ <| br_f z' <| br_f w' ⟨rfl, I'⟩
    · exact oe_plX hi hc <| br_f oe_10 <| bX _ <| br_t rfl <| oe_plY hi hc <| br_f oe_10 <| bY _ <| br_t rfl ⟨rfl, I'⟩
  · exact bX _ (br_t rfl (bY _ (br_t rfl ⟨rfl, I'⟩)))
end
section
theorem oe_us {f : Nat → Int32} {k : Nat} {x : Int32} : upd f k x k = x := if_pos rfl
theorem oe_huX1 {c j : Nat} (hc : c ≤ 40) {m : Int32} {N L F : Nat → Int32} (h1 : j + 1 < c) (h2 : L j < L (j + 1)) {post : Int32 → Prop} (hp : post 1) : wpX_hasUnder post (nI c, m, N, L, F) (nI j) := by
  have vj := oe_in (n := j) (by omega)
  have cj := oe_cl (n := j) (by omega)
  have vk : vp_in (nI j + 1) 40 := by rw [nI_1]; exact oe_in (by omega)
  have ck : (nI j + 1).toNatClampNeg = j + 1 := by rw [nI_1]; exact oe_cl (by omega)
  exact br_f (by rw [nI_1]; exact nI_ge h1 (by omega)) ⟨vk, vj, br_f (by rw [cj, ck]; exact Int32.not_le.mpr h2) hp⟩
theorem oe_huX0 {c j : Nat} (hc : c ≤ 40) {m : Int32} {N L F : Nat → Int32} (hj : j < c) (h : ¬ (j + 1 < c ∧ L j < L (j + 1))) {post : Int32 → Prop} (hp : post 0) : wpX_hasUnder post (nI c, m, N, L, F) (nI j) := by
  have vj := oe_in (n := j) (by omega)
  have cj := oe_cl (n := j) (by omega)
  by_cases h1 : j + 1 < c
  · have vk : vp_in (nI j + 1) 40 := by rw [nI_1]; exact oe_in (by omega)
    have ck : (nI j + 1).toNatClampNeg = j + 1 := by rw [nI_1]; exact oe_cl (by omega)
    exact br_f (by rw [nI_1]; exact nI_ge h1 (by omega)) ⟨vk, vj, br_t (by rw [cj, ck]; exact Int32.not_lt.mp (fun q => h ⟨h1, q⟩)) hp⟩
  · exact br_t (by rw [nI_1]; exact nI_le (by omega) (by omega)) hp
theorem oe_fl14 {c : Nat} (hc : c ≤ 40) (m : Int32) (N L kN kL kF : Nat → Int32) (x : Int32) : ∀ (d j : Nat) (s : Int32) (F : Nat → Int32), j + d = c → oe_B F → ∃ q F', oe_B F' ∧ (∀ post : Int32 → SX → Prop, post q (nI c, m, N, L, F') → wX_foldLevel_14 post x (nI c) m (d + 1) s (nI j) N L F) ∧ (∀ post : Int32 → SY → Prop, post q (nI c, m, N, L, F', kN, kL, kF) → wY_foldLevel_16 post x (nI c) m (d + 1) s (nI j) N L F kN kL kF) := by
  intro d
  induction d with
  | zero =>
    intro j s F hj hF
    obtain rfl : j = c := by omega
    have h : nI j ≤ nI j := Int32.le_refl _
    exact ⟨s, F, hF, fun _ hp => br_t h hp, fun _ hp => br_t h hp⟩
  | succ d ih =>
    intro j s F hj hF
    have h : ¬ nI c ≤ nI j := nI_ge (by omega) (by omega)
    have vj := oe_in (n := j) (by omega)
    have cj := oe_cl (n := j) (by omega)
    have e0 : upd F (nI j).toNatClampNeg (vp_nar .boolean 0) = upd F j 0 := by rw [cj, oe_n0]
    have e1 : upd F (nI j).toNatClampNeg (vp_nar .boolean 1) = upd F j 1 := by rw [cj, oe_n1]
    have g0 : upd F j 0 (nI j).toNatClampNeg = 0 := by rw [cj, oe_us]
    have g1 : ¬ upd F j 1 (nI j).toNatClampNeg = 0 := by rw [cj, oe_us]; exact oe_10
    obtain ⟨q0, F0, hB0, X0, Y0⟩ := ih (j + 1) s (upd F j 0) (by omega) (oe_Bu hF j oe_n0)
    obtain ⟨q1, F1, hB1, X1, Y1⟩ := ih (j + 1) (s + 1) (upd F j 1) (by omega) (oe_Bu hF j oe_n1)
    by_cases z : L (nI j).toNatClampNeg = x
    · obtain ⟨r, hE, hX, hY⟩ := oe_end hc m N L F kN kL kF j (by omega)
      obtain ⟨a1, a2, a3, a4⟩ := hE
      by_cases g : j + 1 < c ∧ L j < L (j + 1)
      · have hr : ¬ nI r ≤ nI j + 1 := by
          rw [nI_1]
          refine nI_ge ?_ (by omega)
          by_cases e : r = j + 1
          · subst e
            exact absurd g.2 (a4 g.1)
          · omega
        exact ⟨q1, F1, hB1, fun post hp => br_f h ⟨vj, br_t z <| oe_huX1 hc g.1 g.2 <| br_f oe_10 ⟨vj, nm_r e1 ⟨vj, br_f g1 <| nm_e <| nm_r (nI_1 j) (X1 post hp)⟩⟩⟩, fun post hp => br_f h ⟨vj, br_t z <| hY _ <| br_f hr ⟨vj, nm_r e1 ⟨vj, br_f g1 <| nm_e <| nm_r (nI_1 j) (Y1 post hp)⟩⟩⟩⟩
      · have hr : nI r ≤ nI j + 1 := by
          rw [nI_1]
          refine nI_le ?_ (by omega)
          by_cases e : r ≤ j + 1
          · exact e
          · exact absurd ⟨by omega, a3 (j + 1) (by omega) (by omega)⟩ g
        exact ⟨q0, F0, hB0, fun post hp => br_f h ⟨vj, br_t z <| oe_huX0 hc (by omega) g <| br_t rfl ⟨vj, nm_r e0 ⟨vj, br_t g0 <| nm_r (nI_1 j) (X0 post hp)⟩⟩⟩, fun post hp => br_f h ⟨vj, br_t z <| hY _ <| br_t hr ⟨vj, nm_r e0 ⟨vj, br_t g0 <| nm_r (nI_1 j) (Y0 post hp)⟩⟩⟩⟩
    · exact ⟨q0, F0, hB0, fun post hp => br_f h ⟨vj, br_f z ⟨vj, nm_r e0 ⟨vj, br_t g0 <| nm_r (nI_1 j) (X0 post hp)⟩⟩⟩, fun post hp => br_f h ⟨vj, br_f z ⟨vj, nm_r e0 ⟨vj, br_t g0 <| nm_r (nI_1 j) (Y0 post hp)⟩⟩⟩⟩
theorem i_vc_foldLevel {k : Nat} {u : SX} {v : SY} (I : i_Rel k u v) (hk : k + 3 ≤ 1536) (v1 : Int32) : wpX_foldLevel (fun r u' => wpY_foldLevel (fun r' v' => r' = r ∧ i_Rel (k + 3) u' v') v v1) u v1 := by
  have I' := I
  obtain ⟨c, m, N, L, F, kN, kL, kF, hc, hF, rfl, rfl⟩ := I
  unfold wpX_foldLevel wpY_foldLevel; dsimp only
  by_cases h0 : v1 < 0
  · exact br_t h0 (br_t rfl (br_t h0 ⟨rfl, I'⟩))
  by_cases h7 : 7 < v1
  · exact br_f h0 (br_t h7 (br_t rfl (br_f h0 (br_f (Int32.not_le.mpr h7) ⟨rfl, I'⟩))))
  have g7 : v1 ≤ 7 := Int32.not_lt.mp h7
  obtain ⟨q, F', hB, hX, hY⟩ := oe_fl14 hc m N L kN kL kF v1 c 0 0 F (by omega) hF
  exact br_f h0 <| br_f h7 <| br_f oe_10 ⟨_, hX _ <| br_f h0 <| br_t g7 ⟨_, hY _ ⟨rfl, oe_R _ _ _ _ _ _ _ hc hB⟩⟩⟩
/-- i is under a -/
def oe_anc (L : Nat → Int32) (i a : Nat) : Prop := a < i ∧ ∀ j, a < j → j ≤ i → L a < L j
def oe_vis (L F : Nat → Int32) (i : Nat) : Prop := ∀ a, oe_anc L i a → F a = 0
/-- x is the least level from t to i -/
def oe_min (L : Nat → Int32) (i t : Nat) (x : Int32) : Prop := (∀ j, t ≤ j → j ≤ i → x ≤ L j) ∧ ∃ j, t ≤ j ∧ j ≤ i ∧ L j = x
theorem oe_minS {L : Nat → Int32} {i t : Nat} {x : Int32} (h : oe_min L i (t + 1) x) (z : x ≤ L t) : oe_min L i t x ∧ ¬ oe_anc L i t := by
  obtain ⟨h1, j, a, b, e⟩ := h
  refine ⟨⟨fun p h2 h3 => ?_, j, by omega, b, e⟩, fun q => ?_⟩
  · by_cases w : p = t
    · rw [w]; exact z
    · exact h1 p (by omega) h3
  · have := q.2 j (by omega) b
    rw [e] at this
    exact Int32.not_le.mpr this z
theorem oe_minT {L : Nat → Int32} {i t : Nat} {x : Int32} (ht : t < i) (h : oe_min L i (t + 1) x) (z : ¬ x ≤ L t) : oe_min L i t (L t) ∧ oe_anc L i t := by
  obtain ⟨h1, h2⟩ := h
  have z' := Int32.not_le.mp z
  have q : ∀ j, t < j → j ≤ i → L t < L j := fun j a b => Int32.lt_of_lt_of_le z' (h1 j (by omega) b)
  refine ⟨⟨fun p h2 h3 => ?_, t, by omega, by omega, rfl⟩, ht, q⟩
  by_cases w : p = t
  · rw [w]; exact Int32.le_refl _
  · exact Int32.le_of_lt (q p (by omega) h3)
theorem oe_min0 (L : Nat → Int32) (i : Nat) : oe_min L i i (L i) := by
  refine ⟨fun j a b => ?_, i, Nat.le_refl _, Nat.le_refl _, rfl⟩
  obtain rfl : j = i := by omega
  exact Int32.le_refl _
/-- where j's branch ends tells whether i is under j -/
theorem oe_ancE {L : Nat → Int32} {c i j r : Nat} (hj : j < i) (hi : i < c) (hE : oe_E L c j r) : (r ≤ i → ¬ oe_anc L i j) ∧ (¬ r ≤ i → oe_anc L i j) := by
  obtain ⟨a1, a2, a3, a4⟩ := hE
  exact ⟨fun h q => a4 (by omega) (q.2 r a1 h), fun h => ⟨hj, fun t b1 b2 => a3 t b1 (by omega)⟩⟩
theorem oe_vis11 {c : Nat} (hc : c ≤ 40) (m : Int32) (N L F : Nat → Int32) (i : Nat) (hi : i < c) (post : Int32 → Prop) (p1 : oe_vis L F i → post 1) (p0 : ¬ oe_vis L F i → post 0) : ∀ (t : Nat) (x y : Int32), y = nI t - 1 → t ≤ i → oe_min L i t x → (∀ a, t ≤ a → oe_anc L i a → F a = 0) → wX_isVisible_11 post (nI c) m N L F (t + 1) x y := by
  intro t
  induction t with
  | zero =>
    intro x y hy ht hM hv
    have h : y < 0 := by rw [hy]; exact oe_neg
    exact br_t h (p1 fun a ha => hv a (Nat.zero_le _) ha)
  | succ t ih =>
    intro x y hy ht hM hv
    rw [nI_pred] at hy
    subst hy
    have h : ¬ nI t < 0 := nI_pos (by omega)
    have vt := oe_in (n := t) (by omega)
    have ct := oe_cl (n := t) (by omega)
    by_cases z : x ≤ L t
    · obtain ⟨hM', na⟩ := oe_minS hM z
      refine br_f h ⟨vt, br_t (by rw [ct]; exact z) <| nm_r (oe_mm _) <| ih x _ rfl (by omega) hM' fun a h1 h2 => ?_⟩
      by_cases e : a = t
      · rw [e] at h2; exact absurd h2 na
      · exact hv a (by omega) h2
    · obtain ⟨hM', ya⟩ := oe_minT (by omega) hM z
      by_cases w : F t = 0
      · refine br_f h ⟨vt, br_f (by rw [ct]; exact z) ⟨vt, nm_r (by rw [ct]) ⟨vt, br_t (by rw [ct]; exact w) <| nm_r (oe_mm _) <| ih (L t) _ rfl (by omega) hM' fun a h1 h2 => ?_⟩⟩⟩
        by_cases e : a = t
        · rw [e]; exact w
        · exact hv a (by omega) h2
      · exact br_f h ⟨vt, br_f (by rw [ct]; exact z) ⟨vt, nm_r (by rw [ct]) ⟨vt, br_f (by rw [ct]; exact w) <| p0 fun q => w (q t ya)⟩⟩⟩
theorem oe_vis2 {c : Nat} (hc : c ≤ 40) (m : Int32) (N L F kN kL kF : Nat → Int32) (i : Nat) (hi : i < c) (post : Int32 → Prop) (p1 : oe_vis L F i → post 1) (p0 : ¬ oe_vis L F i → post 0) : ∀ d j : Nat, j + d = i → (∀ a, a < j → oe_anc L i a → F a = 0) → wY_isVisible_2 post (nI i) (nI c) m N L F kN kL kF (d + 1) (nI j) := by
  intro d
  induction d with
  | zero =>
    intro j hj hv
    obtain rfl : j = i := by omega
    exact br_t (Int32.le_refl _) (p1 fun a ha => hv a ha.1 ha)
  | succ d ih =>
    intro j hj hv
    have h : ¬ nI i ≤ nI j := nI_ge (by omega) (by omega)
    have vj := oe_in (n := j) (by omega)
    have cj := oe_cl (n := j) (by omega)
    by_cases w : F j = 0
    · refine br_f h ⟨vj, br_t (by rw [cj]; exact w) <| nm_r (nI_1 j) <| ih (j + 1) (by omega) fun a h1 h2 => ?_⟩
      by_cases e : a = j
      · rw [e]; exact w
      · exact hv a (by omega) h2
    · obtain ⟨r, hE, hX, hY⟩ := oe_end hc m N L F kN kL kF j (by omega)
      have hA := oe_ancE (i := i) (by omega) hi hE
      have h2 := hE.2.1
      by_cases z : r ≤ i
      · refine br_f h ⟨vj, br_f (by rw [cj]; exact w) <| hY _ <| br_t (nI_le z (by omega)) <| nm_r (nI_1 j) <| ih (j + 1) (by omega) fun a h1 h2 => ?_⟩
        by_cases e : a = j
        · rw [e] at h2; exact absurd h2 (hA.1 z)
        · exact hv a (by omega) h2
      · exact br_f h ⟨vj, br_f (by rw [cj]; exact w) <| hY _ <| br_f (nI_ge (by omega) (by omega)) <| p0 fun q => w (q j (hA.2 z))⟩
theorem oe_visB {c : Nat} (hc : c ≤ 40) (m : Int32) (N L F kN kL kF : Nat → Int32) (i : Nat) (hi : i < c) : ∃ r, (∀ post : Int32 → Prop, post r → wpX_isVisible post (nI c, m, N, L, F) (nI i)) ∧ (∀ post : Int32 → Prop, post r → wpY_isVisible post (nI c, m, N, L, F, kN, kL, kF) (nI i)) := by
  have vi := oe_in (n := i) (by omega)
  have ci := oe_cl (n := i) (by omega)
  by_cases q : oe_vis L F i
  · exact ⟨1, fun post hp => ⟨vi, nm_r (by rw [ci]) <| nm_e ⟨_, oe_vis11 hc m N L F i hi post (fun _ => hp) (fun z => absurd q z) i (L i) _ rfl (Nat.le_refl _) (oe_min0 L i) fun a h1 h2 => q a h2⟩⟩, fun post hp => ⟨_, oe_vis2 hc m N L F kN kL kF i hi post (fun _ => hp) (fun z => absurd q z) i 0 (by omega) fun a h1 h2 => q a h2⟩⟩
  · exact ⟨0, fun post hp => ⟨vi, nm_r (by rw [ci]) <| nm_e ⟨_, oe_vis11 hc m N L F i hi post (fun z => absurd z q) (fun _ => hp) i (L i) _ rfl (Nat.le_refl _) (oe_min0 L i) fun a h1 h2 => absurd h2.1 (by omega)⟩⟩, fun post hp => ⟨_, oe_vis2 hc m N L F kN kL kF i hi post (fun z => absurd z q) (fun _ => hp) i 0 (by omega) fun a h1 h2 => absurd h1 (by omega)⟩⟩
theorem oe_vb25 {c : Nat} (hc : c ≤ 40) (m : Int32) (N L F kN kL kF : Nat → Int32) (e : Nat) (he : e ≤ c) : ∀ (d j : Nat) (s : Int32), j + d = e → ∃ r, (∀ post : Int32 → Prop, post r → wX_visibleBefore_4 post (nI e) (nI c) m N L F (d + 1) s (nI j)) ∧ (∀ post : Int32 → Prop, post r → wY_rowOf_25 post (nI e) (nI c) m N L F kN kL kF (d + 1) s (nI j)) := by
  intro d
  induction d with
  | zero =>
    intro j s hj
    obtain rfl : j = e := by omega
    have h : nI j ≤ nI j := Int32.le_refl _
    exact ⟨s, fun _ hp => br_t h hp, fun _ hp => br_t h hp⟩
  | succ d ih =>
    intro j s hj
    have h : ¬ nI e ≤ nI j := nI_ge (by omega) (by omega)
    obtain ⟨b, bX, bY⟩ := oe_visB hc m N L F kN kL kF j (by omega)
    by_cases z : b = 0
    · obtain ⟨r, hX, hY⟩ := ih (j + 1) s (by omega)
      exact ⟨r, fun post hp => br_f h <| bX _ <| br_t z <| nm_r (nI_1 j) (hX post hp), fun post hp => br_f h <| bY _ <| br_t z <| nm_r (nI_1 j) (hY post hp)⟩
    · obtain ⟨r, hX, hY⟩ := ih (j + 1) (s + 1) (by omega)
      exact ⟨r, fun post hp => br_f h <| bX _ <| br_f z <| nm_e <| nm_r (nI_1 j) (hX post hp), fun post hp => br_f h <| bY _ <| br_f z <| nm_e <| nm_r (nI_1 j) (hY post hp)⟩
theorem oe_vb4 {c : Nat} (hc : c ≤ 40) (m : Int32) (N L F kN kL kF : Nat → Int32) : ∀ (d j : Nat) (s : Int32), j + d = c → ∃ r, (∀ post : Int32 → Prop, post r → wX_visibleBefore_4 post (nI c) (nI c) m N L F (d + 1) s (nI j)) ∧ (∀ post : Int32 → Prop, post r → wY_rows_4 post (nI c) m N L F kN kL kF (d + 1) s (nI j)) := by
  intro d
  induction d with
  | zero =>
    intro j s hj
    obtain rfl : j = c := by omega
    have h : nI j ≤ nI j := Int32.le_refl _
    exact ⟨s, fun _ hp => br_t h hp, fun _ hp => br_t h hp⟩
  | succ d ih =>
    intro j s hj
    have h : ¬ nI c ≤ nI j := nI_ge (by omega) (by omega)
    obtain ⟨b, bX, bY⟩ := oe_visB hc m N L F kN kL kF j (by omega)
    by_cases z : b = 0
    · obtain ⟨r, hX, hY⟩ := ih (j + 1) s (by omega)
      exact ⟨r, fun post hp => br_f h <| bX _ <| br_t z <| nm_r (nI_1 j) (hX post hp), fun post hp => br_f h <| bY _ <| br_t z <| nm_r (nI_1 j) (hY post hp)⟩
    · obtain ⟨r, hX, hY⟩ := ih (j + 1) (s + 1) (by omega)
      exact ⟨r, fun post hp => br_f h <| bX _ <| br_f z <| nm_e <| nm_r (nI_1 j) (hX post hp), fun post hp => br_f h <| bY _ <| br_f z <| nm_e <| nm_r (nI_1 j) (hY post hp)⟩
theorem oe_row4 {c : Nat} (hc : c ≤ 40) (m : Int32) (N L F kN kL kF : Nat → Int32) (x : Int32) : ∀ (d j : Nat) (s : Int32), j + d = c → ∃ r, (∀ post : Int32 → Prop, post r → wX_row_4 post x (nI c) m N L F (d + 1) s (nI j)) ∧ (∀ post : Int32 → Prop, post r → wY_row_4 post x (nI c) m N L F kN kL kF (d + 1) s (nI j)) := by
  intro d
  induction d with
  | zero =>
    intro j s hj
    obtain rfl : j = c := by omega
    have h : nI j ≤ nI j := Int32.le_refl _
    exact ⟨-4, fun _ hp => br_t h hp, fun _ hp => br_t h hp⟩
  | succ d ih =>
    intro j s hj
    have h : ¬ nI c ≤ nI j := nI_ge (by omega) (by omega)
    obtain ⟨b, bX, bY⟩ := oe_visB hc m N L F kN kL kF j (by omega)
    by_cases z : b = 0
    · obtain ⟨r, hX, hY⟩ := ih (j + 1) s (by omega)
      exact ⟨r, fun post hp => br_f h <| bX _ <| br_t z <| nm_r (nI_1 j) (hX post hp), fun post hp => br_f h <| bY _ <| br_t z <| nm_r (nI_1 j) (hY post hp)⟩
    · by_cases w : s = x
      · exact ⟨nI j, fun post hp => br_f h <| bX _ <| br_f z <| br_t w hp, fun post hp => br_f h <| bY _ <| br_f z <| br_t w hp⟩
      · obtain ⟨r, hX, hY⟩ := ih (j + 1) (s + 1) (by omega)
        exact ⟨r, fun post hp => br_f h <| bX _ <| br_f z <| br_f w <| nm_e <| nm_r (nI_1 j) (hX post hp), fun post hp => br_f h <| bY _ <| br_f z <| br_f w <| nm_e <| nm_r (nI_1 j) (hY post hp)⟩
theorem i_vc_rows {k : Nat} {u : SX} {v : SY} (I : i_Rel k u v) (hk : k + 3 ≤ 1536) : wpX_rows (fun r => wpY_rows (fun r' => r' = r ∧ i_Rel (k + 3) u v) v) u := by
  have I' := I
  obtain ⟨c, m, N, L, F, kN, kL, kF, hc, hF, rfl, rfl⟩ := I
  unfold wpX_rows wpY_rows; dsimp only
  obtain ⟨r, hX, hY⟩ := oe_vb4 hc m N L F kN kL kF c 0 0 (by omega)
  exact ⟨_, hX _ ⟨_, hY _ ⟨rfl, I'⟩⟩⟩
theorem i_vc_row {k : Nat} {u : SX} {v : SY} (I : i_Rel k u v) (hk : k + 3 ≤ 1536) (v1 : Int32) : wpX_row (fun r => wpY_row (fun r' => r' = r ∧ i_Rel (k + 3) u v) v v1) u v1 := by
  have I' := I
  obtain ⟨c, m, N, L, F, kN, kL, kF, hc, hF, rfl, rfl⟩ := I
  obtain ⟨r, hX, hY⟩ := oe_row4 hc m N L F kN kL kF v1 c 0 0 (by omega)
  exact ⟨_, hX _ ⟨_, hY _ ⟨rfl, I'⟩⟩⟩
theorem i_vc_rowOf {k : Nat} {u : SX} {v : SY} (I : i_Rel k u v) (hk : k + 3 ≤ 1536) (v1 : Int32) : wpX_rowOf (fun r => wpY_rowOf (fun r' => r' = r ∧ i_Rel (k + 3) u v) v v1) u v1 := by
  have I' := I
  obtain ⟨c, m, N, L, F, kN, kL, kF, hc, hF, rfl, rfl⟩ := I
  unfold wpX_rowOf wpY_rowOf; dsimp only
  rcases oe_ix v1 hc m N L F kN kL kF with ⟨i, hi, rfl⟩ | ⟨bX, bY⟩
  · obtain ⟨b, bX, bY⟩ := oe_visB hc m N L F kN kL kF i hi
    by_cases z : b = 0
    · exact oe_plX hi hc <| br_f oe_10 <| bX _ <| br_t z <| oe_plY hi hc <| br_f oe_10 <| bY _ <| br_t z ⟨rfl, I'⟩
    · obtain ⟨r, hX, hY⟩ := oe_vb25 hc m N L F kN kL kF i (by omega) i 0 0 (by omega)
      exact oe_plX hi hc <| br_f oe_10 <| bX _ <| br_f z ⟨_, hX _ <| oe_plY hi hc <| br_f oe_10 <| bY _ <| br_f z ⟨_, hY _ ⟨rfl, I'⟩⟩⟩
  · exact bX _ (br_t rfl (bY _ (br_t rfl ⟨rfl, I'⟩)))
end
section
noncomputable def oe_ct (P : Nat → Prop) : Nat → Nat
  | 0 => 0
  | n + 1 => oe_ct P n + @ite Nat (P n) (Classical.propDecidable _) 1 0
theorem oe_ctT {P : Nat → Prop} {n : Nat} (h : P n) : oe_ct P (n + 1) = oe_ct P n + 1 := by
  rw [oe_ct, if_pos h]
theorem oe_ctF {P : Nat → Prop} {n : Nat} (h : ¬ P n) : oe_ct P (n + 1) = oe_ct P n := by
  rw [oe_ct, if_neg h, Nat.add_zero]
/-- the folds, those at the places of Q taken away -/
noncomputable def oe_cf (Q : Nat → Prop) (F : Nat → Int32) : Nat → Int32 := fun p => @ite Int32 (Q p) (Classical.propDecidable _) 0 (F p)
theorem oe_cfT {Q : Nat → Prop} {F : Nat → Int32} {p : Nat} (h : Q p) : oe_cf Q F p = 0 := if_pos h
theorem oe_cfF {Q : Nat → Prop} {F : Nat → Int32} {p : Nat} (h : ¬ Q p) : oe_cf Q F p = F p := if_neg h
theorem oe_cfE {Q Q' : Nat → Prop} {F : Nat → Int32} (h : ∀ p, Q p ↔ Q' p) : oe_cf Q F = oe_cf Q' F := by
  rw [show Q = Q' from funext fun p => propext (h p)]
theorem oe_cfB {Q : Nat → Prop} {F : Nat → Int32} (hF : oe_B F) : oe_B (oe_cf Q F) := by
  intro p
  by_cases h : Q p
  · rw [oe_cfT h]; exact oe_n0
  · rw [oe_cfF h]; exact hF p
/-- one place more, that was not folded -/
theorem oe_cf0 {Q Q' : Nat → Prop} {F : Nat → Int32} (t : Nat) (h : ∀ p, p ≠ t → (Q p ↔ Q' p)) (hQ : ¬ Q t) (h0 : F t = 0) : oe_cf Q F = oe_cf Q' F := by
  funext p
  by_cases e : p = t
  · subst e
    rw [oe_cfF hQ]
    by_cases q : Q' p
    · rw [oe_cfT q, h0]
    · rw [oe_cfF q]
  · by_cases q : Q p
    · rw [oe_cfT q, oe_cfT ((h p e).mp q)]
    · rw [oe_cfF q, oe_cfF fun z => q ((h p e).mpr z)]
/-- one place more, written -/
theorem oe_cfU {Q Q' : Nat → Prop} {F : Nat → Int32} (t : Nat) (h : ∀ p, p ≠ t → (Q p ↔ Q' p)) (hQ : Q' t) : upd (oe_cf Q F) t 0 = oe_cf Q' F := by
  funext p
  by_cases e : p = t
  · subst e
    rw [oe_cfT hQ]
    exact if_pos rfl
  · rw [show upd (oe_cf Q F) t 0 p = oe_cf Q F p from if_neg e]
    by_cases q : Q p
    · rw [oe_cfT q, oe_cfT ((h p e).mp q)]
    · rw [oe_cfF q, oe_cfF fun z => q ((h p e).mpr z)]
theorem oe_rvl24 {c : Nat} (hc : c ≤ 40) (m : Int32) (N L F : Nat → Int32) (i : Nat) (hi : i < c) (post : Int32 → SX → Prop) (hp : post (nI (oe_ct (fun a => oe_anc L i a ∧ ¬ F a = 0) i)) (nI c, m, N, L, oe_cf (fun p => oe_anc L i p) F)) : ∀ (t s : Nat) (x y : Int32), y = nI t - 1 → t ≤ i → s + oe_ct (fun a => oe_anc L i a ∧ ¬ F a = 0) t = oe_ct (fun a => oe_anc L i a ∧ ¬ F a = 0) i → oe_min L i t x → wX_reveal_24 post (nI c) m (t + 1) (nI s) x y N L (oe_cf (fun p => t ≤ p ∧ oe_anc L i p) F) := by
  intro t
  induction t with
  | zero =>
    intro s x y hy ht hs hM
    have h : y < 0 := by rw [hy]; exact oe_neg
    have e : s = oe_ct (fun a => oe_anc L i a ∧ ¬ F a = 0) i := by rw [← hs]; rfl
    rw [oe_cfE (Q := fun p => 0 ≤ p ∧ oe_anc L i p) (Q' := fun p => oe_anc L i p) (fun p => ⟨fun q => q.2, fun q => ⟨Nat.zero_le _, q⟩⟩), e]
    exact br_t h hp
  | succ t ih =>
    intro s x y hy ht hs hM
    rw [nI_pred] at hy
    subst hy
    have h : ¬ nI t < 0 := nI_pos (by omega)
    have vt := oe_in (n := t) (by omega)
    have ct := oe_cl (n := t) (by omega)
    have hQ : ∀ p, p ≠ t → (t + 1 ≤ p ∧ oe_anc L i p ↔ t ≤ p ∧ oe_anc L i p) := fun p hp => ⟨fun q => ⟨by omega, q.2⟩, fun q => ⟨by have := q.1; omega, q.2⟩⟩
    by_cases z : x ≤ L t
    · obtain ⟨hM', na⟩ := oe_minS hM z
      rw [oe_ctF (fun q => na q.1)] at hs
      have H := ih s x _ rfl (by omega) hs hM'
      rw [← oe_cfE (Q := fun p => t + 1 ≤ p ∧ oe_anc L i p) (fun p => by
        by_cases e : p = t
        · subst e
          exact ⟨fun q => absurd q.2 na, fun q => absurd q.2 na⟩
        · exact hQ p e)] at H
      exact br_f h ⟨vt, br_t (by rw [ct]; exact z) <| nm_r (oe_mm _) H⟩
    · obtain ⟨hM', ya⟩ := oe_minT (by omega) hM z
      have eF : oe_cf (fun p => t + 1 ≤ p ∧ oe_anc L i p) F (nI t).toNatClampNeg = F t := by
        rw [ct]; exact oe_cfF fun q => absurd q.1 (by omega)
      by_cases w : F t = 0
      · rw [oe_ctF (fun q => q.2 w)] at hs
        have H := ih s (L t) _ rfl (by omega) hs hM'
        rw [← oe_cf0 (Q := fun p => t + 1 ≤ p ∧ oe_anc L i p) t hQ (fun q => absurd q.1 (by omega)) w] at H
        exact br_f h ⟨vt, br_f (by rw [ct]; exact z) ⟨vt, nm_r (by rw [ct]) ⟨vt, br_t (by rw [eF]; exact w) <| nm_r (oe_mm _) H⟩⟩⟩
      · rw [oe_ctT (P := fun a => oe_anc L i a ∧ ¬ F a = 0) ⟨ya, w⟩] at hs
        have H := ih (s + 1) (L t) _ rfl (by omega) (by omega) hM'
        rw [← oe_cfU (Q := fun p => t + 1 ≤ p ∧ oe_anc L i p) (Q' := fun p => t ≤ p ∧ oe_anc L i p) t hQ ⟨Nat.le_refl _, ya⟩] at H
        exact br_f h ⟨vt, br_f (by rw [ct]; exact z) ⟨vt, nm_r (by rw [ct]) ⟨vt, br_f (by rw [eF]; exact w) ⟨vt, nm_r (by rw [ct, oe_n0]) <| nm_r (nI_1 s) <| nm_r (oe_mm _) H⟩⟩⟩⟩
theorem oe_rvl14 {c : Nat} (hc : c ≤ 40) (m : Int32) (N L F kN kL kF : Nat → Int32) (i : Nat) (hi : i < c) (post : Int32 → SY → Prop) (hp : post (nI (oe_ct (fun a => oe_anc L i a ∧ ¬ F a = 0) i)) (nI c, m, N, L, oe_cf (fun p => oe_anc L i p) F, kN, kL, kF)) : ∀ d j : Nat, j + d = i → wY_reveal_14 post (nI i) (nI c) m (d + 1) (nI (oe_ct (fun a => oe_anc L i a ∧ ¬ F a = 0) j)) (nI j) N L (oe_cf (fun p => p < j ∧ oe_anc L i p) F) kN kL kF := by
  intro d
  induction d with
  | zero =>
    intro j hj
    obtain rfl : j = i := by omega
    rw [oe_cfE (Q := fun p => p < j ∧ oe_anc L j p) (Q' := fun p => oe_anc L j p) (fun p => ⟨fun q => q.2, fun q => ⟨q.1, q⟩⟩)]
    exact br_t (Int32.le_refl _) hp
  | succ d ih =>
    intro j hj
    have h : ¬ nI i ≤ nI j := nI_ge (by omega) (by omega)
    have vj := oe_in (n := j) (by omega)
    have cj := oe_cl (n := j) (by omega)
    have hQ : ∀ p, p ≠ j → (p < j ∧ oe_anc L i p ↔ p < j + 1 ∧ oe_anc L i p) := fun p hp => ⟨fun q => ⟨by have := q.1; omega, q.2⟩, fun q => ⟨by have := q.1; omega, q.2⟩⟩
    have H := ih (j + 1) (by omega)
    obtain ⟨r, hE, hX, hY⟩ := oe_end hc m N L (oe_cf (fun p => p < j ∧ oe_anc L i p) F) kN kL kF j (by omega)
    have hA := oe_ancE (i := i) (by omega) hi hE
    have h2 := hE.2.1
    by_cases z : r ≤ i
    · have na := hA.1 z
      rw [oe_ctF (fun q => na q.1), ← oe_cfE (Q := fun p => p < j ∧ oe_anc L i p) (fun p => by
        by_cases e : p = j
        · subst e
          exact ⟨fun q => absurd q.2 na, fun q => absurd q.2 na⟩
        · exact hQ p e)] at H
      exact br_f h <| hY _ <| br_t (nI_le z (by omega)) <| nm_r (nI_1 j) H
    · have ya := hA.2 z
      have z' : ¬ nI r ≤ nI i := nI_ge (by omega) (by omega)
      have eF : oe_cf (fun p => p < j ∧ oe_anc L i p) F (nI j).toNatClampNeg = F j := by
        rw [cj]; exact oe_cfF fun q => absurd q.1 (by omega)
      by_cases w : F j = 0
      · rw [oe_ctF (fun q => q.2 w), ← oe_cf0 (Q := fun p => p < j ∧ oe_anc L i p) j hQ (fun q => absurd q.1 (by omega)) w] at H
        exact br_f h <| hY _ <| br_f z' ⟨vj, br_t (by rw [eF]; exact w) <| nm_r (nI_1 j) H⟩
      · rw [oe_ctT (P := fun a => oe_anc L i a ∧ ¬ F a = 0) ⟨ya, w⟩, ← oe_cfU (Q := fun p => p < j ∧ oe_anc L i p) (Q' := fun p => p < j + 1 ∧ oe_anc L i p) j hQ ⟨Nat.lt_succ_self _, ya⟩] at H
        exact br_f h <| hY _ <| br_f z' ⟨vj, br_f (by rw [eF]; exact w) ⟨vj, nm_r (by rw [cj, oe_n0]) <| nm_r (nI_1 _) <| nm_r (nI_1 j) H⟩⟩
theorem i_vc_reveal {k : Nat} {u : SX} {v : SY} (I : i_Rel k u v) (hk : k + 3 ≤ 1536) (v1 : Int32) : wpX_reveal (fun r u' => wpY_reveal (fun r' v' => r' = r ∧ i_Rel (k + 3) u' v') v v1) u v1 := by
  have I' := I
  obtain ⟨c, m, N, L, F, kN, kL, kF, hc, hF, rfl, rfl⟩ := I
  unfold wpX_reveal wpY_reveal; dsimp only
  rcases oe_ix v1 hc m N L F kN kL kF with ⟨i, hi, rfl⟩ | ⟨bX, bY⟩
  · have vi := oe_in (n := i) (by omega)
    have ci := oe_cl (n := i) (by omega)
    have eX : oe_cf (fun p => i ≤ p ∧ oe_anc L i p) F = F := by
      funext p
      exact oe_cfF fun q => absurd q.2.1 (by have := q.1; omega)
    have eY : oe_cf (fun p => p < 0 ∧ oe_anc L i p) F = F := by
      funext p
      exact oe_cfF fun q => absurd q.1 (by omega)
    have HX := fun post hp => oe_rvl24 hc m N L F i hi post hp i 0 (L i) _ rfl (Nat.le_refl _) (by omega) (oe_min0 L i)
    have HY := fun post hp => oe_rvl14 hc m N L F kN kL kF i hi post hp i 0 (by omega)
    rw [eX] at HX
    rw [eY] at HY
    exact oe_plX hi hc <| br_f oe_10 ⟨vi, nm_r (by rw [ci]) <| nm_e ⟨_, HX _ <| oe_plY hi hc <| br_f oe_10 ⟨_, HY _ ⟨rfl, oe_R _ _ _ _ _ _ _ hc (oe_cfB hF)⟩⟩⟩⟩
  · exact bX _ (br_t rfl (bY _ (br_t rfl ⟨rfl, I'⟩)))
end
