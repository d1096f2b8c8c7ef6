/-- r is where i's branch ends -/
def oe_E (L : Nat → Int32) (c i r : Nat) : Prop := i < r ∧ r ≤ c ∧ (∀ j, i < j → j < r → L i < L j) ∧ (r < c → ¬ L i < L r)
theorem oe_end4 {c : Nat} (hc : c ≤ 40) (m : Int32) (N L F kN kL kF : Nat → Int32) (i : Nat) (hi : i < c) : ∀ d j : Nat, j + d = c → i < j → (∀ t, i < t → t < j → L i < L t) → ∃ r, oe_E L c i r ∧ (∀ post : Int32 → Prop, post (nI r) → wX_branchEnd_4 post (nI i) (nI c) m N L F (d + 1) (nI j)) ∧ (∀ post : Int32 → Prop, post (nI r) → wY_endOf_4 post (nI i) (nI c) m N L F kN kL kF (d + 1) (nI j)) := by
  intro d
  induction d with
  | zero =>
    intro j hj hij hall
    obtain rfl : j = c := by omega
    have h : nI j ≤ nI j := Int32.le_refl _
    exact ⟨j, ⟨hij, Nat.le_refl _, hall, fun z => absurd z (by omega)⟩, fun _ hp => br_t h hp, fun _ hp => br_t h hp⟩
  | succ d ih =>
    intro j hj hij hall
    have h : ¬ nI c ≤ nI j := nI_ge (by omega) (by omega)
    have vi := oe_in (n := i) (by omega)
    have vj := oe_in (n := j) (by omega)
    have ci := oe_cl (n := i) (by omega)
    have cj := oe_cl (n := j) (by omega)
    by_cases z : L i < L j
    · obtain ⟨r, hE, hX, hY⟩ := ih (j + 1) (by omega) (by omega) (fun t h1 h2 => by
        by_cases e : t = j
        · rw [e]; exact z
        · exact hall t h1 (by omega))
      refine ⟨r, hE, fun post hp => br_f h ⟨vj, vi, br_t (by rw [ci, cj]; exact z) fun y ey => ?_⟩, fun post hp => br_f h ⟨vj, vi, br_f (by rw [ci, cj]; exact Int32.not_le.mpr z) fun y ey => ?_⟩⟩
      · rw [ey, nI_1]; exact hX post hp
      · rw [ey, nI_1]; exact hY post hp
    · exact ⟨j, ⟨hij, by omega, hall, fun _ => z⟩, fun post hp => br_f h ⟨vj, vi, br_f (by rw [ci, cj]; exact z) hp⟩, fun post hp => br_f h ⟨vj, vi, br_t (by rw [ci, cj]; exact Int32.not_lt.mp z) hp⟩⟩
theorem oe_end {c : Nat} (hc : c ≤ 40) (m : Int32) (N L F kN kL kF : Nat → Int32) (i : Nat) (hi : i < c) : ∃ r, oe_E L c i r ∧ (∀ post : Int32 → Prop, post (nI r) → wpX_branchEnd post (nI c, m, N, L, F) (nI i)) ∧ (∀ post : Int32 → Prop, post (nI r) → wpY_endOf post (nI c, m, N, L, F, kN, kL, kF) (nI i)) := by
  obtain ⟨r, hE, hX, hY⟩ := oe_end4 hc m N L F kN kL kF i hi (c - (i + 1)) (i + 1) (by omega) (by omega) (fun t h1 h2 => absurd h1 (by omega))
  exact ⟨r, hE, fun post hp => nm_r (nI_1 i) ⟨_, hX post hp⟩, fun post hp => nm_r (nI_1 i) ⟨_, hY post hp⟩⟩
theorem oe_deep5 {c : Nat} (cc m : Int32) (N L F kN kL kF : Nat → Int32) (e : Nat) (he : e ≤ 40) : ∀ (d j : Nat) (x : Int32), j + d = e → ∃ r, (∀ post : Int32 → Prop, post r → wX_deepestLevel_5 post (nI e) cc m N L F (d + 1) x (nI j)) ∧ (∀ post : Int32 → Prop, post r → wY_deepest_5 post (nI e) cc m N L F kN kL kF (d + 1) x (nI j)) := by
  intro d
  induction d with
  | zero =>
    intro j x hj
    obtain rfl : j = e := by omega
    have h : nI j ≤ nI j := Int32.le_refl _
    exact ⟨x, fun _ hp => br_t h hp, fun _ hp => br_t h hp⟩
  | succ d ih =>
    intro j x hj
    have h : ¬ nI e ≤ nI j := nI_ge (by omega) (by omega)
    have vj := oe_in (n := j) (by omega)
    have cj := oe_cl (n := j) (by omega)
    by_cases z : L j ≤ x
    · obtain ⟨r, hX, hY⟩ := ih (j + 1) x (by omega)
      exact ⟨r, fun post hp => br_f h ⟨vj, br_t (by rw [cj]; exact z) (nm_r (nI_1 j) (hX post hp))⟩, fun post hp => br_f h ⟨vj, br_t (by rw [cj]; exact z) (nm_r (nI_1 j) (hY post hp))⟩⟩
    · obtain ⟨r, hX, hY⟩ := ih (j + 1) (L j) (by omega)
      exact ⟨r, fun post hp => br_f h ⟨vj, br_f (by rw [cj]; exact z) ⟨vj, nm_r (by rw [cj]) (nm_r (nI_1 j) (hX post hp))⟩⟩, fun post hp => br_f h ⟨vj, br_f (by rw [cj]; exact z) ⟨vj, nm_r (by rw [cj]) (nm_r (nI_1 j) (hY post hp))⟩⟩⟩
theorem oe_deep (cc m : Int32) (N L F kN kL kF : Nat → Int32) (a e : Nat) (ha : a ≤ e) (he : e ≤ 40) : ∃ r, (∀ post : Int32 → Prop, post r → wpX_deepestLevel post (cc, m, N, L, F) (nI a) (nI e)) ∧ (∀ post : Int32 → Prop, post r → wpY_deepest post (cc, m, N, L, F, kN, kL, kF) (nI a) (nI e)) := by
  obtain ⟨r, hX, hY⟩ := oe_deep5 (c := 0) cc m N L F kN kL kF e he (e - a) a 0 (by omega)
  exact ⟨r, fun post hp => ⟨_, hX post hp⟩, fun post hp => ⟨_, hY post hp⟩⟩
theorem oe_shift3 (cc m : Int32) (N F kN kL kF : Nat → Int32) (e : Nat) (x : Int32) (he : e ≤ 40) : ∀ (d j : Nat) (L : Nat → Int32), j + d = e → ∃ L', (∀ post : SX → Prop, post (cc, m, N, L', F) → wX_shiftLevels_3 post (nI e) x cc m (d + 1) (nI j) N L F) ∧ (∀ post : SY → Prop, post (cc, m, N, L', F, kN, kL, kF) → wY_addLevels_3 post (nI e) x cc m (d + 1) (nI j) N L F kN kL kF) := by
  intro d
  induction d with
  | zero =>
    intro j L hj
    obtain rfl : j = e := by omega
    have h : nI j ≤ nI j := Int32.le_refl _
    exact ⟨L, fun _ hp => br_t h hp, fun _ hp => br_t h hp⟩
  | succ d ih =>
    intro j L hj
    have h : ¬ nI e ≤ nI j := nI_ge (by omega) (by omega)
    have vj := oe_in (n := j) (by omega)
    have cj := oe_cl (n := j) (by omega)
    obtain ⟨L', hX, hY⟩ := ih (j + 1) (upd L j (L j + x)) (by omega)
    exact ⟨L', fun post hp => br_f h ⟨vj, vj, nm_r (by rw [cj]) (nm_r (nI_1 j) (hX post hp))⟩, fun post hp => br_f h ⟨vj, vj, nm_r (by rw [cj]) (nm_r (nI_1 j) (hY post hp))⟩⟩
theorem oe_shift (cc m : Int32) (N L F kN kL kF : Nat → Int32) (a e : Nat) (x : Int32) (ha : a ≤ e) (he : e ≤ 40) : ∃ L', (∀ post : SX → Prop, post (cc, m, N, L', F) → wpX_shiftLevels post (cc, m, N, L, F) (nI a) (nI e) x) ∧ (∀ post : SY → Prop, post (cc, m, N, L', F, kN, kL, kF) → wpY_addLevels post (cc, m, N, L, F, kN, kL, kF) (nI a) (nI e) x) := by
  obtain ⟨L', hX, hY⟩ := oe_shift3 cc m N F kN kL kF e x he (e - a) a L (by omega)
  exact ⟨L', fun post hp => ⟨_, hX post hp⟩, fun post hp => ⟨_, hY post hp⟩⟩
theorem oe_ins5 {c : Nat} (hc : c < 40) (m : Int32) (kN kL kF : Nat → Int32) (a : Nat) (lv : Int32) (ha : a ≤ c) : ∀ (d : Nat) (N L F : Nat → Int32), a + d ≤ c → oe_B F → ∃ N' L' F', oe_B F' ∧ (∀ post : Int32 → SX → Prop, post m (nI (c + 1), m + 1, N', L', F') → wX_insert_5 post (nI a) lv (d + 1) (nI (a + d)) (nI c) m N L F) ∧ (∀ post : Int32 → SY → Prop, post m (nI (c + 1), m + 1, N', L', F', kN, kL, kF) → wY_insert_5 post (nI a) lv (d + 1) (nI (a + d)) (nI c) m N L F kN kL kF) := by
  intro d
  induction d with
  | zero =>
    intro N L F hd hF
    have h : nI (a + 0) ≤ nI a := Int32.le_refl _
    have va := oe_in (n := a) (by omega)
    have ca := oe_cl (n := a) (by omega)
    refine ⟨upd N a m, upd L a lv, upd F a 0, oe_Bu hF a oe_n0, fun post hp => br_t h ⟨va, nm_r (by rw [ca]) ⟨va, nm_r (by rw [ca]) ⟨va, nm_r (by rw [ca, oe_n0]) (nm_r (nI_1 c) (nm_e hp))⟩⟩⟩, fun post hp => br_t h ⟨va, nm_r (by rw [ca]) ⟨va, nm_r (by rw [ca]) ⟨va, nm_r (by rw [ca, oe_n0]) (nm_r (nI_1 c) (nm_e ?_))⟩⟩⟩⟩
    rw [oe_pm]
    exact hp
  | succ d ih =>
    intro N L F hd hF
    have h : ¬ nI (a + (d + 1)) ≤ nI a := nI_ge (by omega) (by omega)
    obtain ⟨N', L', F', hB, hX, hY⟩ := ih (upd N (a + d + 1) (N (a + d))) (upd L (a + d + 1) (L (a + d))) (upd F (a + d + 1) (F (a + d))) (by omega) (oe_Bu hF _ (hF _))
    exact ⟨N', L', F', hB, fun post hp => br_f h (oe_cpX (a + d) (a + d + 1) (nI_pred _) rfl (by omega) (by omega) hF (nm_r (pk_m1 (a + d)) (hX post hp))), fun post hp => br_f h (oe_cpY (a + d) (a + d + 1) (nI_pred _) rfl (by omega) (by omega) hF (nm_r (pk_m1 (a + d)) (hY post hp)))⟩
theorem oe_ins {c : Nat} (hc : c < 40) (m : Int32) (N L F kN kL kF : Nat → Int32) (a : Nat) (lv : Int32) (ha : a ≤ c) (hF : oe_B F) : ∃ N' L' F', oe_B F' ∧ (∀ post : Int32 → SX → Prop, post m (nI (c + 1), m + 1, N', L', F') → wpX_insert post (nI c, m, N, L, F) (nI a) lv) ∧ (∀ post : Int32 → SY → Prop, post m (nI (c + 1), m + 1, N', L', F', kN, kL, kF) → wpY_insert post (nI c, m, N, L, F, kN, kL, kF) (nI a) lv) := by
  obtain ⟨N', L', F', hB, hX, hY⟩ := oe_ins5 hc m kN kL kF a lv ha (c - a) N L F (by omega) hF
  rw [show a + (c - a) = c from by omega] at hX hY
  exact ⟨N', L', F', hB, fun post hp => ⟨_, hX post hp⟩, fun post hp => ⟨_, hY post hp⟩⟩
