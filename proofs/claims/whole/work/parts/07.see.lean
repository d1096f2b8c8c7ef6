theorem oe_us {f : Nat → Int32} {k : Nat} {x : Int32} : upd f k x k = x := if_pos rfl
theorem oe_huX1 {c j : Nat} (hc : c ≤ 40) {m : Int32} {N L F : Nat → Int32} (h1 : j + 1 < c) (h2 : L j < L (j + 1)) {post : Int32 → Prop} (hp : post 1) : wpX_hasUnder post (nI c, m, N, L, F) (nI j) := by
  have vj := oe_in (n := j) (by omega)
  have cj := oe_cl (n := j) (by omega)
  have vk : vp_in (nI j + 1) 40 := by rw [nI_1]; exact oe_in (by omega)
  have ck : (nI j + 1).toNatClampNeg = j + 1 := by rw [nI_1]; exact oe_cl (by omega)
  exact br_f (by rw [nI_1]; exact nI_ge h1 (by omega)) ⟨vk, vj, br_f (by rw [cj, ck]; exact Int32.not_le.mpr h2) hp⟩
theorem oe_huX0 {c j : Nat} (hc : c ≤ 40) {m : Int32} {N L F : Nat → Int32} (hj : j < c) (h : ¬ (j + 1 < c ∧ L j < L (j + 1))) {post : Int32 → Prop} (hp : post 0) : wpX_hasUnder post (nI c, m, N, L, F) (nI j) := by
  have vj := oe_in (n := j) (by omega)
  have cj := oe_cl (n := j) (by omega)
  by_cases h1 : j + 1 < c
  · have vk : vp_in (nI j + 1) 40 := by rw [nI_1]; exact oe_in (by omega)
    have ck : (nI j + 1).toNatClampNeg = j + 1 := by rw [nI_1]; exact oe_cl (by omega)
    exact br_f (by rw [nI_1]; exact nI_ge h1 (by omega)) ⟨vk, vj, br_t (by rw [cj, ck]; exact Int32.not_lt.mp (fun q => h ⟨h1, q⟩)) hp⟩
  · exact br_t (by rw [nI_1]; exact nI_le (by omega) (by omega)) hp
theorem oe_fl14 {c : Nat} (hc : c ≤ 40) (m : Int32) (N L kN kL kF : Nat → Int32) (x : Int32) : ∀ (d j : Nat) (s : Int32) (F : Nat → Int32), j + d = c → oe_B F → ∃ q F', oe_B F' ∧ (∀ post : Int32 → SX → Prop, post q (nI c, m, N, L, F') → wX_foldLevel_14 post x (nI c) m (d + 1) s (nI j) N L F) ∧ (∀ post : Int32 → SY → Prop, post q (nI c, m, N, L, F', kN, kL, kF) → wY_foldLevel_16 post x (nI c) m (d + 1) s (nI j) N L F kN kL kF) := by
  intro d
  induction d with
  | zero =>
    intro j s F hj hF
    obtain rfl : j = c := by omega
    have h : nI j ≤ nI j := Int32.le_refl _
    exact ⟨s, F, hF, fun _ hp => br_t h hp, fun _ hp => br_t h hp⟩
  | succ d ih =>
    intro j s F hj hF
    have h : ¬ nI c ≤ nI j := nI_ge (by omega) (by omega)
    have vj := oe_in (n := j) (by omega)
    have cj := oe_cl (n := j) (by omega)
    have e0 : upd F (nI j).toNatClampNeg (vp_nar .boolean 0) = upd F j 0 := by rw [cj, oe_n0]
    have e1 : upd F (nI j).toNatClampNeg (vp_nar .boolean 1) = upd F j 1 := by rw [cj, oe_n1]
    have g0 : upd F j 0 (nI j).toNatClampNeg = 0 := by rw [cj, oe_us]
    have g1 : ¬ upd F j 1 (nI j).toNatClampNeg = 0 := by rw [cj, oe_us]; exact oe_10
    obtain ⟨q0, F0, hB0, X0, Y0⟩ := ih (j + 1) s (upd F j 0) (by omega) (oe_Bu hF j oe_n0)
    obtain ⟨q1, F1, hB1, X1, Y1⟩ := ih (j + 1) (s + 1) (upd F j 1) (by omega) (oe_Bu hF j oe_n1)
    by_cases z : L (nI j).toNatClampNeg = x
    · obtain ⟨r, hE, hX, hY⟩ := oe_end hc m N L F kN kL kF j (by omega)
      obtain ⟨a1, a2, a3, a4⟩ := hE
      by_cases g : j + 1 < c ∧ L j < L (j + 1)
      · have hr : ¬ nI r ≤ nI j + 1 := by
          rw [nI_1]
          refine nI_ge ?_ (by omega)
          by_cases e : r = j + 1
          · subst e
            exact absurd g.2 (a4 g.1)
          · omega
        exact ⟨q1, F1, hB1, fun post hp => br_f h ⟨vj, br_t z <| oe_huX1 hc g.1 g.2 <| br_f oe_10 ⟨vj, nm_r e1 ⟨vj, br_f g1 <| nm_e <| nm_r (nI_1 j) (X1 post hp)⟩⟩⟩, fun post hp => br_f h ⟨vj, br_t z <| hY _ <| br_f hr ⟨vj, nm_r e1 ⟨vj, br_f g1 <| nm_e <| nm_r (nI_1 j) (Y1 post hp)⟩⟩⟩⟩
      · have hr : nI r ≤ nI j + 1 := by
          rw [nI_1]
          refine nI_le ?_ (by omega)
          by_cases e : r ≤ j + 1
          · exact e
          · exact absurd ⟨by omega, a3 (j + 1) (by omega) (by omega)⟩ g
        exact ⟨q0, F0, hB0, fun post hp => br_f h ⟨vj, br_t z <| oe_huX0 hc (by omega) g <| br_t rfl ⟨vj, nm_r e0 ⟨vj, br_t g0 <| nm_r (nI_1 j) (X0 post hp)⟩⟩⟩, fun post hp => br_f h ⟨vj, br_t z <| hY _ <| br_t hr ⟨vj, nm_r e0 ⟨vj, br_t g0 <| nm_r (nI_1 j) (Y0 post hp)⟩⟩⟩⟩
    · exact ⟨q0, F0, hB0, fun post hp => br_f h ⟨vj, br_f z ⟨vj, nm_r e0 ⟨vj, br_t g0 <| nm_r (nI_1 j) (X0 post hp)⟩⟩⟩, fun post hp => br_f h ⟨vj, br_f z ⟨vj, nm_r e0 ⟨vj, br_t g0 <| nm_r (nI_1 j) (Y0 post hp)⟩⟩⟩⟩
theorem i_vc_foldLevel {k : Nat} {u : SX} {v : SY} (I : i_Rel k u v) (hk : k + 3 ≤ 1536) (v1 : Int32) : wpX_foldLevel (fun r u' => wpY_foldLevel (fun r' v' => r' = r ∧ i_Rel (k + 3) u' v') v v1) u v1 := by
  have I' := I
  obtain ⟨c, m, N, L, F, kN, kL, kF, hc, hF, rfl, rfl⟩ := I
  unfold wpX_foldLevel wpY_foldLevel; dsimp only
  by_cases h0 : v1 < 0
  · exact br_t h0 (br_t rfl (br_t h0 ⟨rfl, I'⟩))
  by_cases h7 : 7 < v1
  · exact br_f h0 (br_t h7 (br_t rfl (br_f h0 (br_f (Int32.not_le.mpr h7) ⟨rfl, I'⟩))))
  have g7 : v1 ≤ 7 := Int32.not_lt.mp h7
  obtain ⟨q, F', hB, hX, hY⟩ := oe_fl14 hc m N L kN kL kF v1 c 0 0 F (by omega) hF
  exact br_f h0 <| br_f h7 <| br_f oe_10 ⟨_, hX _ <| br_f h0 <| br_t g7 ⟨_, hY _ ⟨rfl, oe_R _ _ _ _ _ _ _ hc hB⟩⟩⟩
/-- i is under a -/
def oe_anc (L : Nat → Int32) (i a : Nat) : Prop := a < i ∧ ∀ j, a < j → j ≤ i → L a < L j
def oe_vis (L F : Nat → Int32) (i : Nat) : Prop := ∀ a, oe_anc L i a → F a = 0
/-- x is the least level from t to i -/
def oe_min (L : Nat → Int32) (i t : Nat) (x : Int32) : Prop := (∀ j, t ≤ j → j ≤ i → x ≤ L j) ∧ ∃ j, t ≤ j ∧ j ≤ i ∧ L j = x
theorem oe_minS {L : Nat → Int32} {i t : Nat} {x : Int32} (h : oe_min L i (t + 1) x) (z : x ≤ L t) : oe_min L i t x ∧ ¬ oe_anc L i t := by
  obtain ⟨h1, j, a, b, e⟩ := h
  refine ⟨⟨fun p h2 h3 => ?_, j, by omega, b, e⟩, fun q => ?_⟩
  · by_cases w : p = t
    · rw [w]; exact z
    · exact h1 p (by omega) h3
  · have := q.2 j (by omega) b
    rw [e] at this
    exact Int32.not_le.mpr this z
theorem oe_minT {L : Nat → Int32} {i t : Nat} {x : Int32} (ht : t < i) (h : oe_min L i (t + 1) x) (z : ¬ x ≤ L t) : oe_min L i t (L t) ∧ oe_anc L i t := by
  obtain ⟨h1, h2⟩ := h
  have z' := Int32.not_le.mp z
  have q : ∀ j, t < j → j ≤ i → L t < L j := fun j a b => Int32.lt_of_lt_of_le z' (h1 j (by omega) b)
  refine ⟨⟨fun p h2 h3 => ?_, t, by omega, by omega, rfl⟩, ht, q⟩
  by_cases w : p = t
  · rw [w]; exact Int32.le_refl _
  · exact Int32.le_of_lt (q p (by omega) h3)
theorem oe_min0 (L : Nat → Int32) (i : Nat) : oe_min L i i (L i) := by
  refine ⟨fun j a b => ?_, i, Nat.le_refl _, Nat.le_refl _, rfl⟩
  obtain rfl : j = i := by omega
  exact Int32.le_refl _
/-- where j's branch ends tells whether i is under j -/
theorem oe_ancE {L : Nat → Int32} {c i j r : Nat} (hj : j < i) (hi : i < c) (hE : oe_E L c j r) : (r ≤ i → ¬ oe_anc L i j) ∧ (¬ r ≤ i → oe_anc L i j) := by
  obtain ⟨a1, a2, a3, a4⟩ := hE
  exact ⟨fun h q => a4 (by omega) (q.2 r a1 h), fun h => ⟨hj, fun t b1 b2 => a3 t b1 (by omega)⟩⟩
theorem oe_vis11 {c : Nat} (hc : c ≤ 40) (m : Int32) (N L F : Nat → Int32) (i : Nat) (hi : i < c) (post : Int32 → Prop) (p1 : oe_vis L F i → post 1) (p0 : ¬ oe_vis L F i → post 0) : ∀ (t : Nat) (x y : Int32), y = nI t - 1 → t ≤ i → oe_min L i t x → (∀ a, t ≤ a → oe_anc L i a → F a = 0) → wX_isVisible_11 post (nI c) m N L F (t + 1) x y := by
  intro t
  induction t with
  | zero =>
    intro x y hy ht hM hv
    have h : y < 0 := by rw [hy]; exact oe_neg
    exact br_t h (p1 fun a ha => hv a (Nat.zero_le _) ha)
  | succ t ih =>
    intro x y hy ht hM hv
    rw [nI_pred] at hy
    subst hy
    have h : ¬ nI t < 0 := nI_pos (by omega)
    have vt := oe_in (n := t) (by omega)
    have ct := oe_cl (n := t) (by omega)
    by_cases z : x ≤ L t
    · obtain ⟨hM', na⟩ := oe_minS hM z
      refine br_f h ⟨vt, br_t (by rw [ct]; exact z) <| nm_r (oe_mm _) <| ih x _ rfl (by omega) hM' fun a h1 h2 => ?_⟩
      by_cases e : a = t
      · rw [e] at h2; exact absurd h2 na
      · exact hv a (by omega) h2
    · obtain ⟨hM', ya⟩ := oe_minT (by omega) hM z
      by_cases w : F t = 0
      · refine br_f h ⟨vt, br_f (by rw [ct]; exact z) ⟨vt, nm_r (by rw [ct]) ⟨vt, br_t (by rw [ct]; exact w) <| nm_r (oe_mm _) <| ih (L t) _ rfl (by omega) hM' fun a h1 h2 => ?_⟩⟩⟩
        by_cases e : a = t
        · rw [e]; exact w
        · exact hv a (by omega) h2
      · exact br_f h ⟨vt, br_f (by rw [ct]; exact z) ⟨vt, nm_r (by rw [ct]) ⟨vt, br_f (by rw [ct]; exact w) <| p0 fun q => w (q t ya)⟩⟩⟩
theorem oe_vis2 {c : Nat} (hc : c ≤ 40) (m : Int32) (N L F kN kL kF : Nat → Int32) (i : Nat) (hi : i < c) (post : Int32 → Prop) (p1 : oe_vis L F i → post 1) (p0 : ¬ oe_vis L F i → post 0) : ∀ d j : Nat, j + d = i → (∀ a, a < j → oe_anc L i a → F a = 0) → wY_isVisible_2 post (nI i) (nI c) m N L F kN kL kF (d + 1) (nI j) := by
  intro d
  induction d with
  | zero =>
    intro j hj hv
    obtain rfl : j = i := by omega
    exact br_t (Int32.le_refl _) (p1 fun a ha => hv a ha.1 ha)
  | succ d ih =>
    intro j hj hv
    have h : ¬ nI i ≤ nI j := nI_ge (by omega) (by omega)
    have vj := oe_in (n := j) (by omega)
    have cj := oe_cl (n := j) (by omega)
    by_cases w : F j = 0
    · refine br_f h ⟨vj, br_t (by rw [cj]; exact w) <| nm_r (nI_1 j) <| ih (j + 1) (by omega) fun a h1 h2 => ?_⟩
      by_cases e : a = j
      · rw [e]; exact w
      · exact hv a (by omega) h2
    · obtain ⟨r, hE, hX, hY⟩ := oe_end hc m N L F kN kL kF j (by omega)
      have hA := oe_ancE (i := i) (by omega) hi hE
      have h2 := hE.2.1
      by_cases z : r ≤ i
      · refine br_f h ⟨vj, br_f (by rw [cj]; exact w) <| hY _ <| br_t (nI_le z (by omega)) <| nm_r (nI_1 j) <| ih (j + 1) (by omega) fun a h1 h2 => ?_⟩
        by_cases e : a = j
        · rw [e] at h2; exact absurd h2 (hA.1 z)
        · exact hv a (by omega) h2
      · exact br_f h ⟨vj, br_f (by rw [cj]; exact w) <| hY _ <| br_f (nI_ge (by omega) (by omega)) <| p0 fun q => w (q j (hA.2 z))⟩
theorem oe_visB {c : Nat} (hc : c ≤ 40) (m : Int32) (N L F kN kL kF : Nat → Int32) (i : Nat) (hi : i < c) : ∃ r, (∀ post : Int32 → Prop, post r → wpX_isVisible post (nI c, m, N, L, F) (nI i)) ∧ (∀ post : Int32 → Prop, post r → wpY_isVisible post (nI c, m, N, L, F, kN, kL, kF) (nI i)) := by
  have vi := oe_in (n := i) (by omega)
  have ci := oe_cl (n := i) (by omega)
  by_cases q : oe_vis L F i
  · exact ⟨1, fun post hp => ⟨vi, nm_r (by rw [ci]) <| nm_e ⟨_, oe_vis11 hc m N L F i hi post (fun _ => hp) (fun z => absurd q z) i (L i) _ rfl (Nat.le_refl _) (oe_min0 L i) fun a h1 h2 => q a h2⟩⟩, fun post hp => ⟨_, oe_vis2 hc m N L F kN kL kF i hi post (fun _ => hp) (fun z => absurd q z) i 0 (by omega) fun a h1 h2 => q a h2⟩⟩
  · exact ⟨0, fun post hp => ⟨vi, nm_r (by rw [ci]) <| nm_e ⟨_, oe_vis11 hc m N L F i hi post (fun z => absurd z q) (fun _ => hp) i (L i) _ rfl (Nat.le_refl _) (oe_min0 L i) fun a h1 h2 => absurd h2.1 (by omega)⟩⟩, fun post hp => ⟨_, oe_vis2 hc m N L F kN kL kF i hi post (fun z => absurd z q) (fun _ => hp) i 0 (by omega) fun a h1 h2 => absurd h1 (by omega)⟩⟩
theorem oe_vb25 {c : Nat} (hc : c ≤ 40) (m : Int32) (N L F kN kL kF : Nat → Int32) (e : Nat) (he : e ≤ c) : ∀ (d j : Nat) (s : Int32), j + d = e → ∃ r, (∀ post : Int32 → Prop, post r → wX_visibleBefore_4 post (nI e) (nI c) m N L F (d + 1) s (nI j)) ∧ (∀ post : Int32 → Prop, post r → wY_rowOf_25 post (nI e) (nI c) m N L F kN kL kF (d + 1) s (nI j)) := by
  intro d
  induction d with
  | zero =>
    intro j s hj
    obtain rfl : j = e := by omega
    have h : nI j ≤ nI j := Int32.le_refl _
    exact ⟨s, fun _ hp => br_t h hp, fun _ hp => br_t h hp⟩
  | succ d ih =>
    intro j s hj
    have h : ¬ nI e ≤ nI j := nI_ge (by omega) (by omega)
    obtain ⟨b, bX, bY⟩ := oe_visB hc m N L F kN kL kF j (by omega)
    by_cases z : b = 0
    · obtain ⟨r, hX, hY⟩ := ih (j + 1) s (by omega)
      exact ⟨r, fun post hp => br_f h <| bX _ <| br_t z <| nm_r (nI_1 j) (hX post hp), fun post hp => br_f h <| bY _ <| br_t z <| nm_r (nI_1 j) (hY post hp)⟩
    · obtain ⟨r, hX, hY⟩ := ih (j + 1) (s + 1) (by omega)
      exact ⟨r, fun post hp => br_f h <| bX _ <| br_f z <| nm_e <| nm_r (nI_1 j) (hX post hp), fun post hp => br_f h <| bY _ <| br_f z <| nm_e <| nm_r (nI_1 j) (hY post hp)⟩
theorem oe_vb4 {c : Nat} (hc : c ≤ 40) (m : Int32) (N L F kN kL kF : Nat → Int32) : ∀ (d j : Nat) (s : Int32), j + d = c → ∃ r, (∀ post : Int32 → Prop, post r → wX_visibleBefore_4 post (nI c) (nI c) m N L F (d + 1) s (nI j)) ∧ (∀ post : Int32 → Prop, post r → wY_rows_4 post (nI c) m N L F kN kL kF (d + 1) s (nI j)) := by
  intro d
  induction d with
  | zero =>
    intro j s hj
    obtain rfl : j = c := by omega
    have h : nI j ≤ nI j := Int32.le_refl _
    exact ⟨s, fun _ hp => br_t h hp, fun _ hp => br_t h hp⟩
  | succ d ih =>
    intro j s hj
    have h : ¬ nI c ≤ nI j := nI_ge (by omega) (by omega)
    obtain ⟨b, bX, bY⟩ := oe_visB hc m N L F kN kL kF j (by omega)
    by_cases z : b = 0
    · obtain ⟨r, hX, hY⟩ := ih (j + 1) s (by omega)
      exact ⟨r, fun post hp => br_f h <| bX _ <| br_t z <| nm_r (nI_1 j) (hX post hp), fun post hp => br_f h <| bY _ <| br_t z <| nm_r (nI_1 j) (hY post hp)⟩
    · obtain ⟨r, hX, hY⟩ := ih (j + 1) (s + 1) (by omega)
      exact ⟨r, fun post hp => br_f h <| bX _ <| br_f z <| nm_e <| nm_r (nI_1 j) (hX post hp), fun post hp => br_f h <| bY _ <| br_f z <| nm_e <| nm_r (nI_1 j) (hY post hp)⟩
theorem oe_row4 {c : Nat} (hc : c ≤ 40) (m : Int32) (N L F kN kL kF : Nat → Int32) (x : Int32) : ∀ (d j : Nat) (s : Int32), j + d = c → ∃ r, (∀ post : Int32 → Prop, post r → wX_row_4 post x (nI c) m N L F (d + 1) s (nI j)) ∧ (∀ post : Int32 → Prop, post r → wY_row_4 post x (nI c) m N L F kN kL kF (d + 1) s (nI j)) := by
  intro d
  induction d with
  | zero =>
    intro j s hj
    obtain rfl : j = c := by omega
    have h : nI j ≤ nI j := Int32.le_refl _
    exact ⟨-4, fun _ hp => br_t h hp, fun _ hp => br_t h hp⟩
  | succ d ih =>
    intro j s hj
    have h : ¬ nI c ≤ nI j := nI_ge (by omega) (by omega)
    obtain ⟨b, bX, bY⟩ := oe_visB hc m N L F kN kL kF j (by omega)
    by_cases z : b = 0
    · obtain ⟨r, hX, hY⟩ := ih (j + 1) s (by omega)
      exact ⟨r, fun post hp => br_f h <| bX _ <| br_t z <| nm_r (nI_1 j) (hX post hp), fun post hp => br_f h <| bY _ <| br_t z <| nm_r (nI_1 j) (hY post hp)⟩
    · by_cases w : s = x
      · exact ⟨nI j, fun post hp => br_f h <| bX _ <| br_f z <| br_t w hp, fun post hp => br_f h <| bY _ <| br_f z <| br_t w hp⟩
      · obtain ⟨r, hX, hY⟩ := ih (j + 1) (s + 1) (by omega)
        exact ⟨r, fun post hp => br_f h <| bX _ <| br_f z <| br_f w <| nm_e <| nm_r (nI_1 j) (hX post hp), fun post hp => br_f h <| bY _ <| br_f z <| br_f w <| nm_e <| nm_r (nI_1 j) (hY post hp)⟩
theorem i_vc_rows {k : Nat} {u : SX} {v : SY} (I : i_Rel k u v) (hk : k + 3 ≤ 1536) : wpX_rows (fun r => wpY_rows (fun r' => r' = r ∧ i_Rel (k + 3) u v) v) u := by
  have I' := I
  obtain ⟨c, m, N, L, F, kN, kL, kF, hc, hF, rfl, rfl⟩ := I
  unfold wpX_rows wpY_rows; dsimp only
  obtain ⟨r, hX, hY⟩ := oe_vb4 hc m N L F kN kL kF c 0 0 (by omega)
  exact ⟨_, hX _ ⟨_, hY _ ⟨rfl, I'⟩⟩⟩
theorem i_vc_row {k : Nat} {u : SX} {v : SY} (I : i_Rel k u v) (hk : k + 3 ≤ 1536) (v1 : Int32) : wpX_row (fun r => wpY_row (fun r' => r' = r ∧ i_Rel (k + 3) u v) v v1) u v1 := by
  have I' := I
  obtain ⟨c, m, N, L, F, kN, kL, kF, hc, hF, rfl, rfl⟩ := I
  obtain ⟨r, hX, hY⟩ := oe_row4 hc m N L F kN kL kF v1 c 0 0 (by omega)
  exact ⟨_, hX _ ⟨_, hY _ ⟨rfl, I'⟩⟩⟩
theorem i_vc_rowOf {k : Nat} {u : SX} {v : SY} (I : i_Rel k u v) (hk : k + 3 ≤ 1536) (v1 : Int32) : wpX_rowOf (fun r => wpY_rowOf (fun r' => r' = r ∧ i_Rel (k + 3) u v) v v1) u v1 := by
  have I' := I
  obtain ⟨c, m, N, L, F, kN, kL, kF, hc, hF, rfl, rfl⟩ := I
  unfold wpX_rowOf wpY_rowOf; dsimp only
  rcases oe_ix v1 hc m N L F kN kL kF with ⟨i, hi, rfl⟩ | ⟨bX, bY⟩
  · obtain ⟨b, bX, bY⟩ := oe_visB hc m N L F kN kL kF i hi
    by_cases z : b = 0
    · exact oe_plX hi hc <| br_f oe_10 <| bX _ <| br_t z <| oe_plY hi hc <| br_f oe_10 <| bY _ <| br_t z ⟨rfl, I'⟩
    · obtain ⟨r, hX, hY⟩ := oe_vb25 hc m N L F kN kL kF i (by omega) i 0 0 (by omega)
      exact oe_plX hi hc <| br_f oe_10 <| bX _ <| br_f z ⟨_, hX _ <| oe_plY hi hc <| br_f oe_10 <| bY _ <| br_f z ⟨_, hY _ ⟨rfl, I'⟩⟩⟩
  · exact bX _ (br_t rfl (bY _ (br_t rfl ⟨rfl, I'⟩)))
