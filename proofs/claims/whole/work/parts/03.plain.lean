theorem oe_ne40 {c : Nat} (hc : c ≤ 40) (h : ¬ c = 40) : ¬ nI c = 40 := by
  rw [oe_c40, nI_eq (by omega) (by omega)]; exact h
theorem i_vc_size {k : Nat} {u : SX} {v : SY} (I : i_Rel k u v) (hk : k + 3 ≤ 1536) : wpX_size (fun r => wpY_size (fun r' => r' = r ∧ i_Rel (k + 3) u v) v) u := by
  have I' := I
  obtain ⟨c, m, N, L, F, kN, kL, kF, hc, hF, rfl, rfl⟩ := I
  exact ⟨rfl, I'⟩
theorem i_vc_name {k : Nat} {u : SX} {v : SY} (I : i_Rel k u v) (hk : k + 3 ≤ 1536) (v1 : Int32) : wpX_name (fun r => wpY_name (fun r' => r' = r ∧ i_Rel (k + 3) u v) v v1) u v1 := by
  have I' := I
  obtain ⟨c, m, N, L, F, kN, kL, kF, hc, hF, rfl, rfl⟩ := I
  unfold wpX_name wpY_name; dsimp only
  rcases oe_ix v1 hc m N L F kN kL kF with ⟨i, hi, rfl⟩ | ⟨bX, bY⟩
  · have vi := oe_in (n := i) (by omega)
    exact oe_plX hi hc (br_f oe_10 ⟨vi, oe_plY hi hc (br_f oe_10 ⟨vi, rfl, I'⟩)⟩)
  · exact bX _ (br_t rfl (bY _ (br_t rfl ⟨rfl, I'⟩)))
theorem i_vc_level {k : Nat} {u : SX} {v : SY} (I : i_Rel k u v) (hk : k + 3 ≤ 1536) (v1 : Int32) : wpX_level (fun r => wpY_level (fun r' => r' = r ∧ i_Rel (k + 3) u v) v v1) u v1 := by
  have I' := I
  obtain ⟨c, m, N, L, F, kN, kL, kF, hc, hF, rfl, rfl⟩ := I
  unfold wpX_level wpY_level; dsimp only
  rcases oe_ix v1 hc m N L F kN kL kF with ⟨i, hi, rfl⟩ | ⟨bX, bY⟩
  · have vi := oe_in (n := i) (by omega)
    exact oe_plX hi hc (br_f oe_10 ⟨vi, oe_plY hi hc (br_f oe_10 ⟨vi, rfl, I'⟩)⟩)
  · exact bX _ (br_t rfl (bY _ (br_t rfl ⟨rfl, I'⟩)))
theorem i_vc_under {k : Nat} {u : SX} {v : SY} (I : i_Rel k u v) (hk : k + 3 ≤ 1536) (v1 : Int32) : wpX_under (fun r => wpY_under (fun r' => r' = r ∧ i_Rel (k + 3) u v) v v1) u v1 := by
  have I' := I
  obtain ⟨c, m, N, L, F, kN, kL, kF, hc, hF, rfl, rfl⟩ := I
  unfold wpX_under wpY_under; dsimp only
  rcases oe_ix v1 hc m N L F kN kL kF with ⟨i, hi, rfl⟩ | ⟨bX, bY⟩
  · obtain ⟨r, hE, hX, hY⟩ := oe_end hc m N L F kN kL kF i hi
    exact oe_plX hi hc (br_f oe_10 (hX _ (oe_plY hi hc (br_f oe_10 (hY _ ⟨rfl, I'⟩)))))
  · exact bX _ (br_t rfl (bY _ (br_t rfl ⟨rfl, I'⟩)))
theorem oe_place2 {c : Nat} (hc : c ≤ 40) (m : Int32) (N L F kN kL kF : Nat → Int32) (x : Int32) : ∀ d j : Nat, j + d = c → ∃ r, (∀ post : Int32 → Prop, post r → wX_place_2 post x (nI c) m N L F (d + 1) (nI j)) ∧ (∀ post : Int32 → Prop, post r → wY_place_2 post x (nI c) m N L F kN kL kF (d + 1) (nI j)) := by
  intro d
  induction d with
  | zero =>
    intro j hj
    obtain rfl : j = c := by omega
    have h : nI j ≤ nI j := Int32.le_refl _
    exact ⟨-4, fun _ hp => br_t h hp, fun _ hp => br_t h hp⟩
  | succ d ih =>
    intro j hj
    have h : ¬ nI c ≤ nI j := nI_ge (by omega) (by omega)
    have vj := oe_in (n := j) (by omega)
    by_cases z : N (nI j).toNatClampNeg = x
    · exact ⟨nI j, fun _ hp => br_f h ⟨vj, br_t z hp⟩, fun _ hp => br_f h ⟨vj, br_t z hp⟩⟩
    · obtain ⟨r, hX, hY⟩ := ih (j + 1) (by omega)
      exact ⟨r, fun post hp => br_f h ⟨vj, br_f z (nm_r (nI_1 j) (hX post hp))⟩, fun post hp => br_f h ⟨vj, br_f z (nm_r (nI_1 j) (hY post hp))⟩⟩
theorem i_vc_place {k : Nat} {u : SX} {v : SY} (I : i_Rel k u v) (hk : k + 3 ≤ 1536) (v1 : Int32) : wpX_place (fun r => wpY_place (fun r' => r' = r ∧ i_Rel (k + 3) u v) v v1) u v1 := by
  have I' := I
  obtain ⟨c, m, N, L, F, kN, kL, kF, hc, hF, rfl, rfl⟩ := I
  obtain ⟨r, hX, hY⟩ := oe_place2 hc m N L F kN kL kF v1 c 0 (by omega)
  exact ⟨_, hX _ ⟨_, hY _ ⟨rfl, I'⟩⟩⟩
theorem oe_par14 {c : Nat} (hc : c ≤ 40) (m : Int32) (N L F kN kL kF : Nat → Int32) (i : Nat) (hi : i < c) : ∀ (t : Nat) (x : Int32), x = nI t - 1 → t ≤ i → ∃ r, (∀ post : Int32 → Prop, post r → wX_parent_14 post (nI i) (nI c) m N L F (t + 1) x) ∧ (∀ post : Int32 → Prop, post r → wY_parent_14 post (nI i) (nI c) m N L F kN kL kF (t + 1) x) := by
  intro t
  induction t with
  | zero =>
    intro x hx ht
    have h : x < 0 := by rw [hx]; exact oe_neg
    exact ⟨-4, fun _ hp => br_t h hp, fun _ hp => br_t h hp⟩
  | succ t ih =>
    intro x hx ht
    rw [nI_pred] at hx
    subst hx
    have h : ¬ nI t < 0 := nI_pos (by omega)
    have vt := oe_in (n := t) (by omega)
    have vi := oe_in (n := i) (by omega)
    by_cases z : L (nI i).toNatClampNeg ≤ L (nI t).toNatClampNeg
    · obtain ⟨r, hX, hY⟩ := ih _ rfl (by omega)
      exact ⟨r, fun post hp => br_f h ⟨vt, vi, br_t z (nm_r (oe_mm _) (hX post hp))⟩, fun post hp => br_f h ⟨vt, vi, br_t z (nm_r (oe_mm _) (hY post hp))⟩⟩
    · exact ⟨nI t, fun _ hp => br_f h ⟨vt, vi, br_f z hp⟩, fun _ hp => br_f h ⟨vt, vi, br_f z hp⟩⟩
theorem i_vc_parent {k : Nat} {u : SX} {v : SY} (I : i_Rel k u v) (hk : k + 3 ≤ 1536) (v1 : Int32) : wpX_parent (fun r => wpY_parent (fun r' => r' = r ∧ i_Rel (k + 3) u v) v v1) u v1 := by
  have I' := I
  obtain ⟨c, m, N, L, F, kN, kL, kF, hc, hF, rfl, rfl⟩ := I
  unfold wpX_parent wpY_parent; dsimp only
  rcases oe_ix v1 hc m N L F kN kL kF with ⟨i, hi, rfl⟩ | ⟨bX, bY⟩
  · obtain ⟨r, hX, hY⟩ := oe_par14 hc m N L F kN kL kF i hi i _ rfl (Nat.le_refl _)
    exact oe_plX hi hc (br_f oe_10 (nm_e ⟨_, hX _ (oe_plY hi hc (br_f oe_10 (nm_e ⟨_, hY _ ⟨rfl, I'⟩⟩)))⟩))
  · exact bX _ (br_t rfl (bY _ (br_t rfl ⟨rfl, I'⟩)))
theorem i_vc_add {k : Nat} {u : SX} {v : SY} (I : i_Rel k u v) (hk : k + 3 ≤ 1536) (v1 : Int32) : wpX_add (fun r u' => wpY_add (fun r' v' => r' = r ∧ i_Rel (k + 3) u' v') v v1) u v1 := by
  have I' := I
  obtain ⟨c, m, N, L, F, kN, kL, kF, hc, hF, rfl, rfl⟩ := I
  unfold wpX_add wpY_add; dsimp only
  by_cases h0 : v1 < 0
  · exact br_t h0 (br_t rfl (br_t h0 ⟨rfl, I'⟩))
  by_cases h7 : 7 < v1
  · exact br_f h0 (br_t h7 (br_t rfl (br_f h0 (br_f (Int32.not_le.mpr h7) ⟨rfl, I'⟩))))
  have g7 : v1 ≤ 7 := Int32.not_lt.mp h7
  by_cases h40 : c = 40
  · subst h40
    exact br_f h0 (br_f h7 (br_f oe_10 (br_t oe_c40.symm (br_f h0 (br_t g7 (br_t oe_c40.symm ⟨rfl, I'⟩))))))
  have hn := oe_ne40 hc h40
  obtain ⟨N', L', F', hB, iX, iY⟩ := oe_ins (c := c) (by omega) m N L F kN kL kF c v1 (Nat.le_refl _) hF
  by_cases hz : c = 0
  · subst hz
    have e : (-1 : Int32) + 1 = 0 := by decide
    by_cases z : v1 ≤ 0
    · exact br_f h0 <| br_f h7 <| br_f oe_10 <| br_f hn <| br_t nI_0 <| br_t z <| iX _ <| br_f h0 <| br_t g7 <| br_f hn <| br_t nI_0 <| br_t (by rw [e]; exact z) <| iY _ ⟨rfl, oe_R _ _ _ _ _ _ _ (by omega) hB⟩
    · exact br_f h0 <| br_f h7 <| br_f oe_10 <| br_f hn <| br_t nI_0 <| br_f z <| br_f h0 <| br_t g7 <| br_f hn <| br_t nI_0 <| br_f (by rw [e]; exact z) ⟨rfl, I'⟩
  · have hz' : ¬ nI c = 0 := nI_ne0 (by omega) (by omega)
    have vc : vp_in (nI c - 1) 40 := by
      rw [oe_c1, pk_sub (by omega)]; exact oe_in (by omega)
    by_cases z : v1 ≤ L (nI c - 1).toNatClampNeg + 1
    · exact br_f h0 (br_f h7 (br_f oe_10 (br_f hn (br_f hz' ⟨vc, br_t z (iX _ (br_f h0 (br_t g7 (br_f hn (br_f hz' ⟨vc, br_t z (iY _ ⟨rfl, oe_R _ _ _ _ _ _ _ (by omega) hB⟩)⟩)))))⟩))))
    · exact br_f h0 (br_f h7 (br_f oe_10 (br_f hn (br_f hz' ⟨vc, br_f z (br_f h0 (br_t g7 (br_f hn (br_f hz' ⟨vc, br_f z ⟨rfl, I'⟩⟩))))⟩))))
theorem i_vc_addAfter {k : Nat} {u : SX} {v : SY} (I : i_Rel k u v) (hk : k + 3 ≤ 1536) (v1 : Int32) : wpX_addAfter (fun r u' => wpY_addAfter (fun r' v' => r' = r ∧ i_Rel (k + 3) u' v') v v1) u v1 := by
  have I' := I
  obtain ⟨c, m, N, L, F, kN, kL, kF, hc, hF, rfl, rfl⟩ := I
  unfold wpX_addAfter wpY_addAfter; dsimp only
  rcases oe_ix v1 hc m N L F kN kL kF with ⟨i, hi, rfl⟩ | ⟨bX, bY⟩
  · by_cases h40 : c = 40
    · subst h40
      exact oe_plX hi hc (br_f oe_10 (br_t oe_c40.symm (oe_plY hi hc (br_f oe_10 (br_t oe_c40.symm ⟨rfl, I'⟩)))))
    have hn := oe_ne40 hc h40
    have vi := oe_in (n := i) (by omega)
    obtain ⟨r, hE, hX, hY⟩ := oe_end hc m N L F kN kL kF i hi
    obtain ⟨N', L', F', hB, iX, iY⟩ := oe_ins (c := c) (by omega) m N L F kN kL kF r (L (nI i).toNatClampNeg) hE.2.1 hF
    exact oe_plX hi hc (br_f oe_10 (br_f hn (hX _ ⟨vi, iX _ (oe_plY hi hc (br_f oe_10 (br_f hn (hY _ ⟨vi, iY _ ⟨rfl, oe_R _ _ _ _ _ _ _ (by omega) hB⟩⟩))))⟩)))
  · exact bX _ (br_t rfl (bY _ (br_t rfl ⟨rfl, I'⟩)))
theorem i_vc_addUnder {k : Nat} {u : SX} {v : SY} (I : i_Rel k u v) (hk : k + 3 ≤ 1536) (v1 : Int32) : wpX_addUnder (fun r u' => wpY_addUnder (fun r' v' => r' = r ∧ i_Rel (k + 3) u' v') v v1) u v1 := by
  have I' := I
  obtain ⟨c, m, N, L, F, kN, kL, kF, hc, hF, rfl, rfl⟩ := I
  unfold wpX_addUnder wpY_addUnder; dsimp only
  rcases oe_ix v1 hc m N L F kN kL kF with ⟨i, hi, rfl⟩ | ⟨bX, bY⟩
  · by_cases h40 : c = 40
    · subst h40
      exact oe_plX hi hc (br_f oe_10 (br_t oe_c40.symm (oe_plY hi hc (br_f oe_10 (br_t oe_c40.symm ⟨rfl, I'⟩)))))
    have hn := oe_ne40 hc h40
    have vi := oe_in (n := i) (by omega)
    by_cases z : L (nI i).toNatClampNeg = 7
    · exact oe_plX hi hc (br_f oe_10 (br_f hn ⟨vi, br_t z (oe_plY hi hc (br_f oe_10 (br_f hn ⟨vi, br_t z ⟨rfl, I'⟩⟩)))⟩))
    · obtain ⟨N', L', F', hB, iX, iY⟩ := oe_ins (c := c) (by omega) m N L F kN kL kF (i + 1) (L (nI i).toNatClampNeg + 1) hi hF
      rw [← nI_1 i] at iX iY
      exact oe_plX hi hc (br_f oe_10 (br_f hn ⟨vi, br_f z ⟨vi, iX _ (oe_plY hi hc (br_f oe_10 (br_f hn ⟨vi, br_f z ⟨vi, iY _ ⟨rfl, oe_R _ _ _ _ _ _ _ (by omega) hB⟩⟩⟩)))⟩⟩))
  · exact bX _ (br_t rfl (bY _ (br_t rfl ⟨rfl, I'⟩)))
