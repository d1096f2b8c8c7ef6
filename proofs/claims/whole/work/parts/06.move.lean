theorem oe_bro {c : Nat} (hc : c ≤ 40) (m : Int32) (N L F kN kL kF : Nat → Int32) (i : Nat) (hi : i < c) : ∀ (t : Nat) (x : Int32), x = nI t - 1 → t ≤ i →
    ((∀ post : Int32 → Prop, post (-4) → wX_brotherBefore_4 post (nI i) (nI c) m N L F (t + 1) x) ∧ (∀ post : Int32 → SY → Prop, post (-4) (nI c, m, N, L, F, kN, kL, kF) → wY_up_14 post (nI i) (nI c) m N L F kN kL kF (t + 1) x)) ∨
    (∃ b, b < i ∧ L (nI i).toNatClampNeg ≤ L (nI b).toNatClampNeg ∧ (∀ post : Int32 → Prop, post (nI b) → wX_brotherBefore_4 post (nI i) (nI c) m N L F (t + 1) x) ∧ (∀ post : Int32 → SY → Prop, wY_up_39 post (nI i) (nI b) (nI c) m N L F kN kL kF → wY_up_14 post (nI i) (nI c) m N L F kN kL kF (t + 1) x)) := by
  intro t
  induction t with
  | zero =>
    intro x hx ht
    have h : x < 0 := by rw [hx]; exact oe_neg
    exact Or.inl ⟨fun _ hp => br_t h hp, fun _ hp => br_t h (br_t h hp)⟩
  | succ t ih =>
    intro x hx ht
    rw [nI_pred] at hx
    subst hx
    have h : ¬ nI t < 0 := nI_pos (by omega)
    have vt := oe_in (n := t) (by omega)
    have vi := oe_in (n := i) (by omega)
    by_cases z : L (nI i).toNatClampNeg ≤ L (nI t).toNatClampNeg
    · by_cases w : L (nI t).toNatClampNeg = L (nI i).toNatClampNeg
      · have w' : L (nI t).toNatClampNeg ≤ L (nI i).toNatClampNeg := by rw [w]; exact Int32.le_refl _
        exact Or.inr ⟨t, by omega, z, fun _ hp => br_f h ⟨vt, vi, br_t z ⟨vt, vi, br_t w hp⟩⟩, fun _ hp => br_f h ⟨vt, vi, br_t w' hp⟩⟩
      · have w' : ¬ L (nI t).toNatClampNeg ≤ L (nI i).toNatClampNeg := fun q => w (Int32.le_antisymm q z)
        rcases ih _ rfl (by omega) with ⟨hX, hY⟩ | ⟨b, hb, hl, hX, hY⟩
        · exact Or.inl ⟨fun post hp => br_f h ⟨vt, vi, br_t z ⟨vt, vi, br_f w (nm_r (oe_mm _) (hX post hp))⟩⟩, fun post hp => br_f h ⟨vt, vi, br_f w' (nm_r (oe_mm _) (hY post hp))⟩⟩
        · exact Or.inr ⟨b, hb, hl, fun post hp => br_f h ⟨vt, vi, br_t z ⟨vt, vi, br_f w (nm_r (oe_mm _) (hX post hp))⟩⟩, fun post hp => br_f h ⟨vt, vi, br_f w' (nm_r (oe_mm _) (hY post hp))⟩⟩
    · have z' : L (nI t).toNatClampNeg ≤ L (nI i).toNatClampNeg := Int32.le_of_lt (Int32.not_le.mp z)
      exact Or.inl ⟨fun _ hp => br_f h ⟨vt, vi, br_f z hp⟩, fun _ hp => br_f h ⟨vt, vi, br_t z' (br_f h ⟨vt, vi, br_f z hp⟩)⟩⟩
theorem i_vc_up {k : Nat} {u : SX} {v : SY} (I : i_Rel k u v) (hk : k + 3 ≤ 1536) (v1 : Int32) : wpX_up (fun r u' => wpY_up (fun r' v' => r' = r ∧ i_Rel (k + 3) u' v') v v1) u v1 := by
  have I' := I
  obtain ⟨c, m, N, L, F, kN, kL, kF, hc, hF, rfl, rfl⟩ := I
  unfold wpX_up wpY_up; dsimp only
  rcases oe_ix v1 hc m N L F kN kL kF with ⟨i, hi, rfl⟩ | ⟨bX, bY⟩
  · obtain ⟨r, hE, hX, hY⟩ := oe_end hc m N L F kN kL kF i hi
    have h1 := hE.1
    have h2 := hE.2.1
    rcases oe_bro hc m N L F kN kL kF i hi i _ rfl (Nat.le_refl _) with ⟨pX, pY⟩ | ⟨b, hb, hl, pX, pY⟩
    · exact oe_plX hi hc <| br_f oe_10 <| nm_e ⟨_, pX _ <| br_t rfl <| oe_plY hi hc <| br_f oe_10 <| nm_e ⟨_, pY _ ⟨rfl, I'⟩⟩⟩
    · have vi := oe_in (n := i) (by omega)
      have vb := oe_in (n := b) (by omega)
      have nb : ¬ nI b < 0 := nI_pos (by omega)
      exact oe_plX hi hc <| br_f oe_10 <| nm_e ⟨_, pX _ <| br_f (oe_ne4 b (by omega)) <| hX _ <| oe_exch hF b i r (by omega) (by omega) (by omega) <| oe_plY hi hc <| br_f oe_10 <| nm_e ⟨_, pY _ <| br_f nb ⟨vb, vi, br_t hl <| hY _ <| oe_moveL hc hF b i r (by omega) (by omega) h2 ⟨rfl, oe_R _ _ _ _ _ _ _ hc (oe_rotB hF)⟩⟩⟩⟩
  · exact bX _ (br_t rfl (bY _ (br_t rfl ⟨rfl, I'⟩)))
theorem i_vc_down {k : Nat} {u : SX} {v : SY} (I : i_Rel k u v) (hk : k + 3 ≤ 1536) (v1 : Int32) : wpX_down (fun r u' => wpY_down (fun r' v' => r' = r ∧ i_Rel (k + 3) u' v') v v1) u v1 := by
  have I' := I
  obtain ⟨c, m, N, L, F, kN, kL, kF, hc, hF, rfl, rfl⟩ := I
  unfold wpX_down wpY_down; dsimp only
  rcases oe_ix v1 hc m N L F kN kL kF with ⟨i, hi, rfl⟩ | ⟨bX, bY⟩
  · obtain ⟨r, hE, hX, hY⟩ := oe_end hc m N L F kN kL kF i hi
    have h1 := hE.1
    have h2 := hE.2.1
    by_cases z : r = c
    · have z' : nI r = nI c := by rw [z]
      exact oe_plX hi hc <| br_f oe_10 <| hX _ <| br_t z' <| oe_plY hi hc <| br_f oe_10 <| hY _ <| br_t z' ⟨rfl, I'⟩
    have z' : ¬ nI r = nI c := by rw [nI_eq (by omega) (by omega)]; exact z
    have vi := oe_in (n := i) (by omega)
    have vr := oe_in (n := r) (by omega)
    by_cases w : L (nI r).toNatClampNeg = L (nI i).toNatClampNeg
    · obtain ⟨s, hE', hX', hY'⟩ := oe_end hc m N L F kN kL kF r (by omega)
      have h3 := hE'.1
      have h4 := hE'.2.1
      exact oe_plX hi hc <| br_f oe_10 <| hX _ <| br_f z' ⟨vr, vi, br_t w <| hX' _ <| oe_exch hF i r s (by omega) (by omega) (by omega) <| oe_plY hi hc <| br_f oe_10 <| hY _ <| br_f z' ⟨vr, vi, br_t w <| hY' _ <| nm_e <| oe_moveR hc hF i r s (by omega) (by omega) h4 (by rw [pk_sub (by omega), nI_add]; exact congrArg nI (by omega)) ⟨rfl, oe_R _ _ _ _ _ _ _ hc (oe_rotB hF)⟩⟩⟩
    · exact oe_plX hi hc <| br_f oe_10 <| hX _ <| br_f z' ⟨vr, vi, br_f w <| oe_plY hi hc <| br_f oe_10 <| hY _ <| br_f z' ⟨vr, vi, br_f w ⟨rfl, I'⟩⟩⟩
  · exact bX _ (br_t rfl (bY _ (br_t rfl ⟨rfl, I'⟩)))
theorem oe_mu37 {c : Nat} (hc : c ≤ 40) (m : Int32) (N L F kN kL kF : Nat → Int32) (hF : oe_B F) (i j r : Nat) (hi : i < c) (hj : j < c) (hE : oe_E L c i r) (hij : j < i ∨ r ≤ j) : ∃ q N' L' F' kN' kL' kF', oe_B F' ∧ (∀ post : Int32 → SX → Prop, post q (nI c, m, N', L', F') → wX_moveUnder_37 post (nI i) (nI j) (nI r) (nI c) m N L F) ∧ (∀ post : Int32 → SY → Prop, post q (nI c, m, N', L', F', kN', kL', kF') → wY_moveUnder_37 post (nI i) (nI j) (nI r) (nI c) m N L F kN kL kF) := by
  have h1 := hE.1
  have h2 := hE.2.1
  have vi := oe_in (n := i) (by omega)
  have vj := oe_in (n := j) (by omega)
  obtain ⟨d, dX, dY⟩ := oe_deep (nI c) m N L F kN kL kF i r (by omega) (by omega)
  by_cases z : d + (L (nI j).toNatClampNeg + 1 - L (nI i).toNatClampNeg) ≤ 7
  · obtain ⟨s, hS, hX, hY⟩ := oe_end hc m N L F kN kL kF j hj
    have h3 := hS.1
    have h4 := hS.2.1
    obtain ⟨L', sX, sY⟩ := oe_shift (nI c) m N L F kN kL kF i r (L (nI j).toNatClampNeg + 1 - L (nI i).toNatClampNeg) (by omega) (by omega)
    by_cases w : i < s
    · have w' : nI i < nI s := nI_lt w (by omega)
      have hrs : r ≤ s := by
        rcases hij with g | g
        · by_cases q : r ≤ s
          · exact q
          · exfalso
            have a1 : L j < L i := hS.2.2.1 i g w
            have a2 : L i < L s := hE.2.2.1 s w (by omega)
            exact hS.2.2.2 (by omega) (Int32.lt_trans a1 a2)
        · omega
      have e : nI s - (nI r - nI i) = nI (s - (r - i)) := by rw [pk_sub (by omega), pk_sub (by omega)]
      exact ⟨_, _, _, _, _, _, _, oe_rotB hF, fun post hp => ⟨vj, vi, nm_e <| dX _ <| br_t z <| hX _ <| sX _ <| br_t w' <| oe_exch hF i r s (by omega) hrs (by omega) hp⟩, fun post hp => ⟨vj, vi, nm_e <| dY _ <| br_t z <| nm_e <| hY _ <| br_t w' <| sY _ <| oe_moveR hc hF i r s (by omega) hrs h4 e hp⟩⟩
    · have w' : ¬ nI i < nI s := nI_nlt (by omega) (by omega)
      exact ⟨_, _, _, _, _, _, _, oe_rotB hF, fun post hp => ⟨vj, vi, nm_e <| dX _ <| br_t z <| hX _ <| sX _ <| br_f w' <| oe_exch hF s i r (by omega) (by omega) (by omega) hp⟩, fun post hp => ⟨vj, vi, nm_e <| dY _ <| br_t z <| nm_e <| hY _ <| br_f w' <| sY _ <| oe_moveL hc hF s i r (by omega) (by omega) h2 hp⟩⟩
  · exact ⟨_, _, _, _, _, _, _, hF, fun post hp => ⟨vj, vi, nm_e <| dX _ <| br_f z hp⟩, fun post hp => ⟨vj, vi, nm_e <| dY _ <| br_f z hp⟩⟩
theorem i_vc_moveUnder {k : Nat} {u : SX} {v : SY} (I : i_Rel k u v) (hk : k + 3 ≤ 1536) (v1 : Int32) (v2 : Int32) : wpX_moveUnder (fun r u' => wpY_moveUnder (fun r' v' => r' = r ∧ i_Rel (k + 3) u' v') v v1 v2) u v1 v2 := by
  have I' := I
  obtain ⟨c, m, N, L, F, kN, kL, kF, hc, hF, rfl, rfl⟩ := I
  unfold wpX_moveUnder wpY_moveUnder; dsimp only
  rcases oe_ix v1 hc m N L F kN kL kF with ⟨i, hi, rfl⟩ | ⟨bX, bY⟩
  · rcases oe_ix v2 hc m N L F kN kL kF with ⟨j, hj, rfl⟩ | ⟨bX, bY⟩
    · obtain ⟨r, hE, hX, hY⟩ := oe_end hc m N L F kN kL kF i hi
      have h1 := hE.1
      have h2 := hE.2.1
      by_cases z : j < i
      · have z' : nI j < nI i := nI_lt z (by omega)
        obtain ⟨q, N', L', F', kN', kL', kF', hB, mX, mY⟩ := oe_mu37 hc m N L F kN kL kF hF i j r hi hj hE (Or.inl z)
        exact oe_plX hi hc <| br_f oe_10 <| oe_plX hj hc <| br_f oe_10 <| hX _ <| br_t z' <| mX _ <| oe_plY hi hc <| br_f oe_10 <| oe_plY hj hc <| br_f oe_10 <| hY _ <| br_t z' <| mY _ ⟨rfl, oe_R _ _ _ _ _ _ _ hc hB⟩
      have z' : ¬ nI j < nI i := nI_nlt (by omega) (by omega)
      by_cases w : r ≤ j
      · have w' : nI r ≤ nI j := nI_le w (by omega)
        obtain ⟨q, N', L', F', kN', kL', kF', hB, mX, mY⟩ := oe_mu37 hc m N L F kN kL kF hF i j r hi hj hE (Or.inr w)
        exact oe_plX hi hc <| br_f oe_10 <| oe_plX hj hc <| br_f oe_10 <| hX _ <| br_f z' <| br_t w' <| mX _ <| oe_plY hi hc <| br_f oe_10 <| oe_plY hj hc <| br_f oe_10 <| hY _ <| br_f z' <| br_t w' <| mY _ ⟨rfl, oe_R _ _ _ _ _ _ _ hc hB⟩
      · have w' : ¬ nI r ≤ nI j := nI_ge (by omega) (by omega)
        exact oe_plX hi hc <| br_f oe_10 <| oe_plX hj hc <| br_f oe_10 <| hX _ <| br_f z' <| br_f w' <| oe_plY hi hc <| br_f oe_10 <| oe_plY hj hc <| br_f oe_10 <| hY _ <| br_f z' <| br_f w' ⟨rfl, I'⟩
    · exact oe_plX hi hc <| br_f oe_10 <| bX _ <| br_t rfl <| oe_plY hi hc <| br_f oe_10 <| bY _ <| br_t rfl ⟨rfl, I'⟩
  · exact bX _ (br_t rfl (bY _ (br_t rfl ⟨rfl, I'⟩)))
