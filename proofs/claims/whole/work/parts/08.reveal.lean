noncomputable def oe_ct (P : Nat → Prop) : Nat → Nat
  | 0 => 0
  | n + 1 => oe_ct P n + @ite Nat (P n) (Classical.propDecidable _) 1 0
theorem oe_ctT {P : Nat → Prop} {n : Nat} (h : P n) : oe_ct P (n + 1) = oe_ct P n + 1 := by
  rw [oe_ct, if_pos h]
theorem oe_ctF {P : Nat → Prop} {n : Nat} (h : ¬ P n) : oe_ct P (n + 1) = oe_ct P n := by
  rw [oe_ct, if_neg h, Nat.add_zero]
/-- the folds, those at the places of Q taken away -/
noncomputable def oe_cf (Q : Nat → Prop) (F : Nat → Int32) : Nat → Int32 := fun p => @ite Int32 (Q p) (Classical.propDecidable _) 0 (F p)
theorem oe_cfT {Q : Nat → Prop} {F : Nat → Int32} {p : Nat} (h : Q p) : oe_cf Q F p = 0 := if_pos h
theorem oe_cfF {Q : Nat → Prop} {F : Nat → Int32} {p : Nat} (h : ¬ Q p) : oe_cf Q F p = F p := if_neg h
theorem oe_cfE {Q Q' : Nat → Prop} {F : Nat → Int32} (h : ∀ p, Q p ↔ Q' p) : oe_cf Q F = oe_cf Q' F := by
  rw [show Q = Q' from funext fun p => propext (h p)]
theorem oe_cfB {Q : Nat → Prop} {F : Nat → Int32} (hF : oe_B F) : oe_B (oe_cf Q F) := by
  intro p
  by_cases h : Q p
  · rw [oe_cfT h]; exact oe_n0
  · rw [oe_cfF h]; exact hF p
/-- one place more, that was not folded -/
theorem oe_cf0 {Q Q' : Nat → Prop} {F : Nat → Int32} (t : Nat) (h : ∀ p, p ≠ t → (Q p ↔ Q' p)) (hQ : ¬ Q t) (h0 : F t = 0) : oe_cf Q F = oe_cf Q' F := by
  funext p
  by_cases e : p = t
  · subst e
    rw [oe_cfF hQ]
    by_cases q : Q' p
    · rw [oe_cfT q, h0]
    · rw [oe_cfF q]
  · by_cases q : Q p
    · rw [oe_cfT q, oe_cfT ((h p e).mp q)]
    · rw [oe_cfF q, oe_cfF fun z => q ((h p e).mpr z)]
/-- one place more, written -/
theorem oe_cfU {Q Q' : Nat → Prop} {F : Nat → Int32} (t : Nat) (h : ∀ p, p ≠ t → (Q p ↔ Q' p)) (hQ : Q' t) : upd (oe_cf Q F) t 0 = oe_cf Q' F := by
  funext p
  by_cases e : p = t
  · subst e
    rw [oe_cfT hQ]
    exact if_pos rfl
  · rw [show upd (oe_cf Q F) t 0 p = oe_cf Q F p from if_neg e]
    by_cases q : Q p
    · rw [oe_cfT q, oe_cfT ((h p e).mp q)]
    · rw [oe_cfF q, oe_cfF fun z => q ((h p e).mpr z)]
theorem oe_rvl24 {c : Nat} (hc : c ≤ 40) (m : Int32) (N L F : Nat → Int32) (i : Nat) (hi : i < c) (post : Int32 → SX → Prop) (hp : post (nI (oe_ct (fun a => oe_anc L i a ∧ ¬ F a = 0) i)) (nI c, m, N, L, oe_cf (fun p => oe_anc L i p) F)) : ∀ (t s : Nat) (x y : Int32), y = nI t - 1 → t ≤ i → s + oe_ct (fun a => oe_anc L i a ∧ ¬ F a = 0) t = oe_ct (fun a => oe_anc L i a ∧ ¬ F a = 0) i → oe_min L i t x → wX_reveal_24 post (nI c) m (t + 1) (nI s) x y N L (oe_cf (fun p => t ≤ p ∧ oe_anc L i p) F) := by
  intro t
  induction t with
  | zero =>
    intro s x y hy ht hs hM
    have h : y < 0 := by rw [hy]; exact oe_neg
    have e : s = oe_ct (fun a => oe_anc L i a ∧ ¬ F a = 0) i := by rw [← hs]; rfl
    rw [oe_cfE (Q := fun p => 0 ≤ p ∧ oe_anc L i p) (Q' := fun p => oe_anc L i p) (fun p => ⟨fun q => q.2, fun q => ⟨Nat.zero_le _, q⟩⟩), e]
    exact br_t h hp
  | succ t ih =>
    intro s x y hy ht hs hM
    rw [nI_pred] at hy
    subst hy
    have h : ¬ nI t < 0 := nI_pos (by omega)
    have vt := oe_in (n := t) (by omega)
    have ct := oe_cl (n := t) (by omega)
    have hQ : ∀ p, p ≠ t → (t + 1 ≤ p ∧ oe_anc L i p ↔ t ≤ p ∧ oe_anc L i p) := fun p hp => ⟨fun q => ⟨by omega, q.2⟩, fun q => ⟨by have := q.1; omega, q.2⟩⟩
    by_cases z : x ≤ L t
    · obtain ⟨hM', na⟩ := oe_minS hM z
      rw [oe_ctF (fun q => na q.1)] at hs
      have H := ih s x _ rfl (by omega) hs hM'
      rw [← oe_cfE (Q := fun p => t + 1 ≤ p ∧ oe_anc L i p) (fun p => by
        by_cases e : p = t
        · subst e
          exact ⟨fun q => absurd q.2 na, fun q => absurd q.2 na⟩
        · exact hQ p e)] at H
      exact br_f h ⟨vt, br_t (by rw [ct]; exact z) <| nm_r (oe_mm _) H⟩
    · obtain ⟨hM', ya⟩ := oe_minT (by omega) hM z
      have eF : oe_cf (fun p => t + 1 ≤ p ∧ oe_anc L i p) F (nI t).toNatClampNeg = F t := by
        rw [ct]; exact oe_cfF fun q => absurd q.1 (by omega)
      by_cases w : F t = 0
      · rw [oe_ctF (fun q => q.2 w)] at hs
        have H := ih s (L t) _ rfl (by omega) hs hM'
        rw [← oe_cf0 (Q := fun p => t + 1 ≤ p ∧ oe_anc L i p) t hQ (fun q => absurd q.1 (by omega)) w] at H
        exact br_f h ⟨vt, br_f (by rw [ct]; exact z) ⟨vt, nm_r (by rw [ct]) ⟨vt, br_t (by rw [eF]; exact w) <| nm_r (oe_mm _) H⟩⟩⟩
      · rw [oe_ctT (P := fun a => oe_anc L i a ∧ ¬ F a = 0) ⟨ya, w⟩] at hs
        have H := ih (s + 1) (L t) _ rfl (by omega) (by omega) hM'
        rw [← oe_cfU (Q := fun p => t + 1 ≤ p ∧ oe_anc L i p) (Q' := fun p => t ≤ p ∧ oe_anc L i p) t hQ ⟨Nat.le_refl _, ya⟩] at H
        exact br_f h ⟨vt, br_f (by rw [ct]; exact z) ⟨vt, nm_r (by rw [ct]) ⟨vt, br_f (by rw [eF]; exact w) ⟨vt, nm_r (by rw [ct, oe_n0]) <| nm_r (nI_1 s) <| nm_r (oe_mm _) H⟩⟩⟩⟩
theorem oe_rvl14 {c : Nat} (hc : c ≤ 40) (m : Int32) (N L F kN kL kF : Nat → Int32) (i : Nat) (hi : i < c) (post : Int32 → SY → Prop) (hp : post (nI (oe_ct (fun a => oe_anc L i a ∧ ¬ F a = 0) i)) (nI c, m, N, L, oe_cf (fun p => oe_anc L i p) F, kN, kL, kF)) : ∀ d j : Nat, j + d = i → wY_reveal_14 post (nI i) (nI c) m (d + 1) (nI (oe_ct (fun a => oe_anc L i a ∧ ¬ F a = 0) j)) (nI j) N L (oe_cf (fun p => p < j ∧ oe_anc L i p) F) kN kL kF := by
  intro d
  induction d with
  | zero =>
    intro j hj
    obtain rfl : j = i := by omega
    rw [oe_cfE (Q := fun p => p < j ∧ oe_anc L j p) (Q' := fun p => oe_anc L j p) (fun p => ⟨fun q => q.2, fun q => ⟨q.1, q⟩⟩)]
    exact br_t (Int32.le_refl _) hp
  | succ d ih =>
    intro j hj
    have h : ¬ nI i ≤ nI j := nI_ge (by omega) (by omega)
    have vj := oe_in (n := j) (by omega)
    have cj := oe_cl (n := j) (by omega)
    have hQ : ∀ p, p ≠ j → (p < j ∧ oe_anc L i p ↔ p < j + 1 ∧ oe_anc L i p) := fun p hp => ⟨fun q => ⟨by have := q.1; omega, q.2⟩, fun q => ⟨by have := q.1; omega, q.2⟩⟩
    have H := ih (j + 1) (by omega)
    obtain ⟨r, hE, hX, hY⟩ := oe_end hc m N L (oe_cf (fun p => p < j ∧ oe_anc L i p) F) kN kL kF j (by omega)
    have hA := oe_ancE (i := i) (by omega) hi hE
    have h2 := hE.2.1
    by_cases z : r ≤ i
    · have na := hA.1 z
      rw [oe_ctF (fun q => na q.1), ← oe_cfE (Q := fun p => p < j ∧ oe_anc L i p) (fun p => by
        by_cases e : p = j
        · subst e
          exact ⟨fun q => absurd q.2 na, fun q => absurd q.2 na⟩
        · exact hQ p e)] at H
      exact br_f h <| hY _ <| br_t (nI_le z (by omega)) <| nm_r (nI_1 j) H
    · have ya := hA.2 z
      have z' : ¬ nI r ≤ nI i := nI_ge (by omega) (by omega)
      have eF : oe_cf (fun p => p < j ∧ oe_anc L i p) F (nI j).toNatClampNeg = F j := by
        rw [cj]; exact oe_cfF fun q => absurd q.1 (by omega)
      by_cases w : F j = 0
      · rw [oe_ctF (fun q => q.2 w), ← oe_cf0 (Q := fun p => p < j ∧ oe_anc L i p) j hQ (fun q => absurd q.1 (by omega)) w] at H
        exact br_f h <| hY _ <| br_f z' ⟨vj, br_t (by rw [eF]; exact w) <| nm_r (nI_1 j) H⟩
      · rw [oe_ctT (P := fun a => oe_anc L i a ∧ ¬ F a = 0) ⟨ya, w⟩, ← oe_cfU (Q := fun p => p < j ∧ oe_anc L i p) (Q' := fun p => p < j + 1 ∧ oe_anc L i p) j hQ ⟨Nat.lt_succ_self _, ya⟩] at H
        exact br_f h <| hY _ <| br_f z' ⟨vj, br_f (by rw [eF]; exact w) ⟨vj, nm_r (by rw [cj, oe_n0]) <| nm_r (nI_1 _) <| nm_r (nI_1 j) H⟩⟩
theorem i_vc_reveal {k : Nat} {u : SX} {v : SY} (I : i_Rel k u v) (hk : k + 3 ≤ 1536) (v1 : Int32) : wpX_reveal (fun r u' => wpY_reveal (fun r' v' => r' = r ∧ i_Rel (k + 3) u' v') v v1) u v1 := by
  have I' := I
  obtain ⟨c, m, N, L, F, kN, kL, kF, hc, hF, rfl, rfl⟩ := I
  unfold wpX_reveal wpY_reveal; dsimp only
  rcases oe_ix v1 hc m N L F kN kL kF with ⟨i, hi, rfl⟩ | ⟨bX, bY⟩
  · have vi := oe_in (n := i) (by omega)
    have ci := oe_cl (n := i) (by omega)
    have eX : oe_cf (fun p => i ≤ p ∧ oe_anc L i p) F = F := by
      funext p
      exact oe_cfF fun q => absurd q.2.1 (by have := q.1; omega)
    have eY : oe_cf (fun p => p < 0 ∧ oe_anc L i p) F = F := by
      funext p
      exact oe_cfF fun q => absurd q.1 (by omega)
    have HX := fun post hp => oe_rvl24 hc m N L F i hi post hp i 0 (L i) _ rfl (Nat.le_refl _) (by omega) (oe_min0 L i)
    have HY := fun post hp => oe_rvl14 hc m N L F kN kL kF i hi post hp i 0 (by omega)
    rw [eX] at HX
    rw [eY] at HY
    exact oe_plX hi hc <| br_f oe_10 ⟨vi, nm_r (by rw [ci]) <| nm_e ⟨_, HX _ <| oe_plY hi hc <| br_f oe_10 ⟨_, HY _ ⟨rfl, oe_R _ _ _ _ _ _ _ hc (oe_cfB hF)⟩⟩⟩⟩
  · exact bX _ (br_t rfl (bY _ (br_t rfl ⟨rfl, I'⟩)))
