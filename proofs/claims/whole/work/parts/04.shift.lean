theorem i_vc_indent {k : Nat} {u : SX} {v : SY} (I : i_Rel k u v) (hk : k + 3 ≤ 1536) (v1 : Int32) : wpX_indent (fun r u' => wpY_indent (fun r' v' => r' = r ∧ i_Rel (k + 3) u' v') v v1) u v1 := by
  have I' := I
  obtain ⟨c, m, N, L, F, kN, kL, kF, hc, hF, rfl, rfl⟩ := I
  unfold wpX_indent wpY_indent; dsimp only
  rcases oe_ix v1 hc m N L F kN kL kF with ⟨i, hi, rfl⟩ | ⟨bX, bY⟩
  · obtain ⟨r, hE, hX, hY⟩ := oe_end hc m N L F kN kL kF i hi
    by_cases i0 : i = 0
    · subst i0
      exact oe_plX hi hc <| br_f oe_10 <| br_t nI_0 <| oe_plY hi hc <| br_f oe_10 <| hY _ <| br_t nI_0 ⟨rfl, I'⟩
    have hne : ¬ nI i = 0 := nI_ne0 (by omega) (by omega)
    have vi := oe_in (n := i) (by omega)
    have vj : vp_in (nI i - 1) 40 := by
      rw [oe_c1, pk_sub (by omega)]; exact oe_in (by omega)
    by_cases z : L (nI i).toNatClampNeg ≤ L (nI i - 1).toNatClampNeg
    · have z' := Int32.not_lt.mpr z
      obtain ⟨d, dX, dY⟩ := oe_deep (nI c) m N L F kN kL kF i r (by have := hE.1; omega) (by have := hE.2.1; omega)
      obtain ⟨L', sX, sY⟩ := oe_shift (nI c) m N L F kN kL kF i r 1 (by have := hE.1; omega) (by have := hE.2.1; omega)
      by_cases w : d = 7
      · exact oe_plX hi hc <| br_f oe_10 <| br_f hne ⟨vi, vj, br_t z <| hX _ <| dX _ <| br_t w <| oe_plY hi hc <| br_f oe_10 <| hY _ <| br_f hne ⟨vi, vj, br_f z' <| dY _ <| br_t w ⟨rfl, I'⟩⟩⟩
      · exact oe_plX hi hc <| br_f oe_10 <| br_f hne ⟨vi, vj, br_t z <| hX _ <| dX _ <| br_f w <| sX _ ⟨vi, oe_plY hi hc <| br_f oe_10 <| hY _ <| br_f hne ⟨vi, vj, br_f z' <| dY _ <| br_f w <| sY _ ⟨vi, rfl, oe_R _ _ _ _ _ _ _ hc hF⟩⟩⟩⟩
    · have z' := Int32.not_le.mp z
      exact oe_plX hi hc <| br_f oe_10 <| br_f hne ⟨vi, vj, br_f z <| oe_plY hi hc <| br_f oe_10 <| hY _ <| br_f hne ⟨vi, vj, br_t z' ⟨rfl, I'⟩⟩⟩
  · exact bX _ (br_t rfl (bY _ (br_t rfl ⟨rfl, I'⟩)))
theorem i_vc_outdent {k : Nat} {u : SX} {v : SY} (I : i_Rel k u v) (hk : k + 3 ≤ 1536) (v1 : Int32) : wpX_outdent (fun r u' => wpY_outdent (fun r' v' => r' = r ∧ i_Rel (k + 3) u' v') v v1) u v1 := by
  have I' := I
  obtain ⟨c, m, N, L, F, kN, kL, kF, hc, hF, rfl, rfl⟩ := I
  unfold wpX_outdent wpY_outdent; dsimp only
  rcases oe_ix v1 hc m N L F kN kL kF with ⟨i, hi, rfl⟩ | ⟨bX, bY⟩
  · have vi := oe_in (n := i) (by omega)
    by_cases z : L (nI i).toNatClampNeg = 0
    · exact oe_plX hi hc <| br_f oe_10 ⟨vi, br_t z <| oe_plY hi hc <| br_f oe_10 ⟨vi, br_t z ⟨rfl, I'⟩⟩⟩
    · obtain ⟨r, hE, hX, hY⟩ := oe_end hc m N L F kN kL kF i hi
      obtain ⟨L', sX, sY⟩ := oe_shift (nI c) m N L F kN kL kF i r (-1) (by have := hE.1; omega) (by have := hE.2.1; omega)
      exact oe_plX hi hc <| br_f oe_10 ⟨vi, br_f z <| hX _ <| sX _ ⟨vi, oe_plY hi hc <| br_f oe_10 ⟨vi, br_f z <| hY _ <| sY _ ⟨vi, rfl, oe_R _ _ _ _ _ _ _ hc hF⟩⟩⟩⟩
  · exact bX _ (br_t rfl (bY _ (br_t rfl ⟨rfl, I'⟩)))
theorem i_vc_fold {k : Nat} {u : SX} {v : SY} (I : i_Rel k u v) (hk : k + 3 ≤ 1536) (v1 : Int32) (v2 : Int32) : wpX_fold (fun r u' => wpY_fold (fun r' v' => r' = r ∧ i_Rel (k + 3) u' v') v v1 v2) u v1 v2 := by
  have I' := I
  obtain ⟨c, m, N, L, F, kN, kL, kF, hc, hF, rfl, rfl⟩ := I
  unfold wpX_fold wpY_fold; dsimp only
  rcases oe_ix v1 hc m N L F kN kL kF with ⟨i, hi, rfl⟩ | ⟨bX, bY⟩
  · have vi := oe_in (n := i) (by omega)
    have e0 : oe_B (upd F (nI i).toNatClampNeg (vp_nar .boolean 0)) := oe_Bu hF _ (by rw [oe_n0, oe_n0])
    have e1 : oe_B (upd F (nI i).toNatClampNeg (vp_nar .boolean 1)) := oe_Bu hF _ (by rw [oe_n1, oe_n1])
    by_cases z : F (nI i).toNatClampNeg = 0
    · by_cases w : v2 = 0
      · exact oe_plX hi hc <| br_f oe_10 ⟨vi, br_t z <| br_t w ⟨vi, nm_e <| oe_plY hi hc <| br_f oe_10 ⟨vi, br_t z <| br_t w ⟨vi, nm_e ⟨rfl, oe_R _ _ _ _ _ _ _ hc e0⟩⟩⟩⟩⟩
      · exact oe_plX hi hc <| br_f oe_10 ⟨vi, br_t z <| br_f w ⟨vi, nm_e <| oe_plY hi hc <| br_f oe_10 ⟨vi, br_t z <| br_f w ⟨vi, nm_e ⟨rfl, oe_R _ _ _ _ _ _ _ hc e1⟩⟩⟩⟩⟩
    · by_cases w : v2 = 0
      · exact oe_plX hi hc <| br_f oe_10 ⟨vi, br_f z <| br_t w ⟨vi, nm_e <| oe_plY hi hc <| br_f oe_10 ⟨vi, br_f z <| br_t w ⟨vi, nm_e ⟨rfl, oe_R _ _ _ _ _ _ _ hc e0⟩⟩⟩⟩⟩
      · exact oe_plX hi hc <| br_f oe_10 ⟨vi, br_f z <| br_f w ⟨vi, nm_e <| oe_plY hi hc <| br_f oe_10 ⟨vi, br_f z <| br_f w ⟨vi, nm_e ⟨rfl, oe_R _ _ _ _ _ _ _ hc e1⟩⟩⟩⟩⟩
  · exact bX _ (br_t rfl (bY _ (br_t rfl ⟨rfl, I'⟩)))
/-- the branch of m headings at i taken out, as far as the headings before k have moved -/
def oe_dl (i m k : Nat) (g : Nat → Int32) : Nat → Int32 := fun p => if i ≤ p ∧ p + m < k then g (p + m) else g p
theorem oe_dl0 (i m : Nat) (g : Nat → Int32) : oe_dl i m (i + m) g = g := by
  funext p
  unfold oe_dl
  exact if_neg (by omega)
theorem oe_dlS (i m k : Nat) (g : Nat → Int32) (h : i + m ≤ k) : upd (oe_dl i m k g) (k - m) (oe_dl i m k g k) = oe_dl i m (k + 1) g := by
  funext p
  simp only [oe_dl, upd]
  repeat' split
  all_goals first | rfl | (exfalso; omega) | exact congrArg g (by omega)
theorem oe_dlB {i m k : Nat} {F : Nat → Int32} (hF : oe_B F) : oe_B (oe_dl i m k F) := by
  intro p
  unfold oe_dl
  split
  · exact hF _
  · exact hF _
theorem oe_cut7 {c : Nat} (hc : c ≤ 40) (mm : Int32) (N L F : Nat → Int32) (hF : oe_B F) (i m : Nat) (post : SX → Prop) (hp : post (nI (c - m), mm, oe_dl i m c N, oe_dl i m c L, oe_dl i m c F)) : ∀ d j : Nat, j + d = c → i + m ≤ j → wX_cut_7 post (nI m) (d + 1) (nI j) (nI c) mm (oe_dl i m j N) (oe_dl i m j L) (oe_dl i m j F) := by
  intro d
  induction d with
  | zero =>
    intro j hj hij
    obtain rfl : j = c := by omega
    have h : nI j ≤ nI j := Int32.le_refl _
    exact br_t h (nm_r (pk_sub (by omega)) hp)
  | succ d ih =>
    intro j hj hij
    have h : ¬ nI c ≤ nI j := nI_ge (by omega) (by omega)
    have H := ih (j + 1) (by omega) (by omega)
    rw [← oe_dlS i m j N hij, ← oe_dlS i m j L hij, ← oe_dlS i m j F hij] at H
    exact br_f h (oe_cpX j (j - m) rfl (pk_sub (by omega)) (by omega) (by omega) (oe_dlB hF) (nm_r (nI_1 j) H))
theorem oe_del2 {c : Nat} (hc : c ≤ 40) (mm : Int32) (N L F kN kL kF : Nat → Int32) (hF : oe_B F) (i m : Nat) (post : SY → Prop) (hp : post (nI (c - m), mm, oe_dl i m c N, oe_dl i m c L, oe_dl i m c F, kN, kL, kF)) : ∀ d j : Nat, j + d = c → i + m ≤ j → wY_delete_2 post (nI i) (nI (i + m)) (d + 1) (nI j) (nI c) mm (oe_dl i m j N) (oe_dl i m j L) (oe_dl i m j F) kN kL kF := by
  have em : nI (i + m) - nI i = nI m := by rw [pk_sub (by omega), Nat.add_sub_cancel_left]
  intro d
  induction d with
  | zero =>
    intro j hj hij
    obtain rfl : j = c := by omega
    have h : nI j ≤ nI j := Int32.le_refl _
    exact br_t h (nm_r (by rw [em]; exact pk_sub (by omega)) hp)
  | succ d ih =>
    intro j hj hij
    have h : ¬ nI c ≤ nI j := nI_ge (by omega) (by omega)
    have H := ih (j + 1) (by omega) (by omega)
    rw [← oe_dlS i m j N hij, ← oe_dlS i m j L hij, ← oe_dlS i m j F hij] at H
    exact br_f h (oe_cpY j (j - m) rfl (by rw [em]; exact pk_sub (by omega)) (by omega) (by omega) (oe_dlB hF) (nm_r (nI_1 j) H))
theorem oe_cut {c : Nat} (hc : c ≤ 40) {mm : Int32} {N L F : Nat → Int32} (hF : oe_B F) (i j : Nat) (hij : i ≤ j) (hj : j ≤ c) {post : SX → Prop} (hp : post (nI (c - (j - i)), mm, oe_dl i (j - i) c N, oe_dl i (j - i) c L, oe_dl i (j - i) c F)) : wpX_cut post (nI c, mm, N, L, F) (nI i) (nI j) := by
  have H := oe_cut7 hc mm N L F hF i (j - i) post hp (c - j) j (by omega) (by omega)
  have e : ∀ g, oe_dl i (j - i) j g = g := by
    intro g
    have := oe_dl0 i (j - i) g
    rwa [show i + (j - i) = j from by omega] at this
  rw [e, e, e] at H
  exact nm_r (pk_sub hij) ⟨_, H⟩
theorem oe_del {c : Nat} (hc : c ≤ 40) {mm : Int32} {N L F kN kL kF : Nat → Int32} (hF : oe_B F) (i j : Nat) (hij : i ≤ j) (hj : j ≤ c) {post : SY → Prop} (hp : post (nI (c - (j - i)), mm, oe_dl i (j - i) c N, oe_dl i (j - i) c L, oe_dl i (j - i) c F, kN, kL, kF)) : wpY_delete post (nI c, mm, N, L, F, kN, kL, kF) (nI i) (nI j) := by
  have H := oe_del2 hc mm N L F kN kL kF hF i (j - i) post hp (c - j) j (by omega) (by omega)
  have e : ∀ g, oe_dl i (j - i) j g = g := by
    intro g
    have := oe_dl0 i (j - i) g
    rwa [show i + (j - i) = j from by omega] at this
  rw [e, e, e, show i + (j - i) = j from by omega] at H
  exact ⟨_, H⟩
theorem i_vc_remove {k : Nat} {u : SX} {v : SY} (I : i_Rel k u v) (hk : k + 3 ≤ 1536) (v1 : Int32) : wpX_remove (fun r u' => wpY_remove (fun r' v' => r' = r ∧ i_Rel (k + 3) u' v') v v1) u v1 := by
  have I' := I
  obtain ⟨c, m, N, L, F, kN, kL, kF, hc, hF, rfl, rfl⟩ := I
  unfold wpX_remove wpY_remove; dsimp only
  rcases oe_ix v1 hc m N L F kN kL kF with ⟨i, hi, rfl⟩ | ⟨bX, bY⟩
  · obtain ⟨r, hE, hX, hY⟩ := oe_end hc m N L F kN kL kF i hi
    have h1 := hE.1
    have h2 := hE.2.1
    exact oe_plX hi hc <| br_f oe_10 <| hX _ <| oe_cut hc hF i r (by omega) h2 <| oe_plY hi hc <| br_f oe_10 <| hY _ <| oe_del hc hF i r (by omega) h2 ⟨rfl, oe_R _ _ _ _ _ _ _ (by omega) (oe_dlB hF)⟩
  · exact bX _ (br_t rfl (bY _ (br_t rfl ⟨rfl, I'⟩)))
theorem i_vc_dissolve {k : Nat} {u : SX} {v : SY} (I : i_Rel k u v) (hk : k + 3 ≤ 1536) (v1 : Int32) : wpX_dissolve (fun r u' => wpY_dissolve (fun r' v' => r' = r ∧ i_Rel (k + 3) u' v') v v1) u v1 := by
  have I' := I
  obtain ⟨c, m, N, L, F, kN, kL, kF, hc, hF, rfl, rfl⟩ := I
  unfold wpX_dissolve wpY_dissolve; dsimp only
  rcases oe_ix v1 hc m N L F kN kL kF with ⟨i, hi, rfl⟩ | ⟨bX, bY⟩
  · obtain ⟨r, hE, hX, hY⟩ := oe_end hc m N L F kN kL kF i hi
    have h1 := hE.1
    have h2 := hE.2.1
    obtain ⟨L', sX, sY⟩ := oe_shift (nI c) m N L F kN kL kF (i + 1) r (-1) (by omega) (by omega)
    rw [nI_1 i]
    exact oe_plX hi hc <| br_f oe_10 <| hX _ <| sX _ <| oe_cut hc hF i (i + 1) (by omega) (by omega) <| oe_plY hi hc <| br_f oe_10 <| hY _ <| sY _ <| oe_del hc hF i (i + 1) (by omega) (by omega) ⟨rfl, oe_R _ _ _ _ _ _ _ (by omega) (oe_dlB hF)⟩
  · exact bX _ (br_t rfl (bY _ (br_t rfl ⟨rfl, I'⟩)))
