/-- the stretch from a to e reversed, its outer k on either side -/
def oe_rv (a e k : Nat) (g : Nat → Int32) : Nat → Int32 := fun p => if (a ≤ p ∧ p < a + k) ∨ (e ≤ p + k ∧ p < e) then g (a + e - 1 - p) else g p
def oe_re (a e : Nat) (g : Nat → Int32) : Nat → Int32 := fun p => if a ≤ p ∧ p < e then g (a + e - 1 - p) else g p
/-- the stretches a to b and b to e change places -/
def oe_rot (a b e : Nat) (g : Nat → Int32) : Nat → Int32 := fun p => if a ≤ p ∧ p < e then (if p < a + (e - b) then g (p + (b - a)) else g (p - (e - b))) else g p
theorem oe_rv0 (a e : Nat) (g : Nat → Int32) : oe_rv a e 0 g = g := by
  funext p
  exact if_neg (by omega)
theorem oe_rvS (a e k : Nat) (g : Nat → Int32) (h : a + 2 * k + 2 ≤ e) : upd (upd (oe_rv a e k g) (a + k) (oe_rv a e k g (e - 1 - k))) (e - 1 - k) (oe_rv a e k g (a + k)) = oe_rv a e (k + 1) g := by
  funext p
  simp only [oe_rv, upd]
  repeat' split
  all_goals first | rfl | (exfalso; omega) | exact congrArg g (by omega)
theorem oe_rvE (a e : Nat) (g : Nat → Int32) (h : a ≤ e) : oe_rv a e ((e - a) / 2) g = oe_re a e g := by
  funext p
  simp only [oe_rv, oe_re]
  repeat' split
  all_goals first | rfl | (exfalso; omega) | exact congrArg g (by omega)
theorem oe_re3 (a b e : Nat) (g : Nat → Int32) (h1 : a ≤ b) (h2 : b ≤ e) : oe_re a e (oe_re b e (oe_re a b g)) = oe_rot a b e g := by
  funext p
  simp only [oe_re, oe_rot]
  repeat' split
  all_goals first | rfl | (exfalso; omega) | exact congrArg g (by omega)
theorem oe_rvB {a e k : Nat} {F : Nat → Int32} (hF : oe_B F) : oe_B (oe_rv a e k F) := by
  intro p
  unfold oe_rv
  split
  · exact hF _
  · exact hF _
theorem oe_reB {a e : Nat} {F : Nat → Int32} (hF : oe_B F) : oe_B (oe_re a e F) := by
  intro p
  unfold oe_re
  split
  · exact hF _
  · exact hF _
theorem oe_rotB {a b e : Nat} {F : Nat → Int32} (hF : oe_B F) : oe_B (oe_rot a b e F) := by
  intro p
  simp only [oe_rot]
  repeat' split
  all_goals exact hF _
theorem oe_swX {x y : Int32} (p q : Nat) (hx : x = nI p) (hy : y = nI q) (hp : p < 40) (hq : q < 40) {c m : Int32} {N L F : Nat → Int32} (hF : oe_B F) {post : SX → Prop} (h : post (c, m, upd (upd N p (N q)) q (N p), upd (upd L p (L q)) q (L p), upd (upd F p (F q)) q (F p))) : wpX_swapHeadings post (c, m, N, L, F) x y := by
  subst hx hy
  have cp := oe_cl (n := p) (by omega)
  have cq := oe_cl (n := q) (by omega)
  have vp := oe_in hp
  have vq := oe_in hq
  exact ⟨vp, nm_r (by rw [cp]) ⟨vp, nm_r (by rw [cp]) ⟨vp, nm_r (by rw [cp]) (oe_cpX q p rfl rfl hq hp hF ⟨vq, nm_r (by rw [cq]) ⟨vq, nm_r (by rw [cq]) ⟨vq, nm_r (by rw [cq, hF p]) h⟩⟩⟩)⟩⟩⟩
theorem oe_rev9 (cc m : Int32) (N L F : Nat → Int32) (hF : oe_B F) (a e : Nat) (h : a ≤ e) (he : e ≤ 40) (post : SX → Prop) (hp : post (cc, m, oe_re a e N, oe_re a e L, oe_re a e F)) : ∀ d k : Nat, k + d = (e - a) / 2 → wX_reverse_9 post (nI a) (nI e) (nI ((e - a) / 2)) (d + 1) (nI k) cc m (oe_rv a e k N) (oe_rv a e k L) (oe_rv a e k F) := by
  intro d
  induction d with
  | zero =>
    intro k hk
    obtain rfl : k = (e - a) / 2 := by omega
    rw [oe_rvE a e N h, oe_rvE a e L h, oe_rvE a e F h]
    exact br_t (Int32.le_refl _) hp
  | succ d ih =>
    intro k hk
    have hh : ¬ nI ((e - a) / 2) ≤ nI k := nI_ge (by omega) (by omega)
    have H := ih (k + 1) (by omega)
    have hs : a + 2 * k + 2 ≤ e := by omega
    rw [← oe_rvS a e k N hs, ← oe_rvS a e k L hs, ← oe_rvS a e k F hs] at H
    refine br_f hh (oe_swX (a + k) (e - 1 - k) (nI_add a k) ?_ (by omega) (by omega) (oe_rvB hF) (nm_r (nI_1 k) H))
    rw [oe_c1, pk_sub (by omega), pk_sub (by omega)]
theorem oe_rev {cc m : Int32} {N L F : Nat → Int32} (hF : oe_B F) (a e : Nat) (h : a ≤ e) (he : e ≤ 40) {post : SX → Prop} (hp : post (cc, m, oe_re a e N, oe_re a e L, oe_re a e F)) : wpX_reverse post (cc, m, N, L, F) (nI a) (nI e) := by
  have H := oe_rev9 cc m N L F hF a e h he post hp ((e - a) / 2) 0 (by omega)
  rw [oe_rv0, oe_rv0, oe_rv0] at H
  exact ⟨by decide, nm_r (by rw [pk_sub h, oe_c2]; exact pk_div (by omega) (by omega) (by omega)) ⟨_, H⟩⟩
theorem oe_exch {cc m : Int32} {N L F : Nat → Int32} (hF : oe_B F) (a b e : Nat) (h1 : a ≤ b) (h2 : b ≤ e) (he : e ≤ 40) {post : SX → Prop} (hp : post (cc, m, oe_rot a b e N, oe_rot a b e L, oe_rot a b e F)) : wpX_exchange post (cc, m, N, L, F) (nI a) (nI b) (nI e) := by
  unfold wpX_exchange; dsimp only
  rw [← oe_re3 a b e N h1 h2, ← oe_re3 a b e L h1 h2, ← oe_re3 a b e F h1 h2] at hp
  exact oe_rev hF a b h1 (by omega) <| oe_rev (oe_reB hF) b e h2 he <| oe_rev (oe_reB (oe_reB hF)) a e (by omega) he hp
/-- the first x of what was kept, written at a -/
def oe_pt (a x : Nat) (K g : Nat → Int32) : Nat → Int32 := fun p => if a ≤ p ∧ p < a + x then K (p - a) else g p
/-- what lies at t and behind it, moved on by m, up to c -/
def oe_sr (t m c : Nat) (g : Nat → Int32) : Nat → Int32 := fun p => if t + m ≤ p ∧ p < c then g (p - m) else g p
/-- the first t from i, kept -/
def oe_kp (i t : Nat) (g K : Nat → Int32) : Nat → Int32 := fun x => if x < t then g (i + x) else K x
theorem oe_pt0 (a : Nat) (K g : Nat → Int32) : oe_pt a 0 K g = g := by
  funext p
  exact if_neg (by omega)
theorem oe_ptS (a x : Nat) (K g : Nat → Int32) : upd (oe_pt a x K g) (a + x) (K x) = oe_pt a (x + 1) K g := by
  funext p
  simp only [oe_pt, upd]
  repeat' split
  all_goals first | rfl | (exfalso; omega) | exact congrArg K (by omega)
theorem oe_sr0 (m c : Nat) (g : Nat → Int32) (h : m ≤ c) : oe_sr (c - m) m c g = g := by
  funext p
  exact if_neg (by omega)
theorem oe_srS (t m c : Nat) (g : Nat → Int32) (h : t + m < c) : upd (oe_sr (t + 1) m c g) (t + m) (oe_sr (t + 1) m c g t) = oe_sr t m c g := by
  funext p
  simp only [oe_sr, upd]
  repeat' split
  all_goals first | rfl | (exfalso; omega) | exact congrArg g (by omega)
theorem oe_kp0 (i : Nat) (g K : Nat → Int32) : oe_kp i 0 g K = K := by
  funext p
  exact if_neg (by omega)
theorem oe_kpS (i t : Nat) (g K : Nat → Int32) : upd (oe_kp i t g K) t (g (i + t)) = oe_kp i (t + 1) g K := by
  funext p
  simp only [oe_kp, upd]
  repeat' split
  all_goals first | rfl | (exfalso; omega) | exact congrArg g (by omega)
theorem oe_srB {t m c : Nat} {F : Nat → Int32} (hF : oe_B F) : oe_B (oe_sr t m c F) := by
  intro p
  unfold oe_sr
  split
  · exact hF _
  · exact hF _
/-- what a branch's move leaves -/
def oe_mv (i m a c : Nat) (g K : Nat → Int32) : Nat → Int32 := oe_pt a m (oe_kp i m g K) (oe_sr a m c (oe_dl i m c g))
theorem oe_mvL (i m a c : Nat) (g K : Nat → Int32) (h1 : a ≤ i) (h2 : i + m ≤ c) : oe_mv i m a c g K = oe_rot a i (i + m) g := by
  funext p
  simp only [oe_mv, oe_pt, oe_kp, oe_sr, oe_dl, oe_rot]
  repeat' split
  all_goals first | rfl | (exfalso; omega) | exact congrArg g (by omega)
theorem oe_mvR (i m a c : Nat) (g K : Nat → Int32) (h1 : i ≤ a) (h2 : a + m ≤ c) : oe_mv i m a c g K = oe_rot i (i + m) (a + m) g := by
  funext p
  simp only [oe_mv, oe_pt, oe_kp, oe_sr, oe_dl, oe_rot]
  repeat' split
  all_goals first | rfl | (exfalso; omega) | exact congrArg g (by omega)
theorem oe_mv119 (cc mm : Int32) (N L F kN kL kF : Nat → Int32) (a m : Nat) (ha : a + m ≤ 40) (hK : ∀ x, x < m → vp_nar .boolean (kF x) = kF x) (post : SY → Prop) (hp : post (cc, mm, oe_pt a m kN N, oe_pt a m kL L, oe_pt a m kF F, kN, kL, kF)) : ∀ d x : Nat, x + d = m → wY_moveTo_119 post (nI a) (nI m) cc mm (d + 1) (nI x) (oe_pt a x kN N) (oe_pt a x kL L) (oe_pt a x kF F) kN kL kF := by
  intro d
  induction d with
  | zero =>
    intro x hx
    obtain rfl : x = m := by omega
    exact br_t (Int32.le_refl _) hp
  | succ d ih =>
    intro x hx
    have hh : ¬ nI m ≤ nI x := nI_ge (by omega) (by omega)
    have H := ih (x + 1) (by omega)
    have vx := oe_in (n := x) (by omega)
    have cx := oe_cl (n := x) (by omega)
    have va : vp_in (nI a + nI x) 40 := by rw [nI_add]; exact oe_in (by omega)
    have ca : (nI a + nI x).toNatClampNeg = a + x := by rw [nI_add]; exact oe_cl (by omega)
    rw [← oe_ptS a x kN N, ← oe_ptS a x kL L, ← oe_ptS a x kF F] at H
    exact br_f hh ⟨vx, va, nm_r (by rw [cx, ca]) ⟨vx, va, nm_r (by rw [cx, ca]) ⟨vx, va, nm_r (by rw [cx, ca, hK x (by omega)]) (nm_r (nI_1 x) H)⟩⟩⟩
theorem oe_mv82 {c : Nat} (hc : c ≤ 40) (mm : Int32) (N L F kN kL kF : Nat → Int32) (hF : oe_B F) (a m : Nat) (ha : a + m ≤ c) (hK : ∀ x, x < m → vp_nar .boolean (kF x) = kF x) (post : SY → Prop) (hp : post (nI c, mm, oe_pt a m kN (oe_sr a m c N), oe_pt a m kL (oe_sr a m c L), oe_pt a m kF (oe_sr a m c F), kN, kL, kF)) : ∀ (d : Nat) (x : Int32), x = nI (a + d) - 1 → a + d + m ≤ c → wY_moveTo_82 post (nI a) (nI m) (d + 1) x (nI (c - m)) mm (oe_sr (a + d) m c N) (oe_sr (a + d) m c L) (oe_sr (a + d) m c F) kN kL kF := by
  intro d
  induction d with
  | zero =>
    intro x hx hd
    have hh : x < nI a := by rw [hx]; exact oe_dlt a (by omega)
    have H := oe_mv119 (nI c) mm (oe_sr a m c N) (oe_sr a m c L) (oe_sr a m c F) kN kL kF a m (by omega) hK post hp m 0 (by omega)
    rw [oe_pt0, oe_pt0, oe_pt0] at H
    exact br_t hh (nm_r (by rw [nI_add, Nat.sub_add_cancel (by omega)]) ⟨_, H⟩)
  | succ d ih =>
    intro x hx hd
    rw [← Nat.add_assoc, nI_pred] at hx
    subst hx
    have hh : ¬ nI (a + d) < nI a := nI_nlt (by omega) (by omega)
    have H := ih _ rfl (by omega)
    have hs : a + d + m < c := by omega
    rw [← oe_srS (a + d) m c N hs, ← oe_srS (a + d) m c L hs, ← oe_srS (a + d) m c F hs] at H
    exact br_f hh (oe_cpY (a + d) (a + d + m) rfl (nI_add _ _) (by omega) (by omega) (oe_srB hF) (nm_r (oe_mm _) H))
theorem oe_mv3 {c : Nat} (hc : c ≤ 40) (mm : Int32) (N L F kN kL kF : Nat → Int32) (hF : oe_B F) (i m a : Nat) (hi : i + m ≤ c) (ha : a + m ≤ c) (post : SY → Prop) (hp : post (nI c, mm, oe_mv i m a c N kN, oe_mv i m a c L kL, oe_mv i m a c F kF, oe_kp i m N kN, oe_kp i m L kL, oe_kp i m F kF)) : ∀ d t : Nat, t + d = m → wY_moveTo_3 post (nI i) (nI (i + m)) (nI a) (nI c) mm (d + 1) (nI (i + t)) N L F (oe_kp i t N kN) (oe_kp i t L kL) (oe_kp i t F kF) := by
  intro d
  induction d with
  | zero =>
    intro t ht
    obtain rfl : t = m := by omega
    have H := oe_mv82 hc mm (oe_dl i t c N) (oe_dl i t c L) (oe_dl i t c F) (oe_kp i t N kN) (oe_kp i t L kL) (oe_kp i t F kF) (oe_dlB hF) a t ha (fun x hx => by
      unfold oe_kp
      rw [if_pos hx]
      exact hF _) post hp (c - t - a) _ rfl (by omega)
    rw [show a + (c - t - a) = c - t from by omega, oe_sr0 t c _ (by omega), oe_sr0 t c _ (by omega), oe_sr0 t c _ (by omega)] at H
    refine br_t (Int32.le_refl _) (oe_del hc hF i (i + t) (by omega) hi ?_)
    rw [show i + t - i = t from by omega]
    exact nm_r (by rw [pk_sub (by omega), show i + t - i = t from by omega]) (nm_e ⟨_, H⟩)
  | succ d ih =>
    intro t ht
    have hh : ¬ nI (i + m) ≤ nI (i + t) := nI_ge (by omega) (by omega)
    have H := ih (t + 1) (by omega)
    have vx := oe_in (n := i + t) (by omega)
    have cx := oe_cl (n := i + t) (by omega)
    have e : nI (i + t) - nI i = nI t := by rw [pk_sub (by omega), Nat.add_sub_cancel_left]
    have va : vp_in (nI (i + t) - nI i) 40 := by rw [e]; exact oe_in (by omega)
    have ca : (nI (i + t) - nI i).toNatClampNeg = t := by rw [e]; exact oe_cl (by omega)
    rw [← oe_kpS i t N kN, ← oe_kpS i t L kL, ← oe_kpS i t F kF, ← Nat.add_assoc] at H
    exact br_f hh ⟨vx, va, nm_r (by rw [cx, ca]) ⟨vx, va, nm_r (by rw [cx, ca]) ⟨vx, va, nm_r (by rw [cx, ca, hF (i + t)]) (nm_r (nI_1 (i + t)) H)⟩⟩⟩
theorem oe_move {c : Nat} (hc : c ≤ 40) {mm : Int32} {N L F kN kL kF : Nat → Int32} (hF : oe_B F) (i m a : Nat) (hi : i + m ≤ c) (ha : a + m ≤ c) {post : SY → Prop} (hp : post (nI c, mm, oe_mv i m a c N kN, oe_mv i m a c L kL, oe_mv i m a c F kF, oe_kp i m N kN, oe_kp i m L kL, oe_kp i m F kF)) : wpY_moveTo post (nI c, mm, N, L, F, kN, kL, kF) (nI i) (nI (i + m)) (nI a) := by
  have H := oe_mv3 hc mm N L F kN kL kF hF i m a hi ha post hp m 0 (by omega)
  rw [oe_kp0, oe_kp0, oe_kp0] at H
  exact ⟨_, H⟩
/-- a move to the left, as the change of two stretches -/
theorem oe_moveL {c : Nat} (hc : c ≤ 40) {mm : Int32} {N L F kN kL kF : Nat → Int32} (hF : oe_B F) (a i j : Nat) (h1 : a ≤ i) (h2 : i ≤ j) (h3 : j ≤ c) {post : SY → Prop} (hp : post (nI c, mm, oe_rot a i j N, oe_rot a i j L, oe_rot a i j F, oe_kp i (j - i) N kN, oe_kp i (j - i) L kL, oe_kp i (j - i) F kF)) : wpY_moveTo post (nI c, mm, N, L, F, kN, kL, kF) (nI i) (nI j) (nI a) := by
  obtain ⟨m, rfl⟩ : ∃ m, j = i + m := ⟨j - i, by omega⟩
  refine oe_move hc hF i m a h3 (by omega) ?_
  rw [oe_mvL i m a c N kN h1 h3, oe_mvL i m a c L kL h1 h3, oe_mvL i m a c F kF h1 h3]
  rwa [Nat.add_sub_cancel_left] at hp
/-- a move to the right -/
theorem oe_moveR {c : Nat} (hc : c ≤ 40) {mm : Int32} {N L F kN kL kF : Nat → Int32} (hF : oe_B F) (i j e : Nat) (h1 : i ≤ j) (h2 : j ≤ e) (h3 : e ≤ c) {x : Int32} (hx : x = nI (e - (j - i))) {post : SY → Prop} (hp : post (nI c, mm, oe_rot i j e N, oe_rot i j e L, oe_rot i j e F, oe_kp i (j - i) N kN, oe_kp i (j - i) L kL, oe_kp i (j - i) F kF)) : wpY_moveTo post (nI c, mm, N, L, F, kN, kL, kF) (nI i) (nI j) x := by
  subst hx
  obtain ⟨m, rfl⟩ : ∃ m, j = i + m := ⟨j - i, by omega⟩
  rw [Nat.add_sub_cancel_left] at hp ⊢
  refine oe_move hc hF i m (e - m) (by omega) (by omega) ?_
  have q := fun g K => oe_mvR i m (e - m) c g K (by omega) (by omega)
  rw [show e - m + m = e from by omega] at q
  rw [q, q, q]
  exact hp
