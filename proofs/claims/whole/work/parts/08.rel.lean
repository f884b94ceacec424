/-- the two states: alike but for the order of the entries -/
def ht_R (x : SX) (y : SY) : Prop := ∃ (cc u sn pn : Nat) (rk rv : Int32) (K N V K' N' V' nm nl pd : Nat → Int32), x = (nI cc, nI u, nI sn, nI pn, rk, rv, K, N, V, nm, nl, pd) ∧ y = (nI cc, nI u, nI sn, nI pn, rk, rv, K', N', V', nm, nl, pd) ∧ cc ≤ 32 ∧ u ≤ cc ∧ sn ≤ 16 ∧ pn ≤ 8 ∧ (∀ j, j < sn → ∃ q, q ≤ 8 ∧ nl j = nI q) ∧ (∀ j, narrow .char (.int (nm j)) = .int (nm j)) ∧ (∀ j, narrow .char (.int (pd j)) = .int (pd j)) ∧ en_R u K N V K' N' V'
theorem ht_set {x : SX} {y : SY} (I : ht_R x y) (k n v : Int32) : ∃ (r : Int32) (x' : SX) (y' : SY), ht_R x' y' ∧ (∀ post : Int32 → SX → Prop, post r x' → wpX_set post x k n v) ∧ (∀ post : Int32 → SY → Prop, post r y' → wpY_set post y k n v) := by
  have I0 := I
  obtain ⟨cc, u, sn, pn, rk, rv, K, N, V, K', N', V', nm, nl, pd, rfl, rfl, hc, hu, hs, hp, q1, q2, q3, R⟩ := I
  have hu' : u ≤ 32 := by omega
  by_cases va : en_Va sn k n
  · obtain ⟨p, h⟩ := en_Plx (k := k) (n := n) R.1
    by_cases a : en_At K N u k n p
    · obtain ⟨j, hj, e1, e2, _⟩ := en_Rx R a.1
      obtain ⟨q, hq, f1, f2, l⟩ := en_first hj (e1.trans a.2.1) (e2.trans a.2.2)
      have g1 : K p = K' q := a.2.1.trans f1.symm
      have g2 : N p = N' q := a.2.2.trans f2.symm
      by_cases v0 : v = 0
      · subst v0
        obtain ⟨A, B, C, d1, d2, d3, hX⟩ := xs_del (cc := cc) (pn := pn) (rk := rk) (rv := rv) (V := V) (nm := nm) (nl := nl) (pd := pd) hs hu' va h a
        obtain ⟨A', B', C', d1', d2', d3', hY⟩ := ys_del (cc := cc) (pn := pn) (rk := rk) (rv := rv) (V := V') (nm := nm) (nl := nl) (pd := pd) hs hu' va hq f1 f2 l
        exact ⟨1, _, _, ⟨cc, u - 1, sn, pn, rk, rv, A, B, C, A', B', C', nm, nl, pd, rfl, rfl, hc, by omega, hs, hp, q1, q2, q3, en_Rdel R a.1 hq g1 g2 d1 d2 d3 d1' d2' d3'⟩, hX, hY⟩
      · exact ⟨1, _, _, ⟨cc, u, sn, pn, rk, rv, K, N, upd V p v, K', N', upd V' q v, nm, nl, pd, rfl, rfl, hc, hu, hs, hp, q1, q2, q3, en_Rupd R v a.1 hq g1 g2⟩, fun post H => xs_upd hs hu' va h a v0 H, fun post H => ys_upd hs hu' va hq f1 f2 l v0 H⟩
    · have l : ∀ i, i < u → ¬ (K' i = k ∧ N' i = n) := by
        rintro i hi ⟨z1, z2⟩
        obtain ⟨j, hj, e1, e2, _⟩ := en_Ry R hi
        exact en_NatX h a R.1 j hj ⟨e1.trans z1, e2.trans z2⟩
      by_cases v0 : v = 0
      · subst v0
        exact ⟨1, _, _, I0, fun post H => xs_keep hs hu' va h a H, fun post H => ys_keep hs hu' va l H⟩
      · by_cases f : u < cc
        · obtain ⟨A, B, C, d1, d2, d3, hX⟩ := xs_ins (cc := cc) (pn := pn) (rk := rk) (rv := rv) (V := V) (nm := nm) (nl := nl) (pd := pd) hs hu' va h a v0 f hc
          exact ⟨1, _, _, ⟨cc, u + 1, sn, pn, rk, rv, A, B, C, upd K' u k, upd N' u n, upd V' u v, nm, nl, pd, rfl, rfl, hc, by omega, hs, hp, q1, q2, q3, en_Rins R h.1 d1 d2 d3 (en_End K' u k) (en_End N' u n) (en_End V' u v) h.2.1 (en_Nat h a R.1)⟩, hX, fun post H => ys_ins hs hu' va l v0 f hc H⟩
        · exact ⟨0, _, _, I0, fun post H => xs_full hs hu' va h a v0 (by omega) H, fun post H => ys_full hs hu' va l v0 (by omega) H⟩
  · exact ⟨0, _, _, I0, fun post H => xs_inv hs va H, fun post H => ys_inv hs va H⟩
theorem ht_get {x : SX} {y : SY} (I : ht_R x y) (k n : Int32) : ∃ r : Int32, (∀ post : Int32 → Prop, post r → wpX_get post x k n) ∧ (∀ post : Int32 → Prop, post r → wpY_get post y k n) := by
  obtain ⟨cc, u, sn, pn, rk, rv, K, N, V, K', N', V', nm, nl, pd, rfl, rfl, hc, hu, hs, hp, q1, q2, q3, R⟩ := I
  have hu' : u ≤ 32 := by omega
  by_cases va : en_Va sn k n
  · by_cases c : ∃ q, q < u ∧ K' q = k ∧ N' q = n
    · obtain ⟨q, hq, f1, f2⟩ := c
      obtain ⟨q, hq, f1, f2, l⟩ := en_first hq f1 f2
      obtain ⟨i, hi, e1, e2, e3⟩ := en_Ry R hq
      refine ⟨V' q, fun post H => xg_get hs hu' R.1 (fun z => absurd va z) (fun _ j hj a1 a2 => ?_) (fun _ z => absurd ⟨e1.trans f1, e2.trans f2⟩ (z i hi)), fun post H => yg_some hs hu' va hq f1 f2 l H⟩
      rw [en_Rv R hj hq (a1.trans f1.symm) (a2.trans f2.symm)]
      exact H
    · have l : ∀ i, i < u → ¬ (K' i = k ∧ N' i = n) := fun i hi z => c ⟨i, hi, z⟩
      refine ⟨0, fun post H => xg_get hs hu' R.1 (fun z => absurd va z) (fun _ j hj a1 a2 => ?_) (fun _ _ => H), fun post H => yg_none hs hu' va l H⟩
      obtain ⟨i, hi, e1, e2, _⟩ := en_Rx R hj
      exact absurd ⟨e1.trans a1, e2.trans a2⟩ (l i hi)
  · exact ⟨0, fun post H => xg_get hs hu' R.1 (fun _ => H) (fun z => absurd z va) (fun z => absurd z va), fun post H => yg_inv hs va H⟩
theorem ht_length {x : SX} {y : SY} (I : ht_R x y) : ∃ b : Nat, (∀ post : Int32 → Prop, post (nI b) → wpX_length post x) ∧ (∀ post : Int32 → Prop, post (nI b) → wpY_length post y) := by
  obtain ⟨cc, u, sn, pn, rk, rv, K, N, V, K', N', V', nm, nl, pd, rfl, rfl, hc, hu, hs, hp, q1, q2, q3, R⟩ := I
  obtain ⟨b, B, hX⟩ := xl_length (cc := cc) (sn := sn) (pn := pn) (rk := rk) (rv := rv) (V := V) (nm := nm) (nl := nl) (pd := pd) (show u ≤ 32 by omega) R.1
  have hb := B.1
  have w := en_By R B
  exact ⟨b, hX, fun post H => yl_length (by omega) hc (by omega) w.1 w.2 H⟩
theorem ht_next {x : SX} {y : SY} (I : ht_R x y) (k n : Int32) : ∃ (r : Int32) (x' : SX) (y' : SY), ht_R x' y' ∧ (∀ post : Int32 → SX → Prop, post r x' → wpX_next post x k n) ∧ (∀ post : Int32 → SY → Prop, post r y' → wpY_next post y k n) := by
  have I0 := I
  obtain ⟨cc, u, sn, pn, rk, rv, K, N, V, K', N', V', nm, nl, pd, rfl, rfl, hc, hu, hs, hp, q1, q2, q3, R⟩ := I
  have hu' : u ≤ 32 := by omega
  by_cases va : k = 2 ∨ en_Va sn k n
  · obtain ⟨q, hq, lo, hi, hX⟩ := xn_next (cc := cc) (pn := pn) (rk := rk) (rv := rv) (V := V) (nm := nm) (nl := nl) (pd := pd) hs hu' R.1 va
    obtain ⟨r, M, hY⟩ := yn_loop (cc := cc) (sn := sn) (pn := pn) (rk := rk) (rv := rv) (K := K') (N := N') (V := V') (nm := nm) (nl := nl) (pd := pd) (k := k) (n := n) hu'
    rcases en_nx R hq lo hi M with ⟨e, er⟩ | ⟨hq', b, hb, er, g1, g2, g3⟩
    · refine ⟨2, _, _, ⟨cc, u, sn, pn, 0, 0, K, N, V, K', N', V', nm, nl, pd, rfl, rfl, hc, hu, hs, hp, q1, q2, q3, R⟩, fun post H => hX 2 _ (fun P HP => xr_none (by rw [e]) hu' HP) post H, fun post H => yn_next hs (fun _ => hY post (fun _ => H) (fun b hb z => ?_)) (fun z => absurd va z)⟩
      rw [er] at z
      exact absurd (z ▸ (by decide : (-1 : Int32) < 0)) (nI_pos (n := b) (by omega))
    · refine ⟨K q, _, _, ⟨cc, u, sn, pn, N q, V q, K, N, V, K', N', V', nm, nl, pd, rfl, rfl, hc, hu, hs, hp, q1, q2, q3, R⟩, fun post H => hX (K q) _ (fun P HP => xr_some rfl hq' hu' HP) post H, fun post H => yn_next hs (fun _ => hY post (fun z => ?_) (fun b' hb' z => ?_)) (fun z => absurd va z)⟩
      · rw [er] at z
        exact absurd (z ▸ (by decide : (-1 : Int32) < 0)) (nI_pos (n := b) (by omega))
      · rw [er] at z
        have e : b = b' := (nI_eq (by omega) (by omega)).mp z
        subst e
        rw [g1, g2, g3]
        exact H
  · exact ⟨-1, _, _, I0, fun post H => xn_inv hs va H, fun post H => yn_next hs (fun z => absurd z va) (fun _ => H)⟩
theorem ht_purge {x : SX} {y : SY} (I : ht_R x y) (lim : Int32) : ∃ (r : Int32) (x' : SX) (y' : SY), ht_R x' y' ∧ (∀ post : Int32 → SX → Prop, post r x' → wpX_purgeBelow post x lim) ∧ (∀ post : Int32 → SY → Prop, post r y' → wpY_purgeBelow post y lim) := by
  obtain ⟨cc, u, sn, pn, rk, rv, K, N, V, K', N', V', nm, nl, pd, rfl, rfl, hc, hu, hs, hp, q1, q2, q3, R⟩ := I
  have hu' : u ≤ 32 := by omega
  obtain ⟨w, A, B, C, P, hX⟩ := xp_purge (cc := cc) (sn := sn) (pn := pn) (rk := rk) (rv := rv) (K := K) (N := N) (V := V) (nm := nm) (nl := nl) (pd := pd) lim hu'
  obtain ⟨w', A', B', C', P', hY⟩ := yp_purge (cc := cc) (sn := sn) (pn := pn) (rk := rk) (rv := rv) (K := K') (N := N') (V := V') (nm := nm) (nl := nl) (pd := pd) lim hu'
  obtain ⟨e, R'⟩ := en_RP R P P'
  subst e
  have hw := P.1
  exact ⟨_, _, _, ⟨cc, w', sn, pn, rk, rv, A, B, C, A', B', C', nm, nl, pd, rfl, rfl, hc, by omega, hs, hp, q1, q2, q3, R'⟩, hX, hY⟩
theorem ht_fill (first x3 : Int32) {n : Nat} (hn : n ≤ 64) : ∀ d i, i + d = n → ∀ (x : SX) (y : SY), ht_R x y → ∃ (r : Int32) (x' : SX) (y' : SY), ht_R x' y' ∧ (∀ post : Int32 → SX → Prop, post r x' → wX_fill_15 post first (nI n) x3 (d + 1) (nI i) x.1 x.2.1 x.2.2.1 x.2.2.2.1 x.2.2.2.2.1 x.2.2.2.2.2.1 x.2.2.2.2.2.2.1 x.2.2.2.2.2.2.2.1 x.2.2.2.2.2.2.2.2.1 x.2.2.2.2.2.2.2.2.2.1 x.2.2.2.2.2.2.2.2.2.2.1 x.2.2.2.2.2.2.2.2.2.2.2) ∧ (∀ post : Int32 → SY → Prop, post r y' → wY_fill_15 post first (nI n) x3 (d + 1) (nI i) y.1 y.2.1 y.2.2.1 y.2.2.2.1 y.2.2.2.2.1 y.2.2.2.2.2.1 y.2.2.2.2.2.2.1 y.2.2.2.2.2.2.2.1 y.2.2.2.2.2.2.2.2.1 y.2.2.2.2.2.2.2.2.2.1 y.2.2.2.2.2.2.2.2.2.2.1 y.2.2.2.2.2.2.2.2.2.2.2) := by
  intro d
  induction d with
  | zero =>
    intro i hi x y I
    have e : i = n := by omega
    subst e
    obtain ⟨a1, a2, a3, a4, a5, a6, a7, a8, a9, a10, a11, a12⟩ := x
    obtain ⟨b1, b2, b3, b4, b5, b6, b7, b8, b9, b10, b11, b12⟩ := y
    exact ⟨nI i, _, _, I, fun post H => br_t (nI_le (Nat.le_refl _) (by omega)) H, fun post H => br_t (nI_le (Nat.le_refl _) (by omega)) H⟩
  | succ d ih =>
    intro i hi x y I
    have g : ¬ nI n ≤ nI i := nI_ge (by omega) (by omega)
    obtain ⟨r, x1, y1, I1, hX, hY⟩ := ht_set I 0 (first + nI i) x3
    obtain ⟨a1, a2, a3, a4, a5, a6, a7, a8, a9, a10, a11, a12⟩ := x
    obtain ⟨b1, b2, b3, b4, b5, b6, b7, b8, b9, b10, b11, b12⟩ := y
    obtain ⟨r', x2, y2, I2, gX, gY⟩ := ih (i + 1) (by omega) x1 y1 I1
    obtain ⟨c1, c2, c3, c4, c5, c6, c7, c8, c9, c10, c11, c12⟩ := x1
    obtain ⟨d1, d2, d3, d4, d5, d6, d7, d8, d9, d10, d11, d12⟩ := y1
    by_cases r0 : r = 0
    · exact ⟨nI i, _, _, I1, fun post H => br_f g (hX _ (br_t r0 H)), fun post H => br_f g (hY _ (br_t r0 H))⟩
    · exact ⟨r', x2, y2, I2, fun post H => br_f g (hX _ (br_f r0 (nm_r (nI_1 i) (gX post H)))), fun post H => br_f g (hY _ (br_f r0 (nm_r (nI_1 i) (gY post H))))⟩
