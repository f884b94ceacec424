section
variable {cc u sn pn : Nat} {rk rv : Int32} {K N V nm nl pd : Nat → Int32}
theorem sy_ix (a i : Nat) : nI a * 8 + nI i = nI (a * 8 + i) := by
  rw [show (8 : Int32) = nI 8 from rfl, pk_mul, nI_add]
theorem en_Plx {K N : Nat → Int32} {k n : Int32} : ∀ {u : Nat}, en_S K N u → ∃ p, en_Pl K N u k n p := by
  intro u hs
  have : ∀ d i, i + d = u → (∀ j, j < i → en_k (K j) (N j) < en_k k n) → ∃ p, en_Pl K N u k n p := by
    intro d
    induction d with
    | zero => intro i hi h; exact ⟨i, en_PlI hs (by omega) h (fun z => absurd z (by omega))⟩
    | succ d ih =>
      intro i hi h
      by_cases c : en_k (K i) (N i) < en_k k n
      · refine ih (i + 1) (by omega) (fun j hj => ?_)
        by_cases e : j = i
        · subst e; exact c
        · exact h j (by omega)
      · exact ⟨i, en_PlI hs (by omega) h (fun _ => c)⟩
  exact this u 0 (by omega) (fun j hj => absurd hj (by omega))
theorem xb_isBefore {i : Nat} {k n : Int32} {post : Int32 → Prop} (hi : i < 32) (h1 : en_k (K i) (N i) < en_k k n → post 1) (h0 : ¬ en_k (K i) (N i) < en_k k n → post 0) : wpX_isBefore post (nI cc, nI u, nI sn, nI pn, rk, rv, K, N, V, nm, nl, pd) (nI i) k n := by
  unfold wpX_isBefore
  refine ⟨vp_in_nI hi (by omega), ?_⟩
  rw [nI_clamp (show i < 2 ^ 31 by omega)]
  refine br_c (fun a => ⟨vp_in_nI hi (by omega), ?_⟩) (fun a => ⟨vp_in_nI hi (by omega), ?_⟩)
  · have q : en_k (K i) (N i) < en_k k n ↔ ¬ n ≤ N i := by rw [a, en_ltE, Int32.not_le]
    exact br_c (fun b => h0 (fun z => q.mp z b)) (fun b => h1 (q.mpr b))
  · have q : en_k (K i) (N i) < en_k k n ↔ ¬ k ≤ K i := by rw [en_ltN _ _ a, Int32.not_le]
    exact br_c (fun b => h0 (fun z => q.mp z b)) (fun b => h1 (q.mpr b))
theorem xb_placeOf {k n : Int32} {p : Nat} {post : Int32 → Prop} (hu : u ≤ 32) (h : en_Pl K N u k n p) (H : post (nI p)) : wpX_placeOf post (nI cc, nI u, nI sn, nI pn, rk, rv, K, N, V, nm, nl, pd) k n := by
  obtain ⟨h1, h2, h3⟩ := h
  exact pk_loop (σ := Unit) (fun f i _ => wX_placeOf_2 post k n (nI cc) (nI u) (nI sn) (nI pn) rk rv K N V nm nl pd f (nI i)) (fun _ _ => True) p 0 () (Nat.zero_le _) trivial
    (fun f _ _ => pk_le u p (fun _ => H) (fun z => xb_isBefore (by omega) (fun q => absurd q (by have := h3 p (Nat.le_refl _) z; omega)) (fun _ => br_t rfl H)))
    (fun f i _ hi _ hw => pk_le u i (fun z => absurd z (by omega)) (fun z => xb_isBefore (by omega) (fun _ => br_f (by decide) (nm_r (nI_1 i) (hw () trivial))) (fun q => absurd (h2 i hi) q)))
theorem xb_isAt {k n : Int32} {p : Nat} {post : Int32 → Prop} (hp : p ≤ u) (hu : u ≤ 32) (h1 : en_At K N u k n p → post 1) (h0 : ¬ en_At K N u k n p → post 0) : wpX_isAt post (nI cc, nI u, nI sn, nI pn, rk, rv, K, N, V, nm, nl, pd) (nI p) k n := by
  unfold wpX_isAt
  rw [nI_clamp (show p < 2 ^ 31 by omega)]
  refine pk_le u p (fun z => h0 (fun a => absurd a.1 (by omega))) (fun z => ⟨vp_in_nI (by omega) (by omega), br_c (fun a => ⟨vp_in_nI (by omega) (by omega), br_c (fun b => h1 ⟨z, a, b⟩) (fun b => h0 (fun q => b q.2.2))⟩) (fun a => h0 (fun q => a q.2.1))⟩)
/-- a key that the calls take -/
def en_Va (sn : Nat) (k n : Int32) : Prop := k = 0 ∨ (k = 1 ∧ ∃ j, j < sn ∧ n = nI j)
theorem xb_isSymbol {n : Int32} {post : Int32 → Prop} (hs : sn ≤ 16) (h1 : (∃ j, j < sn ∧ n = nI j) → post 1) (h0 : ¬ (∃ j, j < sn ∧ n = nI j) → post 0) : wpX_isSymbol post (nI cc, nI u, nI sn, nI pn, rk, rv, K, N, V, nm, nl, pd) n := by
  unfold wpX_isSymbol
  refine br_c (fun a => h0 ?_) (fun a => ?_)
  · rintro ⟨j, hj, rfl⟩
    exact absurd a (nI_pos (by omega))
  · obtain ⟨j, hj, rfl⟩ := nI_of a
    refine pk_le sn j (fun z => h0 ?_) (fun z => h1 ⟨j, z, rfl⟩)
    rintro ⟨i, hi, e⟩
    have := (nI_eq hj (by omega)).mp e
    omega
theorem xb_isValid {k n : Int32} {post : Int32 → Prop} (hs : sn ≤ 16) (h1 : en_Va sn k n → post 1) (h0 : ¬ en_Va sn k n → post 0) : wpX_isValid post (nI cc, nI u, nI sn, nI pn, rk, rv, K, N, V, nm, nl, pd) k n := by
  unfold wpX_isValid
  refine br_c (fun a => xb_isSymbol hs (fun h => ⟨rfl, h1 (Or.inr ⟨a, h⟩)⟩) (fun h => ⟨rfl, h0 ?_⟩)) (fun a => br_c (fun b => h1 (Or.inl b)) (fun b => h0 ?_))
  · rintro (z | z)
    · rw [a] at z; exact absurd z (by decide)
    · exact h z.2
  · rintro (z | z)
    · exact b z
    · exact a z.1
theorem xb_move {a b : Nat} {x y : Int32} {post : St2 → Prop} (hx : x = nI a) (hy : y = nI b) (ha : a < 32) (hb : b < 32) (H : post (nI cc, nI u, nI sn, nI pn, rk, rv, upd K b (K a), upd N b (N a), upd V b (V a), nm, nl, pd)) : wpX_moveEntry post (nI cc, nI u, nI sn, nI pn, rk, rv, K, N, V, nm, nl, pd) x y := by
  subst hx hy
  unfold wpX_moveEntry
  rw [nI_clamp (show a < 2 ^ 31 by omega), nI_clamp (show b < 2 ^ 31 by omega)]
  exact ⟨vp_in_nI ha (by omega), vp_in_nI hb (by omega), nm_e ⟨vp_in_nI ha (by omega), vp_in_nI hb (by omega), nm_e ⟨vp_in_nI ha (by omega), vp_in_nI hb (by omega), nm_e H⟩⟩⟩
theorem xb_removeL {p : Nat} (hu : u ≤ 32) (hu0 : 0 < u) : ∀ d t, p ≤ t → t + d + 1 = u → ∀ A B C : Nat → Int32, en_Ls' K A p t → en_Ls' N B p t → en_Ls' V C p t → ∃ A' B' C' : Nat → Int32, en_Del p u K A' ∧ en_Del p u N B' ∧ en_Del p u V C' ∧ ∀ post : St2 → Prop, post (nI cc, nI (u - 1), nI sn, nI pn, rk, rv, A', B', C', nm, nl, pd) → wX_removeAt_2 post (d + 1) (nI t) (nI cc) (nI u) (nI sn) (nI pn) rk rv A B C nm nl pd := by
  have e1 : nI u - 1 = nI (u - 1) := by
    obtain ⟨w, rfl⟩ : ∃ w, u = w + 1 := ⟨u - 1, by omega⟩
    exact nI_pred w
  intro d
  induction d with
  | zero =>
    intro t hp ht A B C a b c
    have e : t = u - 1 := by omega
    subst e
    refine ⟨A, B, C, en_LsE a, en_LsE b, en_LsE c, fun post H => ?_⟩
    exact br_t (by rw [e1]; exact nI_le (Nat.le_refl _) (by omega)) (nm_r e1 H)
  | succ d ih =>
    intro t hp ht A B C a b c
    obtain ⟨A', B', C', a', b', c', h⟩ := ih (t + 1) (by omega) (by omega) _ _ _ (en_LsS hp a) (en_LsS hp b) (en_LsS hp c)
    refine ⟨A', B', C', a', b', c', fun post H => ?_⟩
    exact br_f (by rw [e1]; exact nI_ge (by omega) (by omega)) (xb_move (nI_1 t) rfl (by omega) (by omega) (nm_r (nI_1 t) (h post H)))
theorem xb_removeAt {p : Nat} (hp : p < u) (hu : u ≤ 32) : ∃ A B C : Nat → Int32, en_Del p u K A ∧ en_Del p u N B ∧ en_Del p u V C ∧ ∀ post : St2 → Prop, post (nI cc, nI (u - 1), nI sn, nI pn, rk, rv, A, B, C, nm, nl, pd) → wpX_removeAt post (nI cc, nI u, nI sn, nI pn, rk, rv, K, N, V, nm, nl, pd) (nI p) := by
  obtain ⟨A, B, C, a, b, c, h⟩ := xb_removeL (cc := cc) (sn := sn) (pn := pn) (rk := rk) (rv := rv) (K := K) (N := N) (V := V) (nm := nm) (nl := nl) (pd := pd) hu (by omega) (u - 1 - p) p (Nat.le_refl _) (by omega) K N V (en_Ls0 K p) (en_Ls0 N p) (en_Ls0 V p)
  exact ⟨A, B, C, a, b, c, fun post H => ⟨_, h post H⟩⟩
theorem xb_insertL {p : Nat} (k n v : Int32) (hp : p ≤ u) (hu : u < 32) : ∀ d t, t = p + d → t ≤ u → ∀ A B C : Nat → Int32, en_Rs K A u t → en_Rs N B u t → en_Rs V C u t → ∃ A' B' C' : Nat → Int32, en_Ins p u K A' k ∧ en_Ins p u N B' n ∧ en_Ins p u V C' v ∧ ∀ post : St2 → Prop, post (nI cc, nI (u + 1), nI sn, nI pn, rk, rv, A', B', C', nm, nl, pd) → wX_insertAt_6 post (nI p) k n v (d + 1) (nI t) (nI cc) (nI u) (nI sn) (nI pn) rk rv A B C nm nl pd := by
  intro d
  induction d with
  | zero =>
    intro t ht htu A B C a b c
    have e : t = p := by omega
    subst e
    refine ⟨_, _, _, en_RsE a k, en_RsE b n, en_RsE c v, fun post H => ?_⟩
    have i : vp_in (nI t) 32 := vp_in_nI (by omega) (by omega)
    refine br_t (nI_le (Nat.le_refl _) (by omega)) ⟨i, ?_⟩
    rw [nI_clamp (show t < 2 ^ 31 by omega)]
    exact nm_e ⟨i, nm_e ⟨i, nm_e (nm_r (nI_1 u) H)⟩⟩
  | succ d ih =>
    intro t ht htu A B C a b c
    obtain ⟨w, rfl⟩ : ∃ w, t = w + 1 := ⟨t - 1, by omega⟩
    obtain ⟨A', B', C', a', b', c', h⟩ := ih w (by omega) (by omega) _ _ _ (en_RsS a) (en_RsS b) (en_RsS c)
    refine ⟨A', B', C', a', b', c', fun post H => ?_⟩
    exact br_f (nI_ge (by omega) (by omega)) (xb_move (nI_pred w) rfl (by omega) (by omega) (nm_r (pk_m1 w) (h post H)))
theorem xb_insertAt {p : Nat} (k n v : Int32) (hp : p ≤ u) (hu : u < 32) : ∃ A B C : Nat → Int32, en_Ins p u K A k ∧ en_Ins p u N B n ∧ en_Ins p u V C v ∧ ∀ post : St2 → Prop, post (nI cc, nI (u + 1), nI sn, nI pn, rk, rv, A, B, C, nm, nl, pd) → wpX_insertAt post (nI cc, nI u, nI sn, nI pn, rk, rv, K, N, V, nm, nl, pd) (nI p) k n v := by
  obtain ⟨A, B, C, a, b, c, h⟩ := xb_insertL (cc := cc) (sn := sn) (pn := pn) (rk := rk) (rv := rv) (K := K) (N := N) (V := V) (nm := nm) (nl := nl) (pd := pd) k n v hp hu (u - p) u (by omega) (Nat.le_refl _) K N V (en_Rs0 K u) (en_Rs0 N u) (en_Rs0 V u)
  exact ⟨A, B, C, a, b, c, fun post H => ⟨_, h post H⟩⟩
theorem xs_del {k n : Int32} {p : Nat} (hs : sn ≤ 16) (hu : u ≤ 32) (va : en_Va sn k n) (h : en_Pl K N u k n p) (a : en_At K N u k n p) : ∃ A B C : Nat → Int32, en_Del p u K A ∧ en_Del p u N B ∧ en_Del p u V C ∧ ∀ post : Int32 → St2 → Prop, post 1 (nI cc, nI (u - 1), nI sn, nI pn, rk, rv, A, B, C, nm, nl, pd) → wpX_set post (nI cc, nI u, nI sn, nI pn, rk, rv, K, N, V, nm, nl, pd) k n 0 := by
  obtain ⟨A, B, C, q1, q2, q3, R⟩ := xb_removeAt (cc := cc) (sn := sn) (pn := pn) (rk := rk) (rv := rv) (K := K) (N := N) (V := V) (nm := nm) (nl := nl) (pd := pd) a.1 hu
  refine ⟨A, B, C, q1, q2, q3, fun post H => ?_⟩
  unfold wpX_set
  refine xb_isValid hs (fun _ => br_f (by decide) ?_) (fun z => absurd va z)
  refine xb_placeOf hu h ?_
  refine xb_isAt h.1 hu (fun _ => ?_) (fun z => absurd a z)
  exact br_t rfl (br_f (by decide) (R _ H))
theorem xs_upd {k n v : Int32} {p : Nat} {post : Int32 → St2 → Prop} (hs : sn ≤ 16) (hu : u ≤ 32) (va : en_Va sn k n) (h : en_Pl K N u k n p) (a : en_At K N u k n p) (v0 : ¬ v = 0) (H : post 1 (nI cc, nI u, nI sn, nI pn, rk, rv, K, N, upd V p v, nm, nl, pd)) : wpX_set post (nI cc, nI u, nI sn, nI pn, rk, rv, K, N, V, nm, nl, pd) k n v := by
  have hp := a.1
  unfold wpX_set
  refine xb_isValid hs (fun _ => br_f (by decide) ?_) (fun z => absurd va z)
  refine xb_placeOf hu h ?_
  refine xb_isAt h.1 hu (fun _ => ?_) (fun z => absurd a z)
  exact br_f v0 (br_f (by decide) ⟨vp_in_nI (by omega) (by omega), nm_r (by rw [nI_clamp (by omega)]) H⟩)
theorem xs_keep {k n : Int32} {p : Nat} {post : Int32 → St2 → Prop} (hs : sn ≤ 16) (hu : u ≤ 32) (va : en_Va sn k n) (h : en_Pl K N u k n p) (a : ¬ en_At K N u k n p) (H : post 1 (nI cc, nI u, nI sn, nI pn, rk, rv, K, N, V, nm, nl, pd)) : wpX_set post (nI cc, nI u, nI sn, nI pn, rk, rv, K, N, V, nm, nl, pd) k n 0 := by
  unfold wpX_set
  refine xb_isValid hs (fun _ => br_f (by decide) ?_) (fun z => absurd va z)
  refine xb_placeOf hu h ?_
  refine xb_isAt h.1 hu (fun z => absurd z a) (fun _ => ?_)
  exact br_t rfl (br_t rfl H)
theorem xs_full {k n v : Int32} {p : Nat} {post : Int32 → St2 → Prop} (hs : sn ≤ 16) (hu : u ≤ 32) (va : en_Va sn k n) (h : en_Pl K N u k n p) (a : ¬ en_At K N u k n p) (v0 : ¬ v = 0) (f : cc ≤ u) (H : post 0 (nI cc, nI u, nI sn, nI pn, rk, rv, K, N, V, nm, nl, pd)) : wpX_set post (nI cc, nI u, nI sn, nI pn, rk, rv, K, N, V, nm, nl, pd) k n v := by
  unfold wpX_set
  refine xb_isValid hs (fun _ => br_f (by decide) ?_) (fun z => absurd va z)
  refine xb_placeOf hu h ?_
  refine xb_isAt h.1 hu (fun z => absurd z a) (fun _ => ?_)
  exact br_f v0 (br_t rfl (br_f (nI_nlt f (by omega)) H))
theorem xs_ins {k n v : Int32} {p : Nat} (hs : sn ≤ 16) (hu : u ≤ 32) (va : en_Va sn k n) (h : en_Pl K N u k n p) (a : ¬ en_At K N u k n p) (v0 : ¬ v = 0) (f : u < cc) (hc : cc ≤ 32) : ∃ A B C : Nat → Int32, en_Ins p u K A k ∧ en_Ins p u N B n ∧ en_Ins p u V C v ∧ ∀ post : Int32 → St2 → Prop, post 1 (nI cc, nI (u + 1), nI sn, nI pn, rk, rv, A, B, C, nm, nl, pd) → wpX_set post (nI cc, nI u, nI sn, nI pn, rk, rv, K, N, V, nm, nl, pd) k n v := by
  obtain ⟨A, B, C, q1, q2, q3, R⟩ := xb_insertAt (cc := cc) (sn := sn) (pn := pn) (rk := rk) (rv := rv) (K := K) (N := N) (V := V) (nm := nm) (nl := nl) (pd := pd) k n v h.1 (by omega)
  refine ⟨A, B, C, q1, q2, q3, fun post H => ?_⟩
  unfold wpX_set
  refine xb_isValid hs (fun _ => br_f (by decide) ?_) (fun z => absurd va z)
  refine xb_placeOf hu h ?_
  refine xb_isAt h.1 hu (fun z => absurd z a) (fun _ => ?_)
  exact br_f v0 (br_t rfl (br_t (nI_lt f (by omega)) (R _ H)))
theorem xs_inv {k n v : Int32} {post : Int32 → St2 → Prop} (hs : sn ≤ 16) (va : ¬ en_Va sn k n) (H : post 0 (nI cc, nI u, nI sn, nI pn, rk, rv, K, N, V, nm, nl, pd)) : wpX_set post (nI cc, nI u, nI sn, nI pn, rk, rv, K, N, V, nm, nl, pd) k n v := by
  unfold wpX_set
  exact xb_isValid hs (fun z => absurd z va) (fun _ => br_t rfl H)
theorem xg_get {k n : Int32} {post : Int32 → Prop} (hs : sn ≤ 16) (hu : u ≤ 32) (S : en_S K N u) (Hi : ¬ en_Va sn k n → post 0) (H1 : en_Va sn k n → ∀ i, i < u → K i = k → N i = n → post (V i)) (H0 : en_Va sn k n → (∀ i, i < u → ¬ (K i = k ∧ N i = n)) → post 0) : wpX_get post (nI cc, nI u, nI sn, nI pn, rk, rv, K, N, V, nm, nl, pd) k n := by
  obtain ⟨p, h⟩ := en_Plx (k := k) (n := n) S
  have hp := h.1
  unfold wpX_get
  refine xb_isValid hs (fun va => br_f (by decide) ?_) (fun z => br_t rfl (Hi z))
  refine xb_placeOf hu h ?_
  refine xb_isAt hp hu (fun a => br_f (by decide) ⟨vp_in_nI (by have := a.1; omega) (by omega), ?_⟩) (fun a => br_t rfl (H0 va (en_NatX h a S)))
  rw [nI_clamp (show p < 2 ^ 31 by omega)]
  exact H1 va p a.1 a.2.1 a.2.2
theorem xl_length (hu : u ≤ 32) (S : en_S K N u) : ∃ b, en_B K N u b ∧ ∀ post : Int32 → Prop, post (nI b) → wpX_length post (nI cc, nI u, nI sn, nI pn, rk, rv, K, N, V, nm, nl, pd) := by
  have L : ∀ d p b, p + d = u → en_B K N p b → ∃ b', en_B K N u b' ∧ ∀ post : Int32 → Prop, post (nI b') → wX_length_4 post (nI cc) (nI u) (nI sn) (nI pn) rk rv K N V nm nl pd (d + 1) (nI b) (nI p) := by
    intro d
    induction d with
    | zero =>
      intro p b hp B
      have e : p = u := by omega
      subst e
      exact ⟨b, B, fun post H => br_t (nI_le (Nat.le_refl _) (by omega)) H⟩
    | succ d ih =>
      intro p b hp B
      have hb := B.1
      have i : vp_in (nI p) 32 := vp_in_nI (by omega) (by omega)
      have g : ¬ nI u ≤ nI p := nI_ge (by omega) (by omega)
      have cl : (nI p).toNatClampNeg = p := nI_clamp (by omega)
      by_cases c1 : K p = 0
      · by_cases c2 : N p = nI (b + 1)
        · obtain ⟨b', B', h⟩ := ih (p + 1) (b + 1) (by omega) (en_Bk S (by omega) hu B c1 c2)
          exact ⟨b', B', fun post H => br_f g ⟨i, br_t (by rw [cl]; exact c1) ⟨i, br_t (by rw [cl, nI_1]; exact c2) (nm_r (nI_1 b) (nm_r (nI_1 p) (h post H)))⟩⟩⟩
        · obtain ⟨b', B', h⟩ := ih (p + 1) b (by omega) (en_Bd B (fun z => c2 z.2))
          exact ⟨b', B', fun post H => br_f g ⟨i, br_t (by rw [cl]; exact c1) ⟨i, br_f (by rw [cl, nI_1]; exact c2) (nm_r (nI_1 p) (h post H))⟩⟩⟩
      · obtain ⟨b', B', h⟩ := ih (p + 1) b (by omega) (en_Bd B (fun z => c1 z.1))
        exact ⟨b', B', fun post H => br_f g ⟨i, br_f (by rw [cl]; exact c1) (nm_r (nI_1 p) (h post H))⟩⟩
  obtain ⟨b, B, h⟩ := L u 0 0 (by omega) (en_B0 K N)
  exact ⟨b, B, fun post H => ⟨_, h post H⟩⟩
theorem xr_some {q : Nat} {x : Int32} {post : Int32 → St2 → Prop} (hx : x = nI q) (hq : q < u) (hu : u ≤ 32) (H : post (K q) (nI cc, nI u, nI sn, nI pn, N q, V q, K, N, V, nm, nl, pd)) : wpX_recordAt post (nI cc, nI u, nI sn, nI pn, rk, rv, K, N, V, nm, nl, pd) x := by
  subst hx
  unfold wpX_recordAt
  have i : vp_in (nI q) 32 := vp_in_nI (by omega) (by omega)
  rw [nI_clamp (show q < 2 ^ 31 by omega)]
  exact br_t (nI_lt hq (by omega)) ⟨i, nm_e ⟨i, nm_e ⟨i, H⟩⟩⟩
theorem xr_none {x : Int32} {post : Int32 → St2 → Prop} (hx : x = nI u) (hu : u ≤ 32) (H : post 2 (nI cc, nI u, nI sn, nI pn, 0, 0, K, N, V, nm, nl, pd)) : wpX_recordAt post (nI cc, nI u, nI sn, nI pn, rk, rv, K, N, V, nm, nl, pd) x := by
  subst hx
  unfold wpX_recordAt
  exact br_f (nI_nlt (Nat.le_refl _) (by omega)) H
/-- next: the row falls in two at q -/
theorem xn_next {k n : Int32} (hs : sn ≤ 16) (hu : u ≤ 32) (S : en_S K N u) (va : k = 2 ∨ en_Va sn k n) : ∃ q, q ≤ u ∧ (∀ i, i < q → ¬ (k = 2 ∨ en_k k n < en_k (K i) (N i))) ∧ (∀ i, q ≤ i → i < u → (k = 2 ∨ en_k k n < en_k (K i) (N i))) ∧ ∀ (r : Int32) (w : St2), (∀ P : Int32 → St2 → Prop, P r w → wpX_recordAt P (nI cc, nI u, nI sn, nI pn, rk, rv, K, N, V, nm, nl, pd) (nI q)) → ∀ post : Int32 → St2 → Prop, post r w → wpX_next post (nI cc, nI u, nI sn, nI pn, rk, rv, K, N, V, nm, nl, pd) k n := by
  by_cases k2 : k = 2
  · refine ⟨0, Nat.zero_le _, fun i h => absurd h (by omega), fun _ _ _ => Or.inl k2, ?_⟩
    rintro r ⟨w1, w2, w3, w4, w5, w6, w7, w8, w9, w10, w11, w12⟩ R post H
    unfold wpX_next
    exact br_t k2 (R _ H)
  · have va' : en_Va sn k n := va.resolve_left k2
    obtain ⟨p, h⟩ := en_Plx (k := k) (n := n) S
    have hp := h.1
    by_cases a : en_At K N u k n p
    · have q := en_AtX a S
      refine ⟨p + 1, a.1, fun i hi z => q.1 i hi (z.resolve_left k2), fun i h1 h2 => Or.inr (q.2 i h1 h2), ?_⟩
      rintro r ⟨w1, w2, w3, w4, w5, w6, w7, w8, w9, w10, w11, w12⟩ R post H
      unfold wpX_next
      refine br_f k2 (xb_isValid hs (fun _ => br_f (by decide) ?_) (fun z => absurd va' z))
      refine xb_placeOf hu h ?_
      exact xb_isAt hp hu (fun _ => br_f (by decide) (nm_r (nI_1 p) (R _ H))) (fun z => absurd a z)
    · have q := en_Nat h a S
      refine ⟨p, hp, fun i hi z => en_NatL h i hi (z.resolve_left k2), fun i h1 h2 => Or.inr (q i h1 h2), ?_⟩
      rintro r ⟨w1, w2, w3, w4, w5, w6, w7, w8, w9, w10, w11, w12⟩ R post H
      unfold wpX_next
      refine br_f k2 (xb_isValid hs (fun _ => br_f (by decide) ?_) (fun z => absurd va' z))
      refine xb_placeOf hu h ?_
      exact xb_isAt hp hu (fun z => absurd z a) (fun _ => br_t rfl (R _ H))
theorem xn_inv {k n : Int32} {post : Int32 → St2 → Prop} (hs : sn ≤ 16) (va : ¬ (k = 2 ∨ en_Va sn k n)) (H : post (-1) (nI cc, nI u, nI sn, nI pn, rk, rv, K, N, V, nm, nl, pd)) : wpX_next post (nI cc, nI u, nI sn, nI pn, rk, rv, K, N, V, nm, nl, pd) k n := by
  unfold wpX_next
  exact br_f (fun z => va (Or.inl z)) (xb_isValid hs (fun z => absurd (Or.inr z) va) (fun _ => br_t rfl H))
theorem xp_purge (lim : Int32) (hu : u ≤ 32) : ∃ (w : Nat) (A B C : Nat → Int32), en_P lim K N V A B C u w ∧ ∀ post : Int32 → St2 → Prop, post (nI (u - w)) (nI cc, nI w, nI sn, nI pn, rk, rv, A, B, C, nm, nl, pd) → wpX_purgeBelow post (nI cc, nI u, nI sn, nI pn, rk, rv, K, N, V, nm, nl, pd) lim := by
  have L : ∀ d i w, i + d = u → ∀ A B C : Nat → Int32, en_P lim K N V A B C i w → ∃ (w' : Nat) (A' B' C' : Nat → Int32), en_P lim K N V A' B' C' u w' ∧ ∀ post : Int32 → St2 → Prop, post (nI (u - w')) (nI cc, nI w', nI sn, nI pn, rk, rv, A', B', C', nm, nl, pd) → wX_purgeBelow_10 post lim (nI u) (d + 1) (nI w) (nI i) (nI cc) (nI u) (nI sn) (nI pn) rk rv A B C nm nl pd := by
    intro d
    induction d with
    | zero =>
      intro i w hi A B C P
      have e : i = u := by omega
      subst e
      have hw := P.1
      exact ⟨w, A, B, C, P, fun post H => br_t (nI_le (Nat.le_refl _) (by omega)) (by rw [pk_sub hw]; exact H)⟩
    | succ d ih =>
      intro i w hi A B C P
      have hw := P.1
      have iv : vp_in (nI i) 32 := vp_in_nI (by omega) (by omega)
      have g : ¬ nI u ≤ nI i := nI_ge (by omega) (by omega)
      have cl : (nI i).toNatClampNeg = i := nI_clamp (by omega)
      by_cases c : lim ≤ C i
      · obtain ⟨w', A', B', C', P', h⟩ := ih (i + 1) (w + 1) (by omega) _ _ _ (en_Pk P c)
        exact ⟨w', A', B', C', P', fun post H => br_f g ⟨iv, br_f (by rw [cl, Int32.not_lt]; exact c) (xb_move rfl rfl (by omega) (by omega) (nm_r (nI_1 w) (nm_r (nI_1 i) (h post H))))⟩⟩
      · obtain ⟨w', A', B', C', P', h⟩ := ih (i + 1) w (by omega) _ _ _ (en_Pd P c)
        exact ⟨w', A', B', C', P', fun post H => br_f g ⟨iv, br_t (by rw [cl, ← Int32.not_le]; exact c) (nm_r (nI_1 i) (h post H))⟩⟩
  obtain ⟨w, A, B, C, P, h⟩ := L u 0 0 (by omega) K N V (en_P0 lim K N V)
  exact ⟨w, A, B, C, P, fun post H => ⟨_, h post H⟩⟩
end
