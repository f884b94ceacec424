section
variable {cc u sn pn : Nat} {rk rv : Int32} {K N V nm nl pd : Nat → Int32}
theorem en_least (P : Nat → Prop) : ∀ m, P m → ∃ k, k ≤ m ∧ P k ∧ ∀ j, j < k → ¬ P j := by
  intro m
  induction m using Nat.strongRecOn with
  | _ m ih =>
    intro h
    by_cases c : ∃ j, j < m ∧ P j
    · obtain ⟨j, hj, pj⟩ := c
      obtain ⟨k, hk, a, b⟩ := ih j hj pj
      exact ⟨k, by omega, a, b⟩
    · exact ⟨m, Nat.le_refl _, h, fun j hj pj => c ⟨j, hj, pj⟩⟩
theorem en_first {K N : Nat → Int32} {u q : Nat} {k n : Int32} (hq : q < u) (e1 : K q = k) (e2 : N q = n) : ∃ q, q < u ∧ K q = k ∧ N q = n ∧ ∀ i, i < q → ¬ (K i = k ∧ N i = n) := by
  obtain ⟨j, hj, a, b⟩ := en_least (fun i => K i = k ∧ N i = n) q ⟨e1, e2⟩
  exact ⟨j, by omega, a.1, a.2, b⟩
theorem yb_some {k n : Int32} {q : Nat} {post : Int32 → Prop} (hu : u ≤ 32) (hq : q < u) (e1 : K q = k) (e2 : N q = n) (l : ∀ i, i < q → ¬ (K i = k ∧ N i = n)) (H : post (nI q)) : wpY_find post (nI cc, nI u, nI sn, nI pn, rk, rv, K, N, V, nm, nl, pd) k n :=
  pk_loop (σ := Unit) (fun f i _ => wY_find_2 post k n (nI cc) (nI u) (nI sn) (nI pn) rk rv K N V nm nl pd f (nI i)) (fun _ _ => True) q 0 () (Nat.zero_le _) trivial
    (fun f _ _ => br_f (nI_ge hq (by omega)) ⟨vp_in_nI (by omega) (by omega), br_t (by rw [nI_clamp (by omega)]; exact e1) ⟨vp_in_nI (by omega) (by omega), br_t (by rw [nI_clamp (by omega)]; exact e2) H⟩⟩)
    (fun f i _ hi _ hw => br_f (nI_ge (by omega) (by omega)) ⟨vp_in_nI (by omega) (by omega), br_c (fun a => ⟨vp_in_nI (by omega) (by omega), br_f (fun b => l i hi (by rw [nI_clamp (by omega)] at a b; exact ⟨a, b⟩)) (nm_r (nI_1 i) (hw () trivial))⟩) (fun _ => nm_r (nI_1 i) (hw () trivial))⟩)
theorem yb_none {k n : Int32} {post : Int32 → Prop} (hu : u ≤ 32) (l : ∀ i, i < u → ¬ (K i = k ∧ N i = n)) (H : post (-1)) : wpY_find post (nI cc, nI u, nI sn, nI pn, rk, rv, K, N, V, nm, nl, pd) k n :=
  pk_loop (σ := Unit) (fun f i _ => wY_find_2 post k n (nI cc) (nI u) (nI sn) (nI pn) rk rv K N V nm nl pd f (nI i)) (fun _ _ => True) u 0 () (Nat.zero_le _) trivial
    (fun f _ _ => br_t (nI_le (Nat.le_refl _) (by omega)) H)
    (fun f i _ hi _ hw => br_f (nI_ge (by omega) (by omega)) ⟨vp_in_nI (by omega) (by omega), br_c (fun a => ⟨vp_in_nI (by omega) (by omega), br_f (fun b => l i hi (by rw [nI_clamp (by omega)] at a b; exact ⟨a, b⟩)) (nm_r (nI_1 i) (hw () trivial))⟩) (fun _ => nm_r (nI_1 i) (hw () trivial))⟩)
theorem yb_valid {k n : Int32} {post : Int32 → Prop} (hs : sn ≤ 16) (h1 : en_Va sn k n → post 1) (h0 : ¬ en_Va sn k n → post 0) : wpY_valid post (nI cc, nI u, nI sn, nI pn, rk, rv, K, N, V, nm, nl, pd) k n := by
  unfold wpY_valid
  refine br_c (fun a => h1 (Or.inl a)) (fun a => br_c (fun b => br_c (fun c => h0 ?_) (fun c => ?_)) (fun b => h0 ?_))
  · rintro (z | ⟨_, j, hj, rfl⟩)
    · exact a z
    · exact absurd c (nI_pos (by omega))
  · obtain ⟨j, hj, rfl⟩ := nI_of c
    refine pk_le sn j (fun z => h0 ?_) (fun z => h1 (Or.inr ⟨b, j, z, rfl⟩))
    rintro (z | ⟨_, i, hi, e⟩)
    · exact a z
    · have := (nI_eq hj (by omega)).mp e
      omega
  · rintro (z | z)
    · exact a z
    · exact b z.1
theorem yb_removeL {p : Nat} (hu : u ≤ 32) (hu0 : 0 < u) : ∀ d t, p ≤ t → t + d + 1 = u → ∀ A B C : Nat → Int32, en_Ls' K A p t → en_Ls' N B p t → en_Ls' V C p t → ∃ A' B' C' : Nat → Int32, en_Del p u K A' ∧ en_Del p u N B' ∧ en_Del p u V C' ∧ ∀ post : SY → Prop, post (nI cc, nI (u - 1), nI sn, nI pn, rk, rv, A', B', C', nm, nl, pd) → wY_removeAt_2 post (nI cc) (nI u) (nI sn) (nI pn) rk rv (d + 1) (nI t) A B C nm nl pd := by
  have e1 : nI u - 1 = nI (u - 1) := by
    obtain ⟨w, rfl⟩ : ∃ w, u = w + 1 := ⟨u - 1, by omega⟩
    exact nI_pred w
  intro d
  induction d with
  | zero =>
    intro t hp ht A B C a b c
    have e : t = u - 1 := by omega
    subst e
    refine ⟨A, B, C, en_LsE a, en_LsE b, en_LsE c, fun post H => ?_⟩
    exact br_t (by rw [nI_1]; exact nI_le (by omega) (by omega)) (nm_r e1 H)
  | succ d ih =>
    intro t hp ht A B C a b c
    obtain ⟨A', B', C', a', b', c', h⟩ := ih (t + 1) (by omega) (by omega) _ _ _ (en_LsS hp a) (en_LsS hp b) (en_LsS hp c)
    refine ⟨A', B', C', a', b', c', fun post H => ?_⟩
    have i0 : vp_in (nI t) 32 := vp_in_nI (by omega) (by omega)
    have i1 : vp_in (nI (t + 1)) 32 := vp_in_nI (by omega) (by omega)
    refine br_f (by rw [nI_1]; exact nI_ge (by omega) (by omega)) ?_
    have h' := h post H
    rw [nI_1 t, nI_clamp (show t < 2 ^ 31 by omega), nI_clamp (show t + 1 < 2 ^ 31 by omega)]
    exact ⟨i1, i0, nm_e ⟨i1, i0, nm_e ⟨i1, i0, nm_e (nm_e h')⟩⟩⟩
theorem yb_removeAt {p : Nat} (hp : p < u) (hu : u ≤ 32) : ∃ A B C : Nat → Int32, en_Del p u K A ∧ en_Del p u N B ∧ en_Del p u V C ∧ ∀ post : SY → Prop, post (nI cc, nI (u - 1), nI sn, nI pn, rk, rv, A, B, C, nm, nl, pd) → wpY_removeAt post (nI cc, nI u, nI sn, nI pn, rk, rv, K, N, V, nm, nl, pd) (nI p) := by
  obtain ⟨A, B, C, a, b, c, h⟩ := yb_removeL (cc := cc) (sn := sn) (pn := pn) (rk := rk) (rv := rv) (K := K) (N := N) (V := V) (nm := nm) (nl := nl) (pd := pd) hu (by omega) (u - 1 - p) p (Nat.le_refl _) (by omega) K N V (en_Ls0 K p) (en_Ls0 N p) (en_Ls0 V p)
  exact ⟨A, B, C, a, b, c, fun post H => ⟨_, h post H⟩⟩
theorem ys_inv {k n v : Int32} {post : Int32 → SY → Prop} (hs : sn ≤ 16) (va : ¬ en_Va sn k n) (H : post 0 (nI cc, nI u, nI sn, nI pn, rk, rv, K, N, V, nm, nl, pd)) : wpY_set post (nI cc, nI u, nI sn, nI pn, rk, rv, K, N, V, nm, nl, pd) k n v := by
  unfold wpY_set
  exact yb_valid hs (fun z => absurd z va) (fun _ => br_t rfl H)
theorem ys_del {k n : Int32} {q : Nat} (hs : sn ≤ 16) (hu : u ≤ 32) (va : en_Va sn k n) (hq : q < u) (e1 : K q = k) (e2 : N q = n) (l : ∀ i, i < q → ¬ (K i = k ∧ N i = n)) : ∃ A B C : Nat → Int32, en_Del q u K A ∧ en_Del q u N B ∧ en_Del q u V C ∧ ∀ post : Int32 → SY → Prop, post 1 (nI cc, nI (u - 1), nI sn, nI pn, rk, rv, A, B, C, nm, nl, pd) → wpY_set post (nI cc, nI u, nI sn, nI pn, rk, rv, K, N, V, nm, nl, pd) k n 0 := by
  obtain ⟨A, B, C, q1, q2, q3, R⟩ := yb_removeAt (cc := cc) (sn := sn) (pn := pn) (rk := rk) (rv := rv) (K := K) (N := N) (V := V) (nm := nm) (nl := nl) (pd := pd) hq hu
  refine ⟨A, B, C, q1, q2, q3, fun post H => ?_⟩
  unfold wpY_set
  refine yb_valid hs (fun _ => br_f (by decide) ?_) (fun z => absurd va z)
  refine yb_some hu hq e1 e2 l ?_
  exact br_t rfl (br_f (nI_pos (by omega)) (R _ H))
theorem ys_upd {k n v : Int32} {q : Nat} {post : Int32 → SY → Prop} (hs : sn ≤ 16) (hu : u ≤ 32) (va : en_Va sn k n) (hq : q < u) (e1 : K q = k) (e2 : N q = n) (l : ∀ i, i < q → ¬ (K i = k ∧ N i = n)) (v0 : ¬ v = 0) (H : post 1 (nI cc, nI u, nI sn, nI pn, rk, rv, K, N, upd V q v, nm, nl, pd)) : wpY_set post (nI cc, nI u, nI sn, nI pn, rk, rv, K, N, V, nm, nl, pd) k n v := by
  unfold wpY_set
  refine yb_valid hs (fun _ => br_f (by decide) ?_) (fun z => absurd va z)
  refine yb_some hu hq e1 e2 l ?_
  exact br_f v0 (br_f (nI_pos (by omega)) ⟨vp_in_nI (by omega) (by omega), nm_r (by rw [nI_clamp (by omega)]) H⟩)
theorem ys_keep {k n : Int32} {post : Int32 → SY → Prop} (hs : sn ≤ 16) (hu : u ≤ 32) (va : en_Va sn k n) (l : ∀ i, i < u → ¬ (K i = k ∧ N i = n)) (H : post 1 (nI cc, nI u, nI sn, nI pn, rk, rv, K, N, V, nm, nl, pd)) : wpY_set post (nI cc, nI u, nI sn, nI pn, rk, rv, K, N, V, nm, nl, pd) k n 0 := by
  unfold wpY_set
  refine yb_valid hs (fun _ => br_f (by decide) ?_) (fun z => absurd va z)
  refine yb_none hu l ?_
  exact br_t rfl (br_t (by decide) H)
theorem ys_full {k n v : Int32} {post : Int32 → SY → Prop} (hs : sn ≤ 16) (hu : u ≤ 32) (va : en_Va sn k n) (l : ∀ i, i < u → ¬ (K i = k ∧ N i = n)) (v0 : ¬ v = 0) (f : cc ≤ u) (H : post 0 (nI cc, nI u, nI sn, nI pn, rk, rv, K, N, V, nm, nl, pd)) : wpY_set post (nI cc, nI u, nI sn, nI pn, rk, rv, K, N, V, nm, nl, pd) k n v := by
  unfold wpY_set
  refine yb_valid hs (fun _ => br_f (by decide) ?_) (fun z => absurd va z)
  refine yb_none hu l ?_
  exact br_f v0 (br_t (by decide) (br_f (nI_nlt f (by omega)) H))
theorem ys_ins {k n v : Int32} {post : Int32 → SY → Prop} (hs : sn ≤ 16) (hu : u ≤ 32) (va : en_Va sn k n) (l : ∀ i, i < u → ¬ (K i = k ∧ N i = n)) (v0 : ¬ v = 0) (f : u < cc) (hc : cc ≤ 32) (H : post 1 (nI cc, nI (u + 1), nI sn, nI pn, rk, rv, upd K u k, upd N u n, upd V u v, nm, nl, pd)) : wpY_set post (nI cc, nI u, nI sn, nI pn, rk, rv, K, N, V, nm, nl, pd) k n v := by
  unfold wpY_set
  refine yb_valid hs (fun _ => br_f (by decide) ?_) (fun z => absurd va z)
  refine yb_none hu l ?_
  have i : vp_in (nI u) 32 := vp_in_nI (by omega) (by omega)
  refine br_f v0 (br_t (by decide) (br_t (nI_lt f (by omega)) ⟨i, ?_⟩))
  rw [nI_clamp (show u < 2 ^ 31 by omega)]
  exact nm_e ⟨i, nm_e ⟨i, nm_e (nm_r (nI_1 u) H)⟩⟩
theorem yg_inv {k n : Int32} {post : Int32 → Prop} (hs : sn ≤ 16) (va : ¬ en_Va sn k n) (H : post 0) : wpY_get post (nI cc, nI u, nI sn, nI pn, rk, rv, K, N, V, nm, nl, pd) k n := by
  unfold wpY_get
  exact yb_valid hs (fun z => absurd z va) (fun _ => br_t rfl H)
theorem yg_some {k n : Int32} {q : Nat} {post : Int32 → Prop} (hs : sn ≤ 16) (hu : u ≤ 32) (va : en_Va sn k n) (hq : q < u) (e1 : K q = k) (e2 : N q = n) (l : ∀ i, i < q → ¬ (K i = k ∧ N i = n)) (H : post (V q)) : wpY_get post (nI cc, nI u, nI sn, nI pn, rk, rv, K, N, V, nm, nl, pd) k n := by
  unfold wpY_get
  refine yb_valid hs (fun _ => br_f (by decide) ?_) (fun z => absurd va z)
  refine yb_some hu hq e1 e2 l ?_
  exact br_t (nI_pos' (by omega)) ⟨vp_in_nI (by omega) (by omega), by rw [nI_clamp (by omega)]; exact H⟩
theorem yg_none {k n : Int32} {post : Int32 → Prop} (hs : sn ≤ 16) (hu : u ≤ 32) (va : en_Va sn k n) (l : ∀ i, i < u → ¬ (K i = k ∧ N i = n)) (H : post 0) : wpY_get post (nI cc, nI u, nI sn, nI pn, rk, rv, K, N, V, nm, nl, pd) k n := by
  unfold wpY_get
  refine yb_valid hs (fun _ => br_f (by decide) ?_) (fun z => absurd va z)
  refine yb_none hu l ?_
  exact br_f (by decide) H
theorem yl_length {b : Nat} {post : Int32 → Prop} (hu : u ≤ 32) (hc : cc ≤ 32) (hb : b ≤ cc) (h1 : ∀ m, m < b → ∃ i, i < u ∧ K i = 0 ∧ N i = nI (m + 1)) (h0 : ∀ i, i < u → ¬ (K i = 0 ∧ N i = nI (b + 1))) (H : post (nI b)) : wpY_length post (nI cc, nI u, nI sn, nI pn, rk, rv, K, N, V, nm, nl, pd) := by
  refine pk_loop (σ := Unit) (fun f i _ => wY_length_2 post (nI cc) (nI u) (nI sn) (nI pn) rk rv K N V nm nl pd f (nI i)) (fun _ _ => True) b 0 () (Nat.zero_le _) trivial ?_ ?_
  · intro f _ _
    refine br_f (nI_nlt hb (by omega)) (yb_none hu ?_ (br_f (by decide) H))
    rw [nI_1]
    exact h0
  · intro f i _ hi _ hw
    obtain ⟨q, hq, a1, a2⟩ := h1 i hi
    obtain ⟨q, hq, a1, a2, l⟩ := en_first hq a1 a2
    refine br_f (nI_nlt (by omega) (by omega)) (yb_some hu hq a1 (by rw [a2, nI_1]) (by rw [nI_1]; exact l) (br_t (nI_pos' (by omega)) (nm_r (nI_1 i) (hw () trivial))))
theorem yb_before {k1 n1 k2 n2 : Int32} {post : Int32 → Prop} (h1 : en_k k1 n1 < en_k k2 n2 → post 1) (h0 : ¬ en_k k1 n1 < en_k k2 n2 → post 0) : wpY_before post (nI cc, nI u, nI sn, nI pn, rk, rv, K, N, V, nm, nl, pd) k1 n1 k2 n2 := by
  unfold wpY_before
  refine br_c (fun a => ?_) (fun a => ?_)
  · have q : en_k k1 n1 < en_k k2 n2 ↔ ¬ n2 ≤ n1 := by rw [a, en_ltE, Int32.not_le]
    exact br_c (fun b => h0 (fun z => q.mp z b)) (fun b => h1 (q.mpr b))
  · have q : en_k k1 n1 < en_k k2 n2 ↔ ¬ k2 ≤ k1 := by rw [en_ltN _ _ a, Int32.not_le]
    exact br_c (fun b => h0 (fun z => q.mp z b)) (fun b => h1 (q.mpr b))
theorem yn_0 {k n x : Int32} {i : Nat} {post : Int32 → SY → Prop} {J : Int32 → Int32 → Prop} (H : J x (nI (i + 1))) : wY_next_82 post J k n x (nI i) 0 (nI cc) (nI u) (nI sn) (nI pn) rk rv K N V nm nl pd := br_t rfl (nm_r (nI_1 i) H)
theorem yn_1 {k n : Int32} {i : Nat} {post : Int32 → SY → Prop} {J : Int32 → Int32 → Prop} (H : J (nI i) (nI (i + 1))) : wY_next_82 post J k n (-1) (nI i) 1 (nI cc) (nI u) (nI sn) (nI pn) rk rv K N V nm nl pd := br_f (by decide) (br_t (by decide) (nm_r (nI_1 i) H))
theorem yn_2 {k n : Int32} {i b : Nat} {post : Int32 → SY → Prop} {J : Int32 → Int32 → Prop} (hi : i < 32) (hb : b < 32) (h1 : en_k (K i) (N i) < en_k (K b) (N b) → J (nI i) (nI (i + 1))) (h0 : ¬ en_k (K i) (N i) < en_k (K b) (N b) → J (nI b) (nI (i + 1))) : wY_next_82 post J k n (nI b) (nI i) 1 (nI cc) (nI u) (nI sn) (nI pn) rk rv K N V nm nl pd := by
  refine br_f (by decide) (br_f (nI_pos (by omega)) ⟨vp_in_nI hi (by omega), vp_in_nI hi (by omega), vp_in_nI hb (by omega), vp_in_nI hb (by omega), ?_⟩)
  rw [nI_clamp (show i < 2 ^ 31 by omega), nI_clamp (show b < 2 ^ 31 by omega)]
  exact yb_before (fun z => br_f (by decide) (nm_r (nI_1 i) (h1 z))) (fun z => br_t rfl (nm_r (nI_1 i) (h0 z)))
/-- one turn of next's search: z says whether the i-th key is after -/
theorem yn_s {k n x : Int32} {i f : Nat} {post : Int32 → SY → Prop} (hi : i < u) (hu : u ≤ 32) (h1 : (k = 2 ∨ en_k k n < en_k (K i) (N i)) → wY_next_82 post (wY_next_40 post k n (nI cc) (nI u) (nI sn) (nI pn) rk rv K N V nm nl pd f) k n x (nI i) 1 (nI cc) (nI u) (nI sn) (nI pn) rk rv K N V nm nl pd) (h0 : ¬ (k = 2 ∨ en_k k n < en_k (K i) (N i)) → wY_next_82 post (wY_next_40 post k n (nI cc) (nI u) (nI sn) (nI pn) rk rv K N V nm nl pd f) k n x (nI i) 0 (nI cc) (nI u) (nI sn) (nI pn) rk rv K N V nm nl pd) : wY_next_40 post k n (nI cc) (nI u) (nI sn) (nI pn) rk rv K N V nm nl pd (f + 1) x (nI i) := by
  refine br_f (nI_ge hi (by omega)) (br_c (fun a => h1 (Or.inl a)) (fun a => ⟨vp_in_nI (by omega) (by omega), vp_in_nI (by omega) (by omega), ?_⟩))
  rw [nI_clamp (show i < 2 ^ 31 by omega)]
  exact yb_before (fun z => br_f (by decide) (h1 (Or.inr z))) (fun z => br_t rfl (h0 (fun q => q.elim a z)))
theorem yn_loop {k n : Int32} (hu : u ≤ 32) : ∃ r, en_M (fun z => k = 2 ∨ en_k k n < z) K N u r ∧ ∀ post : Int32 → SY → Prop, (r = -1 → post 2 (nI cc, nI u, nI sn, nI pn, 0, 0, K, N, V, nm, nl, pd)) → (∀ b, b < u → r = nI b → post (K b) (nI cc, nI u, nI sn, nI pn, N b, V b, K, N, V, nm, nl, pd)) → ∃ f, wY_next_40 post k n (nI cc) (nI u) (nI sn) (nI pn) rk rv K N V nm nl pd f (-1) 0 := by
  have L : ∀ d i x, i + d = u → en_M (fun z => k = 2 ∨ en_k k n < z) K N i x → ∃ r, en_M (fun z => k = 2 ∨ en_k k n < z) K N u r ∧ ∀ post : Int32 → SY → Prop, (r = -1 → post 2 (nI cc, nI u, nI sn, nI pn, 0, 0, K, N, V, nm, nl, pd)) → (∀ b, b < u → r = nI b → post (K b) (nI cc, nI u, nI sn, nI pn, N b, V b, K, N, V, nm, nl, pd)) → wY_next_40 post k n (nI cc) (nI u) (nI sn) (nI pn) rk rv K N V nm nl pd (d + 1) x (nI i) := by
    intro d
    induction d with
    | zero =>
      intro i x hi M
      have e : i = u := by omega
      subst e
      refine ⟨x, M, fun post H1 H2 => br_t (nI_le (Nat.le_refl _) (by omega)) ?_⟩
      rcases M with ⟨e, _⟩ | ⟨b, hb, e, _⟩
      · rw [e]
        exact br_f (by decide) (H1 e)
      · rw [e]
        have iv : vp_in (nI b) 32 := vp_in_nI (by omega) (by omega)
        have H := H2 b hb e
        refine br_t (nI_pos' (by omega)) ⟨iv, ?_⟩
        rw [nI_clamp (show b < 2 ^ 31 by omega)]
        exact nm_e ⟨iv, nm_e ⟨iv, H⟩⟩
    | succ d ih =>
      intro i x hi M
      have hi' : i < u := by omega
      by_cases Zi : k = 2 ∨ en_k k n < en_k (K i) (N i)
      · have M2 := M
        rcases M with ⟨e, _⟩ | ⟨b, hb, e, _⟩
        · rw [e] at M2 ⊢
          obtain ⟨r, Mr, h⟩ := ih (i + 1) (nI i) (by omega) (en_Mf M2 (by omega) Zi)
          exact ⟨r, Mr, fun post H1 H2 => yn_s hi' hu (fun _ => yn_1 (h post H1 H2)) (fun z => absurd Zi z)⟩
        · rw [e] at M2 ⊢
          by_cases l : en_k (K i) (N i) < en_k (K b) (N b)
          · obtain ⟨r, Mr, h⟩ := ih (i + 1) (nI i) (by omega) (en_Mb M2 (by omega) hb Zi l)
            exact ⟨r, Mr, fun post H1 H2 => yn_s hi' hu (fun _ => yn_2 (by omega) (by omega) (fun _ => h post H1 H2) (fun z => absurd l z)) (fun z => absurd Zi z)⟩
          · obtain ⟨r, Mr, h⟩ := ih (i + 1) (nI b) (by omega) (en_Mk M2 (by omega) hb l)
            exact ⟨r, Mr, fun post H1 H2 => yn_s hi' hu (fun _ => yn_2 (by omega) (by omega) (fun z => absurd z l) (fun _ => h post H1 H2)) (fun z => absurd Zi z)⟩
      · obtain ⟨r, Mr, h⟩ := ih (i + 1) x (by omega) (en_Mn M Zi)
        exact ⟨r, Mr, fun post H1 H2 => yn_s hi' hu (fun z => absurd z Zi) (fun _ => yn_0 (h post H1 H2))⟩
  obtain ⟨r, Mr, h⟩ := L u 0 (-1) (by omega) (en_M0 _ K N)
  exact ⟨r, Mr, fun post H1 H2 => ⟨_, h post H1 H2⟩⟩
theorem yn_16 {k n : Int32} {post : Int32 → SY → Prop} (hs : sn ≤ 16) (h1 : (k = 2 ∨ en_Va sn k n) → ∃ f, wY_next_40 post k n (nI cc) (nI u) (nI sn) (nI pn) rk rv K N V nm nl pd f (-1) 0) (h0 : ¬ (k = 2 ∨ en_Va sn k n) → post (-1) (nI cc, nI u, nI sn, nI pn, rk, rv, K, N, V, nm, nl, pd)) (g : k = 0 ∨ k = 1 ∨ k = 2) : wY_next_16 post k n (nI cc) (nI u) (nI sn) (nI pn) rk rv K N V nm nl pd := by
  unfold wY_next_16
  refine br_c (fun a => br_c (fun c => h0 ?_) (fun c => ?_)) (fun a => h1 ?_)
  · subst a
    rintro (z | z | ⟨_, j, hj, rfl⟩)
    · exact absurd z (by decide)
    · exact absurd z (by decide)
    · exact absurd c (nI_pos (by omega))
  · obtain ⟨j, hj, rfl⟩ := nI_of c
    refine pk_lt j sn (fun z => h1 (Or.inr (Or.inr ⟨a, j, z, rfl⟩))) (fun z => h0 ?_)
    subst a
    rintro (z | z | ⟨_, i, hi, e⟩)
    · exact absurd z (by decide)
    · exact absurd z (by decide)
    · have := (nI_eq hj (by omega)).mp e
      omega
  · rcases g with g | g | g
    · exact Or.inr (Or.inl g)
    · exact absurd g a
    · exact Or.inl g
theorem yn_next {k n : Int32} {post : Int32 → SY → Prop} (hs : sn ≤ 16) (h1 : (k = 2 ∨ en_Va sn k n) → ∃ f, wY_next_40 post k n (nI cc) (nI u) (nI sn) (nI pn) rk rv K N V nm nl pd f (-1) 0) (h0 : ¬ (k = 2 ∨ en_Va sn k n) → post (-1) (nI cc, nI u, nI sn, nI pn, rk, rv, K, N, V, nm, nl, pd)) : wpY_next post (nI cc, nI u, nI sn, nI pn, rk, rv, K, N, V, nm, nl, pd) k n := by
  unfold wpY_next
  refine br_c (fun a => yn_16 hs h1 h0 (Or.inl a)) (fun a => br_c (fun b => yn_16 hs h1 h0 (Or.inr (Or.inl b))) (fun b => br_c (fun c => yn_16 hs h1 h0 (Or.inr (Or.inr c))) (fun c => h0 ?_)))
  rintro (z | z | z)
  · exact c z
  · exact a z
  · exact b z.1
theorem yp_purge (lim : Int32) (hu : u ≤ 32) : ∃ (w : Nat) (A B C : Nat → Int32), en_P lim K N V A B C u w ∧ ∀ post : Int32 → SY → Prop, post (nI (u - w)) (nI cc, nI w, nI sn, nI pn, rk, rv, A, B, C, nm, nl, pd) → wpY_purgeBelow post (nI cc, nI u, nI sn, nI pn, rk, rv, K, N, V, nm, nl, pd) lim := by
  have L : ∀ d i w g, i + d = u → g + w = i → ∀ A B C : Nat → Int32, en_P lim K N V A B C i w → ∃ (w' : Nat) (A' B' C' : Nat → Int32), en_P lim K N V A' B' C' u w' ∧ ∀ post : Int32 → SY → Prop, post (nI (u - w')) (nI cc, nI w', nI sn, nI pn, rk, rv, A', B', C', nm, nl, pd) → wY_purgeBelow_13 post lim (nI u) (nI cc) (nI u) (nI sn) (nI pn) rk rv (d + 1) (nI w) (nI g) (nI i) A B C nm nl pd := by
    intro d
    induction d with
    | zero =>
      intro i w g hi hg A B C P
      have e : i = u := by omega
      subst e
      have e2 : g = i - w := by omega
      subst e2
      exact ⟨w, A, B, C, P, fun post H => br_t (nI_le (Nat.le_refl _) (by omega)) H⟩
    | succ d ih =>
      intro i w g hi hg A B C P
      have iv : vp_in (nI i) 32 := vp_in_nI (by omega) (by omega)
      have iw : vp_in (nI w) 32 := vp_in_nI (by omega) (by omega)
      have gg : ¬ nI u ≤ nI i := nI_ge (by omega) (by omega)
      have cl : (nI i).toNatClampNeg = i := nI_clamp (by omega)
      have cw : (nI w).toNatClampNeg = w := nI_clamp (by omega)
      by_cases c : lim ≤ C i
      · obtain ⟨w', A', B', C', P', h⟩ := ih (i + 1) (w + 1) g (by omega) (by omega) _ _ _ (en_Pk P c)
        refine ⟨w', A', B', C', P', fun post H => br_f gg ⟨iv, br_t (by rw [cl]; exact c) ?_⟩⟩
        have h' := h post H
        rw [cl, cw]
        exact ⟨iv, iw, nm_e ⟨iv, iw, nm_e ⟨iv, iw, nm_e (nm_r (nI_1 w) (nm_r (nI_1 i) h'))⟩⟩⟩
      · obtain ⟨w', A', B', C', P', h⟩ := ih (i + 1) w (g + 1) (by omega) (by omega) _ _ _ (en_Pd P c)
        exact ⟨w', A', B', C', P', fun post H => br_f gg ⟨iv, br_f (by rw [cl]; exact c) (nm_r (nI_1 g) (nm_r (nI_1 i) (h post H)))⟩⟩
  obtain ⟨w, A, B, C, P, h⟩ := L u 0 0 0 (by omega) rfl K N V (en_P0 lim K N V)
  exact ⟨w, A, B, C, P, fun post H => ⟨_, h post H⟩⟩
end
