section
variable {cc u sn pn : Nat} {rk rv : Int32} {K N V nm nl pd : Nat → Int32}
theorem fg_get {k n : Int32} {post : Int32 → Prop} (hs : sn ≤ 16) (hu : u ≤ 32) (S : en_S K N u) (G : fr_G sn K N V u) (H1 : ∀ i, i < u → K i = k → N i = n → post (V i)) (H0 : (∀ i, i < u → ¬ (K i = k ∧ N i = n)) → post 0) : wpX_get post (nI cc, nI u, nI sn, nI pn, rk, rv, K, N, V, nm, nl, pd) k n := by
  refine xg_get hs hu S (fun va => H0 ?_) (fun _ => H1) (fun _ => H0)
  rintro i hi ⟨a, b⟩
  have := fr_Va (G i hi).2
  rw [a, b] at this
  exact va this
theorem fr_border {x : St2} {post : Int32 → Prop} (J : fr_J cc x) (H : post 1) : wpL_border post x (nI cc) := by
  obtain ⟨u, sn, pn, rk, rv, K, N, V, nm, nl, pd, rfl, hu, hc, hs, hp, S, G⟩ := J
  have hu' : u ≤ 32 := by omega
  obtain ⟨b, B, hX⟩ := xl_length (cc := cc) (sn := sn) (pn := pn) (rk := rk) (rv := rv) (V := V) (nm := nm) (nl := nl) (pd := pd) hu' S
  have hb := B.1
  have F : wL_border_41 post (nI b) (nI cc) (nI u) (nI sn) (nI pn) rk rv K N V nm nl pd := by
    unfold wL_border_41
    refine fg_get hs hu' S G (fun i hi a1 a2 => ?_) (fun _ => br_t rfl H)
    exact absurd ⟨a1, by rw [a2, nI_1]⟩ (B.2.2 i hi)
  unfold wpL_border
  refine hX _ (br_f (nI_pos (by omega)) (br_f (nI_nlt hb (by omega)) (br_t (nI_le hu (by omega)) (pk_eq b 0 (fun _ => F) (fun z => ?_)))))
  obtain ⟨i, hi, a1, a2⟩ := B.2.1 (b - 1) (by omega)
  rw [show b - 1 + 1 = b by omega] at a2
  exact fg_get hs hu' S G (fun j hj _ _ => br_f (G j hj).1 F) (fun l => absurd ⟨a1, a2⟩ (l i hi))
theorem fr_present {post : Int32 → Prop} (I : fr_I cc u sn pn K N V) (H : post (nI u)) : wpL_presentInRange post (nI cc, nI u, nI sn, nI pn, rk, rv, K, N, V, nm, nl, pd) := by
  obtain ⟨hu, hc, hs, hp, S, G⟩ := I
  have hu' : u ≤ 32 := by omega
  have L2 : ∀ d a p : Nat, a + d = 16 → fr_Pl K N u (4294967296 + (a : Int)) p → wL_presentInRange_31 post (nI cc) (nI u) (nI sn) (nI pn) rk rv K N V nm nl pd (d + 1) (nI p) (nI a) := by
    intro d
    induction d with
    | zero =>
      intro a p ha h
      have e : a = 16 := by omega
      subst e
      have e2 : p = u := fr_Pl2 G hs h
      rw [e2]
      exact br_t (nI_lt (a := 15) (by omega) (by omega)) H
    | succ d ih =>
      intro a p ha h
      have ez : (4294967296 : Int) + ((a + 1 : Nat) : Int) = 4294967296 + (a : Int) + 1 := by omega
      refine br_f (nI_nlt (b := a) (a := 15) (by omega) (by omega)) (fg_get hs hu' S G (fun i hi e1 e2 => ?_) (fun l => ?_))
      · refine br_f (G i hi).1 (nm_r (nI_1 p) (nm_r (nI_1 a) (ih (a + 1) (p + 1) (by omega) ?_)))
        rw [ez]
        refine fr_Plp S h hi ?_
        rw [e1, e2, fr_k1, nI_toInt (by omega)]
      · refine br_t rfl (nm_r (nI_1 a) (ih (a + 1) p (by omega) ?_))
        rw [ez]
        refine fr_Pla h (fun i hi q => l i hi (en_inj ?_))
        rw [q, fr_k1, nI_toInt (by omega)]
  have L1 : ∀ d a p : Nat, a + d = 59 → fr_Pl K N u ((a : Int) - 8) p → wL_presentInRange_5 post (nI cc) (nI u) (nI sn) (nI pn) rk rv K N V nm nl pd (d + 1) (nI p) (nI a - 8) := by
    intro d
    induction d with
    | zero =>
      intro a p ha h
      have e : a = 59 := by omega
      subst e
      refine br_t (by decide) ⟨17, L2 16 0 p rfl ?_⟩
      have e0 : (4294967296 : Int) + ((0 : Nat) : Int) = 4294967296 := by omega
      rw [e0]
      exact fr_Pl1 G hs h
    | succ d ih =>
      intro a p ha h
      have ez : ((a + 1 : Nat) : Int) - 8 = (a : Int) - 8 + 1 := by omega
      have g : ¬ (50 : Int32) < nI a - 8 := by
        rw [Int32.lt_iff_toInt_lt, fr_8 (by omega), show (50 : Int32).toInt = 50 from by decide]
        omega
      refine br_f g (fg_get hs hu' S G (fun i hi e1 e2 => ?_) (fun l => ?_))
      · refine br_f (G i hi).1 (nm_r (nI_1 p) (nm_r (fr_8s a 1) (ih (a + 1) (p + 1) (by omega) ?_)))
        rw [ez]
        refine fr_Plp S h hi ?_
        rw [e1, e2, fr_k0, fr_8 (by omega)]
      · refine br_t rfl (nm_r (fr_8s a 1) (ih (a + 1) p (by omega) ?_))
        rw [ez]
        refine fr_Pla h (fun i hi q => l i hi (en_inj ?_))
        rw [q, fr_k0, fr_8 (by omega)]
  exact ⟨_, L1 59 0 0 rfl (fr_Pl0 G hs)⟩
theorem fl_before {k1 n1 k2 n2 : Int32} {post : Int32 → Prop} (h : en_k k1 n1 < en_k k2 n2) (H : post 1) : wpL_before post () k1 n1 k2 n2 := by
  unfold wpL_before
  refine br_c (fun a => ?_) (fun a => ?_)
  · have q : en_k k1 n1 < en_k k2 n2 ↔ ¬ n2 ≤ n1 := by rw [a, en_ltE, Int32.not_le]
    exact br_f (q.mp h) H
  · have q : en_k k1 n1 < en_k k2 n2 ↔ ¬ k2 ≤ k1 := by rw [en_ltN _ _ a, Int32.not_le]
    exact br_f (q.mp h) H
theorem fl_inRange {k n : Int32} {post : Int32 → Prop} (ky : fr_Ky sn k n) (hs : sn ≤ 16) (H : post 1) : wpL_inRange post () k n := by
  unfold wpL_inRange
  rcases ky with ⟨a, b, c⟩ | ⟨a, j, hj, b⟩
  · refine br_t a (br_f ?_ (br_f ?_ H))
    · rw [Int32.lt_iff_toInt_lt, show (-8 : Int32).toInt = -8 from by decide]
      omega
    · rw [Int32.lt_iff_toInt_lt, show (50 : Int32).toInt = 50 from by decide]
      omega
  · subst b
    refine br_f (by rw [a]; decide) (br_t a (br_f (nI_pos (by omega)) (br_f (nI_nlt (a := 15) (by omega) (by omega)) H)))
/-- the walk's step to the next key: the row falls in two at q -/
theorem fi_194 {post : Int32 → St2 → Prop} {Jc : Int32 → Int32 → Int32 → Int32 → Int32 → Int32 → Int32 → Int32 → Int32 → Int32 → Int32 → Int32 → Int32 → Int32 → (Nat → Int32) → (Nat → Int32) → (Nat → Int32) → (Nat → Int32) → (Nat → Int32) → (Nat → Int32) → Prop} {x1 x2 x3 x4 k0 y yp rm pk pq st n0 : Int32} {j q : Nat} (hs : sn ≤ 16) (hu : u ≤ 32) (S : en_S K N u) (ky : fr_Ky sn k0 n0) (hq : q ≤ u) (lo : ∀ i, i < q → ¬ en_k k0 n0 < en_k (K i) (N i)) (hi : ∀ i, q ≤ i → i < u → en_k k0 n0 < en_k (K i) (N i))
    (Hs : q < u → Jc (K q) y yp rm pk pq st (nI (j + 1)) (nI cc) (nI u) (nI sn) (nI pn) (N q) (V q) K N V nm nl pd) (Hn : q = u → Jc 2 y yp rm pk pq st (nI (j + 1)) (nI cc) (nI u) (nI sn) (nI pn) 0 0 K N V nm nl pd) : wL_iterate_194 post Jc x1 x2 x3 x4 k0 y yp rm pk pq st (nI j) n0 (nI cc) (nI u) (nI sn) (nI pn) rk rv K N V nm nl pd := by
  obtain ⟨q', hq', lo', hi', hX⟩ := xn_next (cc := cc) (pn := pn) (rk := rk) (rv := rv) (V := V) (nm := nm) (nl := nl) (pd := pd) hs hu S (Or.inr (fr_Va ky))
  have c1 : ¬ q < q' := fun l => lo' q l (Or.inr (hi q (Nat.le_refl _) (by omega)))
  have c2 : ¬ q' < q := fun l => (hi' q' (Nat.le_refl _) (by omega)).elim (fr_k2 ky) (lo q' l)
  have e : q' = q := by omega
  subst e
  unfold wL_iterate_194
  by_cases c : q' < u
  · exact hX _ _ (fun P HP => xr_some rfl c hu HP) _ (nm_r (nI_1 j) (Hs c))
  · have e : q' = u := by omega
    exact hX _ _ (fun P HP => xr_none (by rw [e]) hu HP) _ (nm_r (nI_1 j) (Hn e))
theorem fi_loop {c0 : Nat} {x1 x2 : Int32} {post : Int32 → St2 → Prop} (h0 : c0 ≤ 32) (H : ∀ x', fr_J cc x' → post 1 x') : ∀ (d q j u : Nat) (K N V : Nat → Int32) (rk rv k pk pq st : Int32), u = q + d → j + d = c0 → q ≤ j → fr_I cc u sn pn K N V → (d = 0 → k = 2) → (0 < d → k = K q ∧ rk = N q ∧ rv = V q) → (st = 0 ∨ ∀ i, q ≤ i → i < u → en_k pk pq < en_k (K i) (N i)) → wL_iterate_40 post x1 x2 (nI c0) (nI c0) (d + 1) k (nI j) (nI j) (nI (j - q)) pk pq st (nI j) (nI cc) (nI u) (nI sn) (nI pn) rk rv K N V nm nl pd := by
  intro d
  induction d with
  | zero =>
    intro q j u K N V rk rv k pk pq st e1 e2 e3 I hk _ _
    have ek := hk rfl
    subst ek
    have ej : j = c0 := by omega
    subst ej
    have er : nI u = nI j - nI (j - q) := by
      rw [pk_sub (by omega)]
      exact congrArg nI (by omega)
    exact br_t rfl (br_t rfl (br_t rfl (br_t rfl (br_t er (H _ (fr_mk I))))))
  | succ d ih =>
    intro q j u K N V rk rv k pk pq st e1 e2 e3 I _ hk hst
    have I0 := I
    obtain ⟨hu, hc, hs, hp, S, G⟩ := I
    have hu' : u ≤ 32 := by omega
    have hq : q < u := by omega
    obtain ⟨rfl, rfl, rfl⟩ := hk (by omega)
    obtain ⟨g, ky⟩ := G q hq
    have va := fr_Va ky
    have keep : wL_iterate_194 post (wL_iterate_40 post x1 x2 (nI c0) (nI c0) (d + 1)) x1 x2 (nI c0) (nI c0) (K q) (nI (j + 1)) (nI (j + 1)) (nI (j - q)) (K q) (N q) 1 (nI j) (N q) (nI cc) (nI u) (nI sn) (nI pn) (N q) (V q) K N V nm nl pd := by
      have gr : ∀ i, q + 1 ≤ i → i < u → en_k (K q) (N q) < en_k (K i) (N i) := fun i a b => S q i (by omega) b
      refine fi_194 (q := q + 1) hs hu' S ky (by omega) (fun i hi => ?_) gr (fun c => ?_) (fun c => ?_)
      · have := en_Sle S hq (show i ≤ q by omega)
        omega
      · have h := ih (q + 1) (j + 1) u K N V (N (q + 1)) (V (q + 1)) (K (q + 1)) (K q) (N q) 1 (by omega) (by omega) (by omega) I0 (fun z => absurd c (by omega)) (fun _ => ⟨rfl, rfl, rfl⟩) (Or.inr gr)
        rw [show j + 1 - (q + 1) = j - q by omega] at h
        exact h
      · have h := ih (q + 1) (j + 1) u K N V 0 0 2 (K q) (N q) 1 (by omega) (by omega) (by omega) I0 (fun _ => rfl) (fun z => absurd c (by omega)) (Or.inr gr)
        rw [show j + 1 - (q + 1) = j - q by omega] at h
        exact h
    have F148 : wL_iterate_148 post (wL_iterate_40 post x1 x2 (nI c0) (nI c0) (d + 1)) x1 x2 (nI c0) (nI c0) (K q) (nI (j + 1)) (nI (j + 1)) (nI (j - q)) (K q) (N q) 1 (nI j) (N q) (nI cc) (nI u) (nI sn) (nI pn) (N q) (V q) K N V nm nl pd := by
      unfold wL_iterate_148
      refine br_c (fun _ => keep) (fun _ => ⟨by decide, br_c (fun _ => keep) (fun _ => ?_)⟩)
      have pl : en_Pl K N u (K q) (N q) q := ⟨by omega, fun i hi => S i q hi hq, fun i a b => en_Sle S b a⟩
      obtain ⟨A, B, C, d1, d2, d3, hX⟩ := xs_del (cc := cc) (pn := pn) (rk := N q) (rv := V q) (V := V) (nm := nm) (nl := nl) (pd := pd) hs hu' va pl ⟨hq, rfl, rfl⟩
      have S' := en_Sdel S d1 d2
      have G' := fr_Gdel G d1 d2 d3
      have lo : ∀ i, i < q → ¬ en_k (K q) (N q) < en_k (A i) (B i) := fun i hi => by
        rw [d1.1 i hi, d2.1 i hi]
        have := S i q hi hq
        omega
      have gr : ∀ i, q ≤ i → i < u - 1 → en_k (K q) (N q) < en_k (A i) (B i) := fun i a b => by
        rw [d1.2 i a (by omega), d2.2 i a (by omega)]
        exact S q (i + 1) (by omega) (by omega)
      have I' : fr_I cc (u - 1) sn pn A B C := ⟨by omega, hc, hs, hp, S', G'⟩
      refine hX _ (br_f (by decide) (fg_get hs (by omega) S' G' (fun i hi a1 a2 => ?_) (fun _ => br_t rfl ?_)))
      · exfalso
        have e : en_k (A i) (B i) = en_k (K q) (N q) := by rw [a1, a2]
        by_cases c : i < q
        · rw [d1.1 i c, d2.1 i c] at e
          have := S i q c hq
          omega
        · have := gr i (by omega) hi
          omega
      · refine nm_r ((nI_1 (j - q)).trans (congrArg nI (show j - q + 1 = j + 1 - q by omega))) ?_
        refine fi_194 (q := q) hs (by omega) S' ky (by omega) lo gr (fun c => ?_) (fun c => ?_)
        · exact ih q (j + 1) (u - 1) A B C (B q) (C q) (A q) (K q) (N q) 1 (by omega) (by omega) (by omega) I' (fun z => absurd c (by omega)) (fun _ => ⟨rfl, rfl, rfl⟩) (Or.inr gr)
        · exact ih q (j + 1) (u - 1) A B C 0 0 2 (K q) (N q) 1 (by omega) (by omega) (by omega) I' (fun _ => rfl) (fun z => absurd c (by omega)) (Or.inr gr)
    have F121 : wL_iterate_121 post (wL_iterate_40 post x1 x2 (nI c0) (nI c0) (d + 1)) x1 x2 (nI c0) (nI c0) (K q) (nI j) (nI j) (nI (j - q)) (nI j) (N q) (nI cc) (nI u) (nI sn) (nI pn) (N q) (V q) K N V nm nl pd := by
      unfold wL_iterate_121
      exact nm_r (nI_1 j) (fl_inRange ky hs (br_f (by decide) (nm_r (nI_1 j) F148)))
    have F68 : wL_iterate_68 post (wL_iterate_40 post x1 x2 (nI c0) (nI c0) (d + 1)) x1 x2 (nI c0) (nI c0) (K q) (nI j) (nI j) (nI (j - q)) pk pq st (nI j) (nI cc) (nI u) (nI sn) (nI pn) (N q) (V q) K N V nm nl pd := by
      unfold wL_iterate_68
      refine br_f g (fg_get hs hu' S G (fun i hi a1 a2 => br_t ?_ ?_) (fun l => absurd ⟨rfl, rfl⟩ (l q hq)))
      · rw [en_S1 S hi hq ⟨a1, a2⟩]
      · by_cases z : st = 0
        · exact br_t z F121
        · exact br_f z (fl_before (hst.resolve_left z q (Nat.le_refl _) hq) (br_f (by decide) F121))
    refine br_f (fr_k2 ky) (br_t (nI_le (b := 40) (by omega) (by omega)) ?_)
    rcases fr_Kk ky with e | e
    · exact br_t e F68
    · exact br_f (by rw [e]; decide) (br_t e F68)
theorem fr_iterate {x : St2} {x1 x2 : Int32} {post : Int32 → St2 → Prop} (J : fr_J cc x) (H : ∀ x', fr_J cc x' → post 1 x') : wpL_iterate post x x1 x2 := by
  obtain ⟨u, sn, pn, rk, rv, K, N, V, nm, nl, pd, rfl, I⟩ := J
  have I0 := I
  obtain ⟨hu, hc, hs, hp, S, G⟩ := I
  have hu' : u ≤ 32 := by omega
  unfold wpL_iterate
  refine fr_present I0 ?_
  obtain ⟨q, hq, lo, hi, hX⟩ := xn_next (k := 2) (n := 0) (cc := cc) (pn := pn) (rk := rk) (rv := rv) (V := V) (nm := nm) (nl := nl) (pd := pd) hs hu' S (Or.inl rfl)
  have e : q = 0 := by
    by_cases c : q = 0
    · exact c
    · exact absurd (Or.inl rfl) (lo 0 (by omega))
  subst e
  by_cases c : 0 < u
  · refine hX _ _ (fun P HP => xr_some rfl c hu' HP) _ ⟨u + 1, ?_⟩
    exact fi_loop hu' H u 0 0 u K N V (N 0) (V 0) (K 0) 0 0 0 (by omega) (by omega) (Nat.le_refl _) I0 (fun z => absurd c (by omega)) (fun _ => ⟨rfl, rfl, rfl⟩) (Or.inl rfl)
  · have e : 0 = u := by omega
    refine hX _ _ (fun P HP => xr_none (by rw [← e]) hu' HP) _ ⟨u + 1, ?_⟩
    exact fi_loop hu' H u 0 0 u K N V 0 0 2 0 0 0 (by omega) (by omega) (Nat.le_refl _) I0 (fun _ => rfl) (fun z => absurd z c) (Or.inl rfl)
end
