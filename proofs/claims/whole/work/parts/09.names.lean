section
variable {cc u sn pn : Nat} {rk rv : Int32} {K N V K' N' V' nm nl pd : Nat → Int32}
theorem ht_m1 {j : Nat} (hj : j < 2 ^ 31) : ¬ nI j = -1 := by
  intro z
  have := nI_pos hj
  rw [z] at this
  exact absurd (by decide) this
theorem ht_len (hs : sn ≤ 16) (n : Int32) : ∃ r : Int32, ((n = -1 ∧ r = nI pn) ∨ (∃ j, j < sn ∧ n = nI j ∧ r = nl j) ∨ (¬ n = -1 ∧ r = -1)) ∧ (∀ post : Int32 → Prop, post r → wpX_symbolLength post (nI cc, nI u, nI sn, nI pn, rk, rv, K, N, V, nm, nl, pd) n) ∧ (∀ post : Int32 → Prop, post r → wpY_symbolLength post (nI cc, nI u, nI sn, nI pn, rk, rv, K', N', V', nm, nl, pd) n) := by
  by_cases a : n = -1
  · refine ⟨nI pn, Or.inl ⟨a, rfl⟩, fun post H => xy_len hs (fun _ => H) (fun j hj e => ?_) (fun z => absurd a z), fun post H => yy_len hs (fun _ => H) (fun j hj e => ?_) (fun z => absurd a z)⟩
    · exact absurd (e.symm.trans a) (ht_m1 (by omega))
    · exact absurd (e.symm.trans a) (ht_m1 (by omega))
  · by_cases c : ∃ j, j < sn ∧ n = nI j
    · obtain ⟨j, hj, rfl⟩ := c
      refine ⟨nl j, Or.inr (Or.inl ⟨j, hj, rfl, rfl⟩), fun post H => xy_len hs (fun z => absurd z a) (fun i hi e => ?_) (fun _ z => absurd ⟨j, hj, rfl⟩ z), fun post H => yy_len hs (fun z => absurd z a) (fun i hi e => ?_) (fun _ z => absurd ⟨j, hj, rfl⟩ z)⟩
      · have : j = i := (nI_eq (by omega) (by omega)).mp e
        subst this
        exact H
      · have : j = i := (nI_eq (by omega) (by omega)).mp e
        subst this
        exact H
    · exact ⟨-1, Or.inr (Or.inr ⟨a, rfl⟩), fun post H => xy_len hs (fun z => absurd z a) (fun i hi e => absurd ⟨i, hi, e⟩ c) (fun _ _ => H), fun post H => yy_len hs (fun z => absurd z a) (fun i hi e => absurd ⟨i, hi, e⟩ c) (fun _ _ => H)⟩
theorem ht_charAt (hs : sn ≤ 16) (hp : pn ≤ 8) (q1 : ∀ j, j < sn → ∃ q, q ≤ 8 ∧ nl j = nI q) (q2 : ∀ j, narrow .char (.int (nm j)) = .int (nm j)) (q3 : ∀ j, narrow .char (.int (pd j)) = .int (pd j)) (n m : Int32) : ∃ r : Int32, (∀ post : Int32 → Prop, post r → wpX_symbolCharAt post (nI cc, nI u, nI sn, nI pn, rk, rv, K, N, V, nm, nl, pd) n m) ∧ (∀ post : Int32 → Prop, post r → wpY_symbolCharAt post (nI cc, nI u, nI sn, nI pn, rk, rv, K', N', V', nm, nl, pd) n m) := by
  obtain ⟨r, c, hX, hY⟩ := ht_len (cc := cc) (u := u) (pn := pn) (rk := rk) (rv := rv) (K := K) (N := N) (V := V) (K' := K') (N' := N') (V' := V') (nm := nm) (nl := nl) (pd := pd) hs n
  by_cases m0 : m < 0
  · refine ⟨0, fun post H => ?_, fun post H => ?_⟩
    · unfold wpX_symbolCharAt
      exact hX _ (br_t m0 H)
    · unfold wpY_symbolCharAt
      exact hY _ (br_c (fun _ => br_t m0 H) (fun _ => H))
  · by_cases g : m < r
    · have r0 : 0 ≤ r := Int32.le_trans (Int32.not_lt.mp m0) (Int32.le_of_lt g)
      obtain ⟨i, hi, rfl⟩ := nI_of m0
      rcases c with ⟨e, er⟩ | ⟨j, hj, e, er⟩ | ⟨e, er⟩
      · subst er
        have g' : i < pn := (nI_ltI hi (by omega)).mp g
        have iv : vp_in (nI i) 8 := vp_in_nI (by omega) (by omega)
        have cl : (nI i).toNatClampNeg = i := nI_clamp hi
        refine ⟨pd i, fun post H => ?_, fun post H => ?_⟩
        · unfold wpX_symbolCharAt
          refine hX _ (br_f m0 (br_t g (br_t e ⟨iv, ?_⟩)))
          rw [cl]
          exact ⟨q3 i, H⟩
        · unfold wpY_symbolCharAt
          refine hY _ (br_t r0 (br_f m0 (br_t g (br_t e ⟨iv, ?_⟩))))
          rw [cl]
          exact ⟨q3 i, H⟩
      · obtain ⟨q, hq, eq⟩ := q1 j hj
        have g' : i < q := by
          rw [er, eq] at g
          exact (nI_ltI hi (by omega)).mp g
        have e' : ¬ n = -1 := by
          rw [e]
          exact ht_m1 (by omega)
        have ix : n * 8 + nI i = nI (j * 8 + i) := by
          rw [e]
          exact sy_ix j i
        have iv : vp_in (nI (j * 8 + i)) 128 := vp_in_nI (by omega) (by omega)
        have cl : (nI (j * 8 + i)).toNatClampNeg = j * 8 + i := nI_clamp (by omega)
        refine ⟨nm (j * 8 + i), fun post H => ?_, fun post H => ?_⟩
        · unfold wpX_symbolCharAt
          refine hX _ (br_f m0 (br_t g (br_f e' ?_)))
          rw [ix, cl]
          exact ⟨iv, q2 _, H⟩
        · unfold wpY_symbolCharAt
          refine hY _ (br_t r0 (br_f m0 (br_t g (br_f e' ?_))))
          rw [ix, cl]
          exact ⟨iv, q2 _, H⟩
      · rw [er] at r0
        exact absurd r0 (by decide)
    · refine ⟨0, fun post H => ?_, fun post H => ?_⟩
      · unfold wpX_symbolCharAt
        exact hX _ (br_f m0 (br_f g H))
      · unfold wpY_symbolCharAt
        exact hY _ (br_c (fun _ => br_f m0 (br_f g H)) (fun _ => H))
theorem sy_cpN {nm pd : Nat → Int32} {b : Nat} (q2 : ∀ j, narrow .char (.int (nm j)) = .int (nm j)) (q3 : ∀ j, narrow .char (.int (pd j)) = .int (pd j)) : ∀ n j, narrow .char (.int (sy_cp nm pd b n j)) = .int (sy_cp nm pd b n j) := by
  intro n
  induction n with
  | zero => exact q2
  | succ n ih =>
    intro j
    show narrow .char (.int (upd (sy_cp nm pd b n) (b + n) (vp_nar .char (pd n)) j)) = .int (upd (sy_cp nm pd b n) (b + n) (vp_nar .char (pd n)) j)
    have e : vp_nar .char (pd n) = pd n := Value.int.inj (q3 n)
    by_cases c : j = b + n
    · subst c
      rw [pk_us, e]
      exact q3 n
    · rw [pk_un c]
      exact ih j
theorem ht_end {x : SX} {y : SY} (I : ht_R x y) : ∃ (r : Int32) (x' : SX) (y' : SY), ht_R x' y' ∧ (∀ post : Int32 → SX → Prop, post r x' → wpX_symbolEnd post x) ∧ (∀ post : Int32 → SY → Prop, post r y' → wpY_symbolEnd post y) := by
  have I0 := I
  obtain ⟨cc, u, sn, pn, rk, rv, K, N, V, K', N', V', nm, nl, pd, rfl, rfl, hc, hu, hs, hp, q1, q2, q3, R⟩ := I
  by_cases p0 : pn = 0
  · subst p0
    exact ⟨-1, _, _, I0, fun post H => br_t rfl H, fun post H => br_t rfl H⟩
  · have pz : ¬ nI pn = 0 := nI_ne0 (by omega) (by omega)
    have I1 : ht_R (nI cc, nI u, nI sn, 0, rk, rv, K, N, V, nm, nl, pd) (nI cc, nI u, nI sn, 0, rk, rv, K', N', V', nm, nl, pd) := ⟨cc, u, sn, 0, rk, rv, K, N, V, K', N', V', nm, nl, pd, rfl, rfl, hc, hu, hs, by omega, q1, q2, q3, R⟩
    by_cases c : ∃ s, s < sn ∧ sy_E nm nl pd pn s
    · obtain ⟨s, hs', E⟩ := c
      obtain ⟨t, ht, E, l⟩ := en_least (sy_E nm nl pd pn) s E
      refine ⟨nI t, _, _, I1, fun post H => ?_, fun post H => yy_some hs hp p0 (by omega) E l H⟩
      unfold wpX_symbolEnd
      exact br_f pz (xy_some hs hp (by omega) E l (br_f (ht_m1 (by omega)) H))
    · have l : ∀ t, t < sn → ¬ sy_E nm nl pd pn t := fun t ht z => c ⟨t, ht, z⟩
      by_cases f : sn = 16
      · refine ⟨-1, _, _, I1, fun post H => ?_, fun post H => yy_full f hp p0 l H⟩
        unfold wpX_symbolEnd
        exact br_f pz (xy_none hs hp l (br_t rfl (br_t (nI_le (a := 16) (by omega) (by omega)) H)))
      · refine ⟨nI sn, _, _, ⟨cc, u, sn + 1, 0, rk, rv, K, N, V, K', N', V', sy_cp nm pd (sn * 8) pn, upd nl sn (nI pn), pd, rfl, rfl, hc, hu, by omega, by omega, fun j hj => ?_, sy_cpN q2 q3 pn, q3, R⟩, fun post H => ?_, fun post H => yy_add (by omega) hp p0 l H⟩
        · by_cases e : j = sn
          · subst e
            exact ⟨pn, hp, pk_us⟩
          · rw [pk_un e]
            exact q1 j (by omega)
        · unfold wpX_symbolEnd
          exact br_f pz (xy_none hs hp l (br_t rfl (br_f (nI_ge (b := 16) (by omega) (by omega)) (xy_add (by omega) hp H))))
theorem ht_char {x : SX} {y : SY} (I : ht_R x y) (v : Int32) : ∃ (r : Int32) (x' : SX) (y' : SY), ht_R x' y' ∧ (∀ post : Int32 → SX → Prop, post r x' → wpX_symbolChar post x (lw_u16 v)) ∧ (∀ post : Int32 → SY → Prop, post r y' → wpY_symbolChar post y (lw_u16 v)) := by
  have I0 := I
  obtain ⟨cc, u, sn, pn, rk, rv, K, N, V, K', N', V', nm, nl, pd, rfl, rfl, hc, hu, hs, hp, q1, q2, q3, R⟩ := I
  by_cases a : lw_u16 v < 97
  · exact ⟨0, _, _, I0, fun post H => br_t a H, fun post H => br_t a H⟩
  · by_cases b : lw_u16 v ≤ 122
    · by_cases c : pn < 8
      · have g : nI pn < 8 := nI_lt (b := 8) c (by omega)
        have iv : vp_in (nI pn) 8 := vp_in_nI c (by omega)
        have cl : (nI pn).toNatClampNeg = pn := nI_clamp (by omega)
        have e : vp_nar .char (lw_u16 v) = lw_u16 v := pk_vc v
        refine ⟨1, _, _, ⟨cc, u, sn, pn + 1, rk, rv, K, N, V, K', N', V', nm, nl, upd pd pn (lw_u16 v), rfl, rfl, hc, hu, hs, by omega, q1, q2, fun j => ?_, R⟩, fun post H => ?_, fun post H => ?_⟩
        · by_cases z : j = pn
          · subst z
            rw [pk_us]
            exact pk_nc v
          · rw [pk_un z]
            exact q3 j
        · exact br_f a (br_t b (br_t g ⟨iv, nm_r (by rw [cl, e]) (nm_r (nI_1 pn) H)⟩))
        · exact br_f a (br_t b (br_t g ⟨iv, nm_r (by rw [cl, e]) (nm_r (nI_1 pn) H)⟩))
      · have g : ¬ nI pn < 8 := nI_nlt (b := 8) (by omega) (by omega)
        exact ⟨0, _, _, I0, fun post H => br_f a (br_t b (br_f g H)), fun post H => br_f a (br_t b (br_f g H))⟩
    · exact ⟨0, _, _, I0, fun post H => br_f a (br_f b H), fun post H => br_f a (br_f b H)⟩
end
