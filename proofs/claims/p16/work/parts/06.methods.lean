section
variable {cc u sn pn : Nat} {rk rv : Int32} {K N V nm nl pd : Nat → Int32}
theorem fr_mk {cc u sn pn : Nat} {rk rv : Int32} {K N V nm nl pd : Nat → Int32} (I : fr_I cc u sn pn K N V) : fr_J cc (nI cc, nI u, nI sn, nI pn, rk, rv, K, N, V, nm, nl, pd) := ⟨u, sn, pn, rk, rv, K, N, V, nm, nl, pd, rfl, I⟩
theorem fr_set {x : St2} {k n v : Int32} {post : Int32 → St2 → Prop} (J : fr_J cc x) (hk : k = 1 ∨ (k = 0 ∧ -8 ≤ n.toInt ∧ n.toInt ≤ 50)) (H : ∀ r x', fr_J cc x' → post r x') : wpX_set post x k n v := by
  have J0 := J
  obtain ⟨u, sn, pn, rk, rv, K, N, V, nm, nl, pd, rfl, hu, hc, hs, hp, S, G⟩ := J
  have hu' : u ≤ 32 := by omega
  by_cases va : en_Va sn k n
  · have ky : fr_Ky sn k n := by
      rcases hk with e | e
      · rcases va with z | z
        · rw [e] at z
          exact absurd z (by decide)
        · exact Or.inr z
      · exact Or.inl e
    obtain ⟨p, h⟩ := en_Plx (k := k) (n := n) S
    by_cases a : en_At K N u k n p
    · by_cases v0 : v = 0
      · subst v0
        obtain ⟨A, B, C, d1, d2, d3, hX⟩ := xs_del (cc := cc) (pn := pn) (rk := rk) (rv := rv) (V := V) (nm := nm) (nl := nl) (pd := pd) hs hu' va h a
        exact hX _ (H _ _ (fr_mk ⟨by omega, hc, hs, hp, en_Sdel S d1 d2, fr_Gdel G d1 d2 d3⟩))
      · exact xs_upd hs hu' va h a v0 (H _ _ (fr_mk ⟨hu, hc, hs, hp, S, fr_Gupd G v0⟩))
    · by_cases v0 : v = 0
      · subst v0
        exact xs_keep hs hu' va h a (H _ _ J0)
      · by_cases f : u < cc
        · obtain ⟨A, B, C, d1, d2, d3, hX⟩ := xs_ins (cc := cc) (pn := pn) (rk := rk) (rv := rv) (V := V) (nm := nm) (nl := nl) (pd := pd) hs hu' va h a v0 f hc
          exact hX _ (H _ _ (fr_mk ⟨by omega, hc, hs, hp, en_Sins S d1 d2 h.2.1 (en_Nat h a S) h.1, fr_Gins G h.1 d1 d2 d3 v0 ky⟩))
        · exact xs_full hs hu' va h a v0 (by omega) (H _ _ J0)
  · exact xs_inv hs va (H _ _ J0)
theorem fr_fill {x : St2} {a n : Nat} {v : Int32} {post : Int32 → St2 → Prop} (J : fr_J cc x) (ha : a < 48) (hn : n < 9) (H : ∀ r x', fr_J cc x' → post r x') : wpX_fill post x (nI a - 8) (nI n) v := by
  have L : ∀ d i, i + d = n → ∀ x : St2, fr_J cc x → wX_fill_15 post (nI a - 8) (nI n) v (d + 1) (nI i) x.1 x.2.1 x.2.2.1 x.2.2.2.1 x.2.2.2.2.1 x.2.2.2.2.2.1 x.2.2.2.2.2.2.1 x.2.2.2.2.2.2.2.1 x.2.2.2.2.2.2.2.2.1 x.2.2.2.2.2.2.2.2.2.1 x.2.2.2.2.2.2.2.2.2.2.1 x.2.2.2.2.2.2.2.2.2.2.2 := by
    intro d
    induction d with
    | zero =>
      intro i hi x J
      have e : i = n := by omega
      subst e
      obtain ⟨a1, a2, a3, a4, a5, a6, a7, a8, a9, a10, a11, a12⟩ := x
      exact br_t (nI_le (Nat.le_refl _) (by omega)) (H _ _ J)
    | succ d ih =>
      intro i hi x J
      obtain ⟨a1, a2, a3, a4, a5, a6, a7, a8, a9, a10, a11, a12⟩ := x
      refine br_f (nI_ge (by omega) (by omega)) (fr_set J (Or.inr ⟨rfl, ?_, ?_⟩) ?_)
      · rw [fr_8s, fr_8 (by omega)]
        omega
      · rw [fr_8s, fr_8 (by omega)]
        omega
      · rintro r ⟨b1, b2, b3, b4, b5, b6, b7, b8, b9, b10, b11, b12⟩ J'
        exact br_c (fun _ => H _ _ J') (fun _ => nm_r (nI_1 i) (ih (i + 1) (by omega) _ J'))
  have h := L n 0 (by omega) x J
  obtain ⟨a1, a2, a3, a4, a5, a6, a7, a8, a9, a10, a11, a12⟩ := x
  exact br_f (nI_pos (by omega)) (br_t (nI_le (b := 64) (by omega) (by omega)) ⟨_, h⟩)
theorem fr_append {x : St2} {v : Int32} {post : Int32 → St2 → Prop} (J : fr_J cc x) (H : ∀ r x', fr_J cc x' → post r x') : wpX_append post x v := by
  have J0 := J
  obtain ⟨u, sn, pn, rk, rv, K, N, V, nm, nl, pd, rfl, hu, hc, hs, hp, S, G⟩ := J
  refine br_c (fun _ => H _ _ J0) (fun _ => ?_)
  obtain ⟨b, B, hX⟩ := xl_length (cc := cc) (sn := sn) (pn := pn) (rk := rk) (rv := rv) (V := V) (nm := nm) (nl := nl) (pd := pd) (show u ≤ 32 by omega) S
  have hb := B.1
  refine hX _ (nm_r (nI_1 b) (fr_set J0 (Or.inr ⟨rfl, ?_, ?_⟩) ?_))
  · rw [nI_toInt (by omega)]
    omega
  · rw [nI_toInt (by omega)]
    omega
  · rintro r ⟨b1, b2, b3, b4, b5, b6, b7, b8, b9, b10, b11, b12⟩ J'
    exact br_c (fun _ => H _ _ J') (fun _ => H _ _ J')
theorem fr_purge {x : St2} {v : Int32} {post : Int32 → St2 → Prop} (J : fr_J cc x) (H : ∀ r x', fr_J cc x' → post r x') : wpX_purgeBelow post x v := by
  obtain ⟨u, sn, pn, rk, rv, K, N, V, nm, nl, pd, rfl, hu, hc, hs, hp, S, G⟩ := J
  obtain ⟨w, A, B, C, P, hX⟩ := xp_purge (cc := cc) (sn := sn) (pn := pn) (rk := rk) (rv := rv) (K := K) (N := N) (V := V) (nm := nm) (nl := nl) (pd := pd) v (show u ≤ 32 by omega)
  have hw := P.1
  have q := fr_P S G P
  exact hX _ (H _ _ (fr_mk ⟨by omega, hc, hs, hp, q.1, q.2⟩))
theorem fr_clear {x : St2} {post : St2 → Prop} (J : fr_J cc x) (H : ∀ x', fr_J cc x' → post x') : wpX_clear post x := by
  obtain ⟨u, sn, pn, rk, rv, K, N, V, nm, nl, pd, rfl, hu, hc, hs, hp, S, G⟩ := J
  exact H _ (fr_mk (u := 0) ⟨Nat.zero_le _, hc, hs, hp, en_S0 K N, fun i h => absurd h (by omega)⟩)
theorem fr_char {x : St2} {c : Int32} {post : Int32 → St2 → Prop} (J : fr_J cc x) (H : ∀ r x', fr_J cc x' → post r x') : wpX_symbolChar post x c := by
  have J0 := J
  obtain ⟨u, sn, pn, rk, rv, K, N, V, nm, nl, pd, rfl, hu, hc, hs, hp, S, G⟩ := J
  refine br_c (fun _ => H _ _ J0) (fun _ => br_c (fun _ => ?_) (fun _ => H _ _ J0))
  exact pk_lt pn 8 (fun z => ⟨vp_in_nI z (by omega), nm_e (nm_r (nI_1 pn) (H _ _ (fr_mk ⟨hu, hc, hs, by omega, S, G⟩)))⟩) (fun _ => H _ _ J0)
theorem fr_m1 {j : Nat} (hj : j < 2 ^ 31) : ¬ nI j = -1 := by
  intro z
  have := nI_pos hj
  rw [z] at this
  exact absurd (by decide) this
theorem fr_end {x : St2} {post : Int32 → St2 → Prop} (J : fr_J cc x) (H : ∀ r x', fr_J cc x' → post r x') : wpX_symbolEnd post x := by
  have J0 := J
  obtain ⟨u, sn, pn, rk, rv, K, N, V, nm, nl, pd, rfl, hu, hc, hs, hp, S, G⟩ := J
  have J1 : fr_J cc (nI cc, nI u, nI sn, 0, rk, rv, K, N, V, nm, nl, pd) := fr_mk (pn := 0) ⟨hu, hc, hs, by omega, S, G⟩
  refine br_c (fun _ => H _ _ J0) (fun _ => ?_)
  by_cases c : ∃ s, s < sn ∧ sy_E nm nl pd pn s
  · obtain ⟨s, hs', E⟩ := c
    obtain ⟨t, ht, E, l⟩ := en_least (sy_E nm nl pd pn) s E
    exact xy_some hs hp (by omega) E l (br_f (fr_m1 (by omega)) (H _ _ J1))
  · have l : ∀ t, t < sn → ¬ sy_E nm nl pd pn t := fun t ht z => c ⟨t, ht, z⟩
    refine xy_none hs hp l (br_t rfl ?_)
    by_cases f : sn = 16
    · exact br_t (nI_le (a := 16) (by omega) (by omega)) (H _ _ J1)
    · exact br_f (nI_ge (b := 16) (by omega) (by omega)) (xy_add (by omega) hp (H _ _ (fr_mk (pn := 0) (sn := sn + 1) ⟨hu, hc, by omega, by omega, S, fun i hi => ⟨(G i hi).1, fr_Kym (by omega) (G i hi).2⟩⟩)))
end
