def i_Rel (k : Nat) (u : SX) (v : SY) : Prop := ht_R u v
theorem i_up {k : Nat} {u : SX} {v : SY} (h : i_Rel k u v) : i_Rel (k + 4) u v := h
theorem i_vc0 (k0 : Int32) : wpX_init (fun u => wpY_init (fun v => i_Rel 1 u v) k0) k0 := by
  have Z : ∀ j, j ≤ 32 → ht_R (nI j, 0, 0, 0, 0, 0, (fun _ => 0), (fun _ => 0), (fun _ => 0), (fun _ => 0), (fun _ => 0), (fun _ => 0)) (nI j, 0, 0, 0, 0, 0, (fun _ => 0), (fun _ => 0), (fun _ => 0), (fun _ => 0), (fun _ => 0), (fun _ => 0)) := fun j hj => ⟨j, 0, 0, 0, 0, 0, (fun _ => 0), (fun _ => 0), (fun _ => 0), (fun _ => 0), (fun _ => 0), (fun _ => 0), (fun _ => 0), (fun _ => 0), (fun _ => 0), rfl, rfl, hj, Nat.zero_le _, by omega, by omega, fun j h => absurd h (by omega), fun _ => rfl, fun _ => rfl, en_R0 _ _ _ _ _ _⟩
  by_cases a : 4 ≤ k0
  · by_cases b : k0 ≤ 32
    · have n0 : ¬ k0 < 0 := Int32.not_lt.mpr (Int32.le_trans (by decide) a)
      obtain ⟨j, hj, rfl⟩ := nI_of2 (n := 32) (by decide) n0 b
      exact br_t a (br_t b (br_t a (br_t b (Z j hj))))
    · exact br_t a (br_f b (br_t a (br_f b (Z 32 (by omega)))))
  · exact br_f a (br_f a (br_t (by decide) (Z 4 (by omega))))
theorem i_vc_symbolChar {k : Nat} {u : SX} {v : SY} (I : i_Rel k u v) (hk : k + 4 ≤ 2049) (v1 : Int32) : wpX_symbolChar (fun r u' => wpY_symbolChar (fun r' v' => r' = r ∧ i_Rel (k + 4) u' v') v (lw_u16 v1)) u (lw_u16 v1) := by
  obtain ⟨r, x', y', R, hX, hY⟩ := ht_char I v1
  exact hX _ (hY _ ⟨rfl, R⟩)
theorem i_vc_symbolEnd {k : Nat} {u : SX} {v : SY} (I : i_Rel k u v) (hk : k + 4 ≤ 2049) : wpX_symbolEnd (fun r u' => wpY_symbolEnd (fun r' v' => r' = r ∧ i_Rel (k + 4) u' v') v) u := by
  obtain ⟨r, x', y', R, hX, hY⟩ := ht_end I
  exact hX _ (hY _ ⟨rfl, R⟩)
theorem i_vc_symbolCount {k : Nat} {u : SX} {v : SY} (I : i_Rel k u v) (hk : k + 4 ≤ 2049) : wpX_symbolCount (fun r => wpY_symbolCount (fun r' => r' = r ∧ i_Rel (k + 4) u v) v) u := by
  have I0 := I
  obtain ⟨cc, us, sn, pn, rk, rv, K, N, V, K', N', V', nm, nl, pd, rfl, rfl, _⟩ := I
  exact ⟨rfl, I0⟩
theorem i_vc_symbolLength {k : Nat} {u : SX} {v : SY} (I : i_Rel k u v) (hk : k + 4 ≤ 2049) (v1 : Int32) : wpX_symbolLength (fun r => wpY_symbolLength (fun r' => r' = r ∧ i_Rel (k + 4) u v) v v1) u v1 := by
  have I0 := I
  obtain ⟨cc, us, sn, pn, rk, rv, K, N, V, K', N', V', nm, nl, pd, rfl, rfl, hc, hu, hs, _⟩ := I
  obtain ⟨r, _, hX, hY⟩ := ht_len (cc := cc) (u := us) (pn := pn) (rk := rk) (rv := rv) (K := K) (N := N) (V := V) (K' := K') (N' := N') (V' := V') (nm := nm) (nl := nl) (pd := pd) hs v1
  exact hX _ (hY _ ⟨rfl, I0⟩)
theorem i_vc_symbolCharAt {k : Nat} {u : SX} {v : SY} (I : i_Rel k u v) (hk : k + 4 ≤ 2049) (v1 : Int32) (v2 : Int32) : wpX_symbolCharAt (fun r => wpY_symbolCharAt (fun r' => r' = r ∧ i_Rel (k + 4) u v) v v1 v2) u v1 v2 := by
  have I0 := I
  obtain ⟨cc, us, sn, pn, rk, rv, K, N, V, K', N', V', nm, nl, pd, rfl, rfl, hc, hu, hs, hp, q1, q2, q3, _⟩ := I
  obtain ⟨r, hX, hY⟩ := ht_charAt (cc := cc) (u := us) (rk := rk) (rv := rv) (K := K) (N := N) (V := V) (K' := K') (N' := N') (V' := V') (nm := nm) (nl := nl) (pd := pd) hs hp q1 q2 q3 v1 v2
  exact hX _ (hY _ ⟨rfl, I0⟩)
theorem i_vc_set {k : Nat} {u : SX} {v : SY} (I : i_Rel k u v) (hk : k + 4 ≤ 2049) (v1 : Int32) (v2 : Int32) (v3 : Int32) : wpX_set (fun r u' => wpY_set (fun r' v' => r' = r ∧ i_Rel (k + 4) u' v') v v1 v2 v3) u v1 v2 v3 := by
  obtain ⟨r, x', y', R, hX, hY⟩ := ht_set I v1 v2 v3
  exact hX _ (hY _ ⟨rfl, R⟩)
theorem i_vc_get {k : Nat} {u : SX} {v : SY} (I : i_Rel k u v) (hk : k + 4 ≤ 2049) (v1 : Int32) (v2 : Int32) : wpX_get (fun r => wpY_get (fun r' => r' = r ∧ i_Rel (k + 4) u v) v v1 v2) u v1 v2 := by
  obtain ⟨r, hX, hY⟩ := ht_get I v1 v2
  exact hX _ (hY _ ⟨rfl, I⟩)
theorem i_vc_count {k : Nat} {u : SX} {v : SY} (I : i_Rel k u v) (hk : k + 4 ≤ 2049) : wpX_count (fun r => wpY_count (fun r' => r' = r ∧ i_Rel (k + 4) u v) v) u := by
  have I0 := I
  obtain ⟨cc, us, sn, pn, rk, rv, K, N, V, K', N', V', nm, nl, pd, rfl, rfl, _⟩ := I
  exact ⟨rfl, I0⟩
theorem i_vc_length {k : Nat} {u : SX} {v : SY} (I : i_Rel k u v) (hk : k + 4 ≤ 2049) : wpX_length (fun r => wpY_length (fun r' => r' = r ∧ i_Rel (k + 4) u v) v) u := by
  obtain ⟨b, hX, hY⟩ := ht_length I
  exact hX _ (hY _ ⟨rfl, I⟩)
theorem i_vc_next {k : Nat} {u : SX} {v : SY} (I : i_Rel k u v) (hk : k + 4 ≤ 2049) (v1 : Int32) (v2 : Int32) : wpX_next (fun r u' => wpY_next (fun r' v' => r' = r ∧ i_Rel (k + 4) u' v') v v1 v2) u v1 v2 := by
  obtain ⟨r, x', y', R, hX, hY⟩ := ht_next I v1 v2
  exact hX _ (hY _ ⟨rfl, R⟩)
theorem i_vc_lastKey {k : Nat} {u : SX} {v : SY} (I : i_Rel k u v) (hk : k + 4 ≤ 2049) : wpX_lastKey (fun r => wpY_lastKey (fun r' => r' = r ∧ i_Rel (k + 4) u v) v) u := by
  have I0 := I
  obtain ⟨cc, us, sn, pn, rk, rv, K, N, V, K', N', V', nm, nl, pd, rfl, rfl, _⟩ := I
  exact ⟨rfl, I0⟩
theorem i_vc_lastValue {k : Nat} {u : SX} {v : SY} (I : i_Rel k u v) (hk : k + 4 ≤ 2049) : wpX_lastValue (fun r => wpY_lastValue (fun r' => r' = r ∧ i_Rel (k + 4) u v) v) u := by
  have I0 := I
  obtain ⟨cc, us, sn, pn, rk, rv, K, N, V, K', N', V', nm, nl, pd, rfl, rfl, _⟩ := I
  exact ⟨rfl, I0⟩
theorem i_vc_fill {k : Nat} {u : SX} {v : SY} (I : i_Rel k u v) (hk : k + 4 ≤ 2049) (v1 : Int32) (v2 : Int32) (v3 : Int32) : wpX_fill (fun r u' => wpY_fill (fun r' v' => r' = r ∧ i_Rel (k + 4) u' v') v v1 v2 v3) u v1 v2 v3 := by
  by_cases a : v2 < 0
  · obtain ⟨a1, a2, a3, a4, a5, a6, a7, a8, a9, a10, a11, a12⟩ := u
    obtain ⟨b1, b2, b3, b4, b5, b6, b7, b8, b9, b10, b11, b12⟩ := v
    exact br_t a (br_t a ⟨rfl, I⟩)
  · by_cases b : v2 ≤ 64
    · obtain ⟨n, hn, rfl⟩ := nI_of2 (n := 64) (by decide) a b
      obtain ⟨r, x', y', R, hX, hY⟩ := ht_fill v1 v3 hn n 0 (by omega) u v I
      obtain ⟨a1, a2, a3, a4, a5, a6, a7, a8, a9, a10, a11, a12⟩ := u
      obtain ⟨b1, b2, b3, b4, b5, b6, b7, b8, b9, b10, b11, b12⟩ := v
      exact br_f a (br_t b ⟨_, hX _ (br_f a (br_t b ⟨_, hY _ ⟨rfl, R⟩⟩))⟩)
    · obtain ⟨a1, a2, a3, a4, a5, a6, a7, a8, a9, a10, a11, a12⟩ := u
      obtain ⟨b1, b2, b3, b4, b5, b6, b7, b8, b9, b10, b11, b12⟩ := v
      exact br_f a (br_f b (br_f a (br_f b ⟨rfl, I⟩)))
theorem i_vc_append {k : Nat} {u : SX} {v : SY} (I : i_Rel k u v) (hk : k + 4 ≤ 2049) (v1 : Int32) : wpX_append (fun r u' => wpY_append (fun r' v' => r' = r ∧ i_Rel (k + 4) u' v') v v1) u v1 := by
  by_cases a : v1 = 0
  · obtain ⟨a1, a2, a3, a4, a5, a6, a7, a8, a9, a10, a11, a12⟩ := u
    obtain ⟨b1, b2, b3, b4, b5, b6, b7, b8, b9, b10, b11, b12⟩ := v
    exact br_t a (br_t a ⟨rfl, I⟩)
  · obtain ⟨b, lX, lY⟩ := ht_length I
    obtain ⟨r, x', y', R, hX, hY⟩ := ht_set I 0 (nI b + 1) v1
    obtain ⟨a1, a2, a3, a4, a5, a6, a7, a8, a9, a10, a11, a12⟩ := u
    obtain ⟨b1, b2, b3, b4, b5, b6, b7, b8, b9, b10, b11, b12⟩ := v
    obtain ⟨c1, c2, c3, c4, c5, c6, c7, c8, c9, c10, c11, c12⟩ := x'
    obtain ⟨d1, d2, d3, d4, d5, d6, d7, d8, d9, d10, d11, d12⟩ := y'
    by_cases r0 : r = 0
    · exact br_f a (lX _ (nm_e (hX _ (br_t r0 (br_f a (lY _ (hY _ (br_t r0 ⟨rfl, R⟩))))))))
    · exact br_f a (lX _ (nm_e (hX _ (br_f r0 (br_f a (lY _ (hY _ (br_f r0 ⟨rfl, R⟩))))))))
theorem i_vc_purgeBelow {k : Nat} {u : SX} {v : SY} (I : i_Rel k u v) (hk : k + 4 ≤ 2049) (v1 : Int32) : wpX_purgeBelow (fun r u' => wpY_purgeBelow (fun r' v' => r' = r ∧ i_Rel (k + 4) u' v') v v1) u v1 := by
  obtain ⟨r, x', y', R, hX, hY⟩ := ht_purge I v1
  exact hX _ (hY _ ⟨rfl, R⟩)
theorem i_vc_clear {k : Nat} {u : SX} {v : SY} (I : i_Rel k u v) (hk : k + 4 ≤ 2049) : wpX_clear (fun u' => wpY_clear (fun v' => i_Rel (k + 4) u' v') v) u := by
  obtain ⟨cc, us, sn, pn, rk, rv, K, N, V, K', N', V', nm, nl, pd, rfl, rfl, hc, hu, hs, hp, q1, q2, q3, R⟩ := I
  exact ⟨cc, 0, sn, pn, rk, rv, K, N, V, K', N', V', nm, nl, pd, rfl, rfl, hc, Nat.zero_le _, hs, hp, q1, q2, q3, en_R0 _ _ _ _ _ _⟩
