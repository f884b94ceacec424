section
variable {cc u sn pn : Nat} {rk rv : Int32} {K N V nm nl pd : Nat → Int32}
theorem yy_0 {s : Nat} {post : Int32 → SY → Prop} {J : Int32 → Prop} (hs : s < 16) (hp : pn ≤ 8) (H : J (nI (s + 1))) : ∀ d i, i + d = pn → wY_symbolEnd_36 post J (nI s) (nI cc) (nI u) (nI sn) (nI pn) rk rv K N V nm nl pd (d + 1) 0 (nI i) := by
  intro d
  induction d with
  | zero =>
    intro i hi
    have e : i = pn := by omega
    subst e
    exact br_t (nI_le (Nat.le_refl _) (by omega)) (br_t rfl (nm_r (nI_1 s) H))
  | succ d ih =>
    intro i hi
    refine br_f (nI_ge (by omega) (by omega)) ?_
    rw [sy_ix, nI_clamp (show s * 8 + i < 2 ^ 31 by omega), nI_clamp (show i < 2 ^ 31 by omega)]
    exact ⟨vp_in_nI (by omega) (by omega), vp_in_nI (by omega) (by omega), br_c (fun _ => nm_r (nI_1 i) (ih (i + 1) (by omega))) (fun _ => nm_r (nI_1 i) (ih (i + 1) (by omega)))⟩
theorem yy_1 {s : Nat} {post : Int32 → SY → Prop} {J : Int32 → Prop} (hs : s < 16) (hp : pn ≤ 8) (h1 : (∀ i, i < pn → nm (s * 8 + i) = pd i) → post (nI s) (nI cc, nI u, nI sn, 0, rk, rv, K, N, V, nm, nl, pd)) (h0 : ¬ (∀ i, i < pn → nm (s * 8 + i) = pd i) → J (nI (s + 1))) : ∀ d i, i + d = pn → (∀ j, j < i → nm (s * 8 + j) = pd j) → wY_symbolEnd_36 post J (nI s) (nI cc) (nI u) (nI sn) (nI pn) rk rv K N V nm nl pd (d + 1) 1 (nI i) := by
  intro d
  induction d with
  | zero =>
    intro i hi h
    have e : i = pn := by omega
    subst e
    exact br_t (nI_le (Nat.le_refl _) (by omega)) (br_f (by decide) (h1 h))
  | succ d ih =>
    intro i hi h
    refine br_f (nI_ge (by omega) (by omega)) ?_
    rw [sy_ix, nI_clamp (show s * 8 + i < 2 ^ 31 by omega), nI_clamp (show i < 2 ^ 31 by omega)]
    exact ⟨vp_in_nI (by omega) (by omega), vp_in_nI (by omega) (by omega), br_c (fun c => nm_r (nI_1 i) (ih (i + 1) (by omega) (sy_ext (f := fun j => nm (s * 8 + j) = pd j) h c))) (fun c => nm_r (nI_1 i) (yy_0 hs hp (h0 (fun z => c (z i (by omega)))) d (i + 1) (by omega)))⟩
/-- one name held against what is pending -/
theorem yy_s {s f : Nat} {post : Int32 → SY → Prop} (hn : sn ≤ 16) (hs : s < sn) (hp : pn ≤ 8) (h1 : sy_E nm nl pd pn s → post (nI s) (nI cc, nI u, nI sn, 0, rk, rv, K, N, V, nm, nl, pd)) (h0 : ¬ sy_E nm nl pd pn s → wY_symbolEnd_11 post (nI cc) (nI u) (nI sn) (nI pn) rk rv K N V nm nl pd f (nI (s + 1))) : wY_symbolEnd_11 post (nI cc) (nI u) (nI sn) (nI pn) rk rv K N V nm nl pd (f + 1) (nI s) := by
  refine br_f (nI_ge hs (by omega)) ⟨vp_in_nI (by omega) (by omega), ?_⟩
  rw [nI_clamp (show s < 2 ^ 31 by omega)]
  refine br_c (fun a => ⟨pn + 1, ?_⟩) (fun a => nm_r (nI_1 s) (h0 (fun z => a z.1)))
  exact yy_1 (by omega) hp (fun z => h1 ⟨a, z⟩) (fun z => h0 (fun q => z q.2)) pn 0 (by omega) (fun j hj => absurd hj (by omega))
theorem yy_some {s : Nat} {post : Int32 → SY → Prop} (hn : sn ≤ 16) (hp : pn ≤ 8) (p0 : ¬ pn = 0) (hs : s < sn) (E : sy_E nm nl pd pn s) (l : ∀ t, t < s → ¬ sy_E nm nl pd pn t) (H : post (nI s) (nI cc, nI u, nI sn, 0, rk, rv, K, N, V, nm, nl, pd)) : wpY_symbolEnd post (nI cc, nI u, nI sn, nI pn, rk, rv, K, N, V, nm, nl, pd) := by
  unfold wpY_symbolEnd
  refine br_f (nI_ne0 (by omega) (by omega)) ?_
  exact pk_loop (σ := Unit) (fun f i _ => wY_symbolEnd_11 post (nI cc) (nI u) (nI sn) (nI pn) rk rv K N V nm nl pd f (nI i)) (fun _ _ => True) s 0 () (Nat.zero_le _) trivial
    (fun f _ _ => yy_s hn hs hp (fun _ => H) (fun z => absurd E z))
    (fun f i _ hi _ hw => yy_s hn (by omega) hp (fun z => absurd z (l i hi)) (fun _ => hw () trivial))
theorem yy_end {post : Int32 → SY → Prop} (hn : sn ≤ 16) (hp : pn ≤ 8) (p0 : ¬ pn = 0) (l : ∀ t, t < sn → ¬ sy_E nm nl pd pn t) (H : (nI sn < 16 → ∃ f, wY_symbolEnd_112 post (nI sn) (nI cc) (nI u) (nI sn) (nI pn) rk rv f 0 K N V nm nl pd) ∧ (¬ nI sn < 16 → post (-1) (nI cc, nI u, nI sn, 0, rk, rv, K, N, V, nm, nl, pd))) : wpY_symbolEnd post (nI cc, nI u, nI sn, nI pn, rk, rv, K, N, V, nm, nl, pd) := by
  unfold wpY_symbolEnd
  refine br_f (nI_ne0 (by omega) (by omega)) ?_
  exact pk_loop (σ := Unit) (fun f i _ => wY_symbolEnd_11 post (nI cc) (nI u) (nI sn) (nI pn) rk rv K N V nm nl pd f (nI i)) (fun _ _ => True) sn 0 () (Nat.zero_le _) trivial
    (fun f _ _ => br_t (nI_le (Nat.le_refl _) (by omega)) H)
    (fun f i _ hi _ hw => yy_s hn (by omega) hp (fun z => absurd z (l i hi)) (fun _ => hw () trivial))
theorem yy_full {post : Int32 → SY → Prop} (hn : sn = 16) (hp : pn ≤ 8) (p0 : ¬ pn = 0) (l : ∀ t, t < sn → ¬ sy_E nm nl pd pn t) (H : post (-1) (nI cc, nI u, nI sn, 0, rk, rv, K, N, V, nm, nl, pd)) : wpY_symbolEnd post (nI cc, nI u, nI sn, nI pn, rk, rv, K, N, V, nm, nl, pd) :=
  yy_end (by omega) hp p0 l (br_f (nI_nlt (b := 16) (by omega) (by omega)) H)
theorem yy_add {post : Int32 → SY → Prop} (hn : sn < 16) (hp : pn ≤ 8) (p0 : ¬ pn = 0) (l : ∀ t, t < sn → ¬ sy_E nm nl pd pn t) (H : post (nI sn) (nI cc, nI u, nI (sn + 1), 0, rk, rv, K, N, V, sy_cp nm pd (sn * 8) pn, upd nl sn (nI pn), pd)) : wpY_symbolEnd post (nI cc, nI u, nI sn, nI pn, rk, rv, K, N, V, nm, nl, pd) := by
  have L : ∀ d i, i + d = pn → wY_symbolEnd_112 post (nI sn) (nI cc) (nI u) (nI sn) (nI pn) rk rv (d + 1) (nI i) K N V (sy_cp nm pd (sn * 8) i) nl pd := by
    intro d
    induction d with
    | zero =>
      intro i hi
      have e : i = pn := by omega
      subst e
      exact br_t (nI_le (Nat.le_refl _) (by omega)) ⟨vp_in_nI hn (by omega), nm_r (by rw [nI_clamp (by omega)]) (nm_r (nI_1 sn) H)⟩
    | succ d ih =>
      intro i hi
      refine br_f (nI_ge (by omega) (by omega)) ?_
      rw [sy_ix, nI_clamp (show sn * 8 + i < 2 ^ 31 by omega), nI_clamp (show i < 2 ^ 31 by omega)]
      exact ⟨vp_in_nI (by omega) (by omega), vp_in_nI (by omega) (by omega), nm_e (nm_r (nI_1 i) (ih (i + 1) (by omega)))⟩
  exact yy_end (by omega) hp p0 l (br_t (nI_lt (b := 16) hn (by omega)) ⟨_, L pn 0 (by omega)⟩)
theorem yy_len {n : Int32} {post : Int32 → Prop} (hs : sn ≤ 16) (h1 : n = -1 → post (nI pn)) (h2 : ∀ j, j < sn → n = nI j → post (nl j)) (h3 : ¬ n = -1 → ¬ (∃ j, j < sn ∧ n = nI j) → post (-1)) : wpY_symbolLength post (nI cc, nI u, nI sn, nI pn, rk, rv, K, N, V, nm, nl, pd) n := by
  unfold wpY_symbolLength
  refine br_c h1 (fun a => br_c (fun c => h3 a ?_) (fun c => ?_))
  · rintro ⟨j, hj, rfl⟩
    exact absurd c (nI_pos (by omega))
  · obtain ⟨j, hj, rfl⟩ := nI_of c
    refine pk_le sn j (fun z => h3 a ?_) (fun z => ⟨vp_in_nI (by omega) (by omega), ?_⟩)
    · rintro ⟨i, hi, e⟩
      have := (nI_eq hj (by omega)).mp e
      omega
    · rw [nI_clamp hj]
      exact h2 j z rfl
end
