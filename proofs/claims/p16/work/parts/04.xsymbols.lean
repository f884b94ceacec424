section
variable {cc u sn pn : Nat} {rk rv : Int32} {K N V nm nl pd : Nat → Int32}
/-- the name of s is what is pending -/
def sy_E (nm nl pd : Nat → Int32) (pn s : Nat) : Prop := nl s = nI pn ∧ ∀ i, i < pn → nm (s * 8 + i) = pd i
theorem sy_ext {f : Nat → Prop} {i : Nat} (h : ∀ j, j < i → f j) (c : f i) : ∀ j, j < i + 1 → f j := by
  intro j hj
  by_cases e : j = i
  · subst e; exact c
  · exact h j (by omega)
theorem xy_isName {s : Nat} {post : Int32 → Prop} (hs : s < 16) (hp : pn ≤ 8) (h1 : sy_E nm nl pd pn s → post 1) (h0 : ¬ sy_E nm nl pd pn s → post 0) : wpX_isPendingName post (nI cc, nI u, nI sn, nI pn, rk, rv, K, N, V, nm, nl, pd) (nI s) := by
  unfold wpX_isPendingName
  refine ⟨vp_in_nI hs (by omega), ?_⟩
  rw [nI_clamp (show s < 2 ^ 31 by omega)]
  refine br_c (fun a => ?_) (fun a => h0 (fun z => a z.1))
  have L : ∀ d i, i + d = pn → (∀ j, j < i → nm (s * 8 + j) = pd j) → wX_isPendingName_17 post (nI s) (nI cc) (nI u) (nI sn) (nI pn) rk rv K N V nm nl pd (d + 1) (nI i) := by
    intro d
    induction d with
    | zero =>
      intro i hi h
      have e : i = pn := by omega
      subst e
      exact br_t (nI_le (Nat.le_refl _) (by omega)) (h1 ⟨a, h⟩)
    | succ d ih =>
      intro i hi h
      refine br_f (nI_ge (by omega) (by omega)) ?_
      rw [sy_ix, nI_clamp (show s * 8 + i < 2 ^ 31 by omega), nI_clamp (show i < 2 ^ 31 by omega)]
      refine ⟨vp_in_nI (by omega) (by omega), vp_in_nI (by omega) (by omega), br_c (fun c => nm_r (nI_1 i) (ih (i + 1) (by omega) (sy_ext (f := fun j => nm (s * 8 + j) = pd j) h c))) (fun c => h0 (fun z => c (z.2 i (by omega))))⟩
  exact ⟨_, L pn 0 (by omega) (fun j hj => absurd hj (by omega))⟩
theorem xy_some {s : Nat} {post : Int32 → Prop} (hn : sn ≤ 16) (hp : pn ≤ 8) (hs : s < sn) (E : sy_E nm nl pd pn s) (l : ∀ t, t < s → ¬ sy_E nm nl pd pn t) (H : post (nI s)) : wpX_findPending post (nI cc, nI u, nI sn, nI pn, rk, rv, K, N, V, nm, nl, pd) :=
  pk_loop (σ := Unit) (fun f i _ => wX_findPending_2 post (nI cc) (nI u) (nI sn) (nI pn) rk rv K N V nm nl pd f (nI i)) (fun _ _ => True) s 0 () (Nat.zero_le _) trivial
    (fun f _ _ => pk_le sn s (fun z => absurd z (by omega)) (fun _ => xy_isName (by omega) hp (fun _ => br_f (by decide) H) (fun z => absurd E z)))
    (fun f i _ hi _ hw => pk_le sn i (fun z => absurd z (by omega)) (fun _ => xy_isName (by omega) hp (fun z => absurd z (l i hi)) (fun _ => br_t rfl (nm_r (nI_1 i) (hw () trivial)))))
theorem xy_none {post : Int32 → Prop} (hn : sn ≤ 16) (hp : pn ≤ 8) (l : ∀ t, t < sn → ¬ sy_E nm nl pd pn t) (H : post (-1)) : wpX_findPending post (nI cc, nI u, nI sn, nI pn, rk, rv, K, N, V, nm, nl, pd) :=
  pk_loop (σ := Unit) (fun f i _ => wX_findPending_2 post (nI cc) (nI u) (nI sn) (nI pn) rk rv K N V nm nl pd f (nI i)) (fun _ _ => True) sn 0 () (Nat.zero_le _) trivial
    (fun f _ _ => pk_le sn sn (fun _ => H) (fun z => absurd z (by omega)))
    (fun f i _ hi _ hw => pk_le sn i (fun z => absurd z (by omega)) (fun _ => xy_isName (by omega) hp (fun z => absurd z (l i hi)) (fun _ => br_t rfl (nm_r (nI_1 i) (hw () trivial)))))
/-- the names with n characters of what is pending copied to b -/
def sy_cp (nm pd : Nat → Int32) (b : Nat) : Nat → (Nat → Int32)
  | 0 => nm
  | n + 1 => upd (sy_cp nm pd b n) (b + n) (vp_nar .char (pd n))
theorem xy_add {post : Int32 → St2 → Prop} (hn : sn < 16) (hp : pn ≤ 8) (H : post (nI sn) (nI cc, nI u, nI (sn + 1), nI pn, rk, rv, K, N, V, sy_cp nm pd (sn * 8) pn, upd nl sn (nI pn), pd)) : wpX_addPending post (nI cc, nI u, nI sn, nI pn, rk, rv, K, N, V, nm, nl, pd) := by
  have L : ∀ d i, i + d = pn → wX_addPending_7 post (nI sn) (nI cc) (nI u) (nI sn) (nI pn) rk rv (d + 1) (nI i) K N V (sy_cp nm pd (sn * 8) i) nl pd := by
    intro d
    induction d with
    | zero =>
      intro i hi
      have e : i = pn := by omega
      subst e
      exact br_t (nI_le (Nat.le_refl _) (by omega)) ⟨vp_in_nI hn (by omega), nm_r (by rw [nI_clamp (by omega)]) (nm_r (nI_1 sn) H)⟩
    | succ d ih =>
      intro i hi
      refine br_f (nI_ge (by omega) (by omega)) ?_
      rw [sy_ix, nI_clamp (show sn * 8 + i < 2 ^ 31 by omega), nI_clamp (show i < 2 ^ 31 by omega)]
      exact ⟨vp_in_nI (by omega) (by omega), vp_in_nI (by omega) (by omega), nm_e (nm_r (nI_1 i) (ih (i + 1) (by omega)))⟩
  exact ⟨_, L pn 0 (by omega)⟩
theorem en_least (P : Nat → Prop) : ∀ m, P m → ∃ k, k ≤ m ∧ P k ∧ ∀ j, j < k → ¬ P j := by
  intro m
  induction m using Nat.strongRecOn with
  | _ m ih =>
    intro h
    by_cases c : ∃ j, j < m ∧ P j
    · obtain ⟨j, hj, pj⟩ := c
      obtain ⟨k, hk, a, b⟩ := ih j hj pj
      exact ⟨k, by omega, a, b⟩
    · exact ⟨m, Nat.le_refl _, h, fun j hj pj => c ⟨j, hj, pj⟩⟩
end
