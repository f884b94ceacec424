section
variable {cc L : Nat} {xs : Nat → Int32}
theorem fl_cell {i : Nat} {p1 : Int32} {post : Int32 → Prop} (hp : p1 = nI i) (hi : i < 1000) (hL : L ≤ 260) (H : ∀ r, post r) : wpL_cell post L xs () p1 := by
  subst hp
  unfold wpL_cell
  exact pk_le L i (fun _ => H _) (fun z => ⟨vp_in_nI z (by omega), H _⟩)
theorem fl_u {i : Nat} {p1 : Int32} {post : Int32 → Prop} (hp : p1 = nI i) (hi : i < 1000) (hL : L ≤ 260) (H : ∀ a, a < 2 ^ 31 → post (nI a)) : wpL_u post L xs () p1 := by
  unfold wpL_u
  refine fl_cell hp hi hL (fun r => ?_)
  obtain ⟨a, ha, e⟩ := pk_andE r (m := 2147483647) 31 rfl
  rw [e]
  exact H a ha
theorem fl_val {i : Nat} {p1 : Int32} {post : Int32 → Prop} (hp : p1 = nI i) (hi : i < 1000) (hL : L ≤ 260) (H : ∀ r, post r) : wpL_val post L xs () p1 := by
  unfold wpL_val
  exact fl_u hp hi hL (fun a _ => ⟨by decide, H _⟩)
theorem fl_388 {x : St2} {st kc ks : Nat} {x4 : Int32} {post : Int32 → Prop} {Jc : Int32 → Int32 → Int32 → Int32 → Int32 → Int32 → Int32 → Int32 → (Nat → Int32) → (Nat → Int32) → (Nat → Int32) → (Nat → Int32) → (Nat → Int32) → (Nat → Int32) → Prop} (J : fr_J cc x) (H : ∀ x' : St2, fr_J cc x' → Jc x4 (nI (st + 1)) x'.1 x'.2.1 x'.2.2.1 x'.2.2.2.1 x'.2.2.2.2.1 x'.2.2.2.2.2.1 x'.2.2.2.2.2.2.1 x'.2.2.2.2.2.2.2.1 x'.2.2.2.2.2.2.2.2.1 x'.2.2.2.2.2.2.2.2.2.1 x'.2.2.2.2.2.2.2.2.2.2.1 x'.2.2.2.2.2.2.2.2.2.2.2) : wL_law_388 post L xs Jc (nI cc) x4 (nI st) kc ks x.1 x.2.1 x.2.2.1 x.2.2.2.1 x.2.2.2.2.1 x.2.2.2.2.2.1 x.2.2.2.2.2.2.1 x.2.2.2.2.2.2.2.1 x.2.2.2.2.2.2.2.2.1 x.2.2.2.2.2.2.2.2.2.1 x.2.2.2.2.2.2.2.2.2.2.1 x.2.2.2.2.2.2.2.2.2.2.2 := by
  obtain ⟨a1, a2, a3, a4, a5, a6, a7, a8, a9, a10, a11, a12⟩ := x
  unfold wL_law_388
  refine fr_border J (br_f (by decide) (fr_iterate J ?_))
  rintro ⟨b1, b2, b3, b4, b5, b6, b7, b8, b9, b10, b11, b12⟩ J'
  exact br_f (by decide) (nm_r (nI_1 st) (H (b1, b2, b3, b4, b5, b6, b7, b8, b9, b10, b11, b12) J'))
theorem fl_190 {st kc ks pp n : Nat} {post : Int32 → Prop} {Jc : Int32 → Int32 → Int32 → Int32 → Int32 → Int32 → Int32 → Int32 → (Nat → Int32) → (Nat → Int32) → (Nat → Int32) → (Nat → Int32) → (Nat → Int32) → (Nat → Int32) → Prop} (hL : L ≤ 260) (hpp : pp < 500) (hn : n < 10) (H : ∀ x' : St2, fr_J cc x' → wL_law_388 post L xs Jc (nI cc) (nI (pp + 5)) (nI st) kc ks x'.1 x'.2.1 x'.2.2.1 x'.2.2.2.1 x'.2.2.2.2.1 x'.2.2.2.2.2.1 x'.2.2.2.2.2.2.1 x'.2.2.2.2.2.2.2.1 x'.2.2.2.2.2.2.2.2.1 x'.2.2.2.2.2.2.2.2.2.1 x'.2.2.2.2.2.2.2.2.2.2.1 x'.2.2.2.2.2.2.2.2.2.2.2) : ∀ d i, i + d = n → ∀ x : St2, fr_J cc x → wL_law_190 post L xs Jc (nI cc) (nI pp) (nI st) (nI n) kc ks (d + 1) (nI i) x.1 x.2.1 x.2.2.1 x.2.2.2.1 x.2.2.2.2.1 x.2.2.2.2.2.1 x.2.2.2.2.2.2.1 x.2.2.2.2.2.2.2.1 x.2.2.2.2.2.2.2.2.1 x.2.2.2.2.2.2.2.2.2.1 x.2.2.2.2.2.2.2.2.2.2.1 x.2.2.2.2.2.2.2.2.2.2.2 := by
  intro d
  induction d with
  | zero =>
    intro i hi x J
    obtain ⟨a1, a2, a3, a4, a5, a6, a7, a8, a9, a10, a11, a12⟩ := x
    refine br_t (nI_le (by omega) (by omega)) (fr_end J ?_)
    rintro r ⟨b1, b2, b3, b4, b5, b6, b7, b8, b9, b10, b11, b12⟩ J'
    exact nm_r (nI_add pp 5) (H (b1, b2, b3, b4, b5, b6, b7, b8, b9, b10, b11, b12) J')
  | succ d ih =>
    intro i hi x J
    obtain ⟨a1, a2, a3, a4, a5, a6, a7, a8, a9, a10, a11, a12⟩ := x
    refine br_f (nI_ge (by omega) (by omega)) (fl_u (i := pp + 2 + i) ?_ (by omega) hL (fun a _ => ⟨by decide, fr_char J ?_⟩))
    · rw [show nI pp + 2 = nI (pp + 2) from nI_add pp 2, nI_add]
    · rintro r ⟨b1, b2, b3, b4, b5, b6, b7, b8, b9, b10, b11, b12⟩ J'
      exact nm_r (nI_1 i) (ih (i + 1) (by omega) (b1, b2, b3, b4, b5, b6, b7, b8, b9, b10, b11, b12) J')
theorem fl_rem {a : Nat} (ha : a < 2 ^ 31) (m : Nat) (h0 : 0 < m) (hm : m < 1000) : nI a - nI a / nI m * nI m = nI (a % m) := pk_rem ha h0 (by omega)
theorem fl_65 {kc ks : Nat} {post : Int32 → Prop} (hL : L ≤ 260) (H : post 1) : ∀ (d st pp : Nat), st + d = 48 → pp ≤ 1 + 5 * st → ∀ x : St2, fr_J cc x → wL_law_65 post L xs (nI cc) kc ks (d + 1) (nI pp) (nI st) x.1 x.2.1 x.2.2.1 x.2.2.2.1 x.2.2.2.2.1 x.2.2.2.2.2.1 x.2.2.2.2.2.2.1 x.2.2.2.2.2.2.2.1 x.2.2.2.2.2.2.2.2.1 x.2.2.2.2.2.2.2.2.2.1 x.2.2.2.2.2.2.2.2.2.2.1 x.2.2.2.2.2.2.2.2.2.2.2 := by
  intro d
  induction d with
  | zero =>
    intro st pp hst hpp x J
    exact br_t (nI_le (a := 48) (by omega) (by omega)) H
  | succ d ih =>
    intro st pp hst hpp x J
    have C : ∀ pp', pp' ≤ 1 + 5 * (st + 1) → ∀ x' : St2, fr_J cc x' → wL_law_388 post L xs (wL_law_65 post L xs (nI cc) kc ks (d + 1)) (nI cc) (nI pp') (nI st) kc ks x'.1 x'.2.1 x'.2.2.1 x'.2.2.2.1 x'.2.2.2.2.1 x'.2.2.2.2.2.1 x'.2.2.2.2.2.2.1 x'.2.2.2.2.2.2.2.1 x'.2.2.2.2.2.2.2.2.1 x'.2.2.2.2.2.2.2.2.2.1 x'.2.2.2.2.2.2.2.2.2.2.1 x'.2.2.2.2.2.2.2.2.2.2.2 :=
      fun pp' h x' J' => fl_388 J' (fun x'' J'' => ih (st + 1) pp' (by omega) h x'' J'')
    obtain ⟨a1, a2, a3, a4, a5, a6, a7, a8, a9, a10, a11, a12⟩ := x
    have p1 : nI pp + 1 = nI (pp + 1) := nI_1 pp
    have p2 : nI pp + 2 = nI (pp + 2) := nI_add pp 2
    have p3 : nI pp + 3 = nI (pp + 3) := nI_add pp 3
    have p4 : nI pp + 4 = nI (pp + 4) := nI_add pp 4
    have C361 : ∀ x' : St2, fr_J cc x' → wL_law_361 post L xs (wL_law_65 post L xs (nI cc) kc ks (d + 1)) (nI cc) (nI pp) (nI st) kc ks x'.1 x'.2.1 x'.2.2.1 x'.2.2.2.1 x'.2.2.2.2.1 x'.2.2.2.2.2.1 x'.2.2.2.2.2.2.1 x'.2.2.2.2.2.2.2.1 x'.2.2.2.2.2.2.2.2.1 x'.2.2.2.2.2.2.2.2.2.1 x'.2.2.2.2.2.2.2.2.2.2.1 x'.2.2.2.2.2.2.2.2.2.2.2 :=
      fun x' J' => nm_r p2 (C (pp + 2) (by omega) x' J')
    refine br_f (nI_ge (b := 48) (by omega) (by omega)) (br_c (fun _ => H) (fun _ => ?_))
    refine fl_u (i := pp) rfl (by omega) hL (fun a ha => ⟨by decide, fun x6 _ => ?_⟩)
    refine br_c (fun _ => br_c (fun _ => ?_) (fun _ => br_c (fun _ => ?_) (fun _ => br_c (fun _ => ?_) (fun _ => br_c (fun _ => ?_) (fun _ => br_c (fun _ => ?_) (fun _ => br_c (fun _ => ?_) (fun _ => ?_))))))) (fun _ => ?_)
    · refine fl_u p1 (by omega) hL (fun b hb => ⟨by decide, fl_val p2 (by omega) hL (fun v => fr_set J (Or.inl rfl) ?_)⟩)
      rintro r ⟨b1, b2, b3, b4, b5, b6, b7, b8, b9, b10, b11, b12⟩ J'
      exact nm_r p3 (C (pp + 3) (by omega) (b1, b2, b3, b4, b5, b6, b7, b8, b9, b10, b11, b12) J')
    · refine fl_u p1 (by omega) hL (fun b hb => ⟨by decide, nm_r (e' := nI (1 + b % 3)) ?_ ⟨_, fl_190 hL (by omega) (by omega) (C (pp + 5) (by omega)) (1 + b % 3) 0 (by omega) (a1, a2, a3, a4, a5, a6, a7, a8, a9, a10, a11, a12) J⟩⟩)
      rw [show nI b - nI b / 3 * 3 = nI (b % 3) from fl_rem hb 3 (by omega) (by omega)]
      exact nI_add 1 (b % 3)
    · refine fl_u p1 (by omega) hL (fun b hb => ⟨by decide, fl_u p2 (by omega) hL (fun c hc => ⟨by decide, fl_val p3 (by omega) hL (fun v => ?_)⟩)⟩)
      rw [show nI b - nI b / 48 * 48 = nI (b % 48) from fl_rem hb 48 (by omega) (by omega), show nI c - nI c / 9 * 9 = nI (c % 9) from fl_rem hc 9 (by omega) (by omega)]
      refine fr_fill J (by omega) (by omega) ?_
      rintro r ⟨b1, b2, b3, b4, b5, b6, b7, b8, b9, b10, b11, b12⟩ J'
      exact nm_r p4 (C (pp + 4) (by omega) (b1, b2, b3, b4, b5, b6, b7, b8, b9, b10, b11, b12) J')
    · refine fl_val p1 (by omega) hL (fun v => fr_append J ?_)
      rintro r ⟨b1, b2, b3, b4, b5, b6, b7, b8, b9, b10, b11, b12⟩ J'
      exact nm_r p2 (C (pp + 2) (by omega) (b1, b2, b3, b4, b5, b6, b7, b8, b9, b10, b11, b12) J')
    · refine fl_val p1 (by omega) hL (fun v => fr_purge J ?_)
      rintro r ⟨b1, b2, b3, b4, b5, b6, b7, b8, b9, b10, b11, b12⟩ J'
      exact nm_r p2 (C (pp + 2) (by omega) (b1, b2, b3, b4, b5, b6, b7, b8, b9, b10, b11, b12) J')
    · refine fl_u p1 (by omega) hL (fun b hb => ⟨by decide, br_c (fun _ => fr_clear J ?_) (fun _ => C361 (a1, a2, a3, a4, a5, a6, a7, a8, a9, a10, a11, a12) J)⟩)
      rintro ⟨b1, b2, b3, b4, b5, b6, b7, b8, b9, b10, b11, b12⟩ J'
      exact C361 (b1, b2, b3, b4, b5, b6, b7, b8, b9, b10, b11, b12) J'
    · refine fl_cell p1 (by omega) hL (fun v => fr_iterate J ?_)
      rintro ⟨b1, b2, b3, b4, b5, b6, b7, b8, b9, b10, b11, b12⟩ J'
      exact br_f (by decide) (nm_r p2 (C (pp + 2) (by omega) (b1, b2, b3, b4, b5, b6, b7, b8, b9, b10, b11, b12) J'))
    · refine fl_u p1 (by omega) hL (fun b hb => ⟨by decide, fl_val p2 (by omega) hL (fun v => fr_set J (Or.inr ⟨rfl, ?_, ?_⟩) ?_)⟩)
      · rw [show nI b - nI b / 59 * 59 = nI (b % 59) from fl_rem hb 59 (by omega) (by omega), fr_8 (by omega)]
        omega
      · rw [show nI b - nI b / 59 * 59 = nI (b % 59) from fl_rem hb 59 (by omega) (by omega), fr_8 (by omega)]
        omega
      · rintro r ⟨b1, b2, b3, b4, b5, b6, b7, b8, b9, b10, b11, b12⟩ J'
        exact nm_r p3 (C (pp + 3) (by omega) (b1, b2, b3, b4, b5, b6, b7, b8, b9, b10, b11, b12) J')
/-- from a fresh table with the cap that the law reckons -/
theorem fl_30 {x1 : Int32} {c : Nat} {post : Int32 → Prop} (hL : L ≤ 260) (hc : c ≤ 32) (hx : (4 ≤ x1 ∧ x1 ≤ 32 ∧ x1 = nI c) ∨ (4 ≤ x1 ∧ ¬ x1 ≤ 32 ∧ c = 32) ∨ (¬ 4 ≤ x1 ∧ c = 4)) (H : post 1) : wL_law_30 post L xs x1 (nI c) 0 0 := by
  have J0 : fr_J c (nI c, 0, 0, 0, 0, 0, (fun _ => 0), (fun _ => 0), (fun _ => 0), (fun _ => 0), (fun _ => 0), (fun _ => 0)) :=
    fr_mk (cc := c) (u := 0) (sn := 0) (pn := 0) ⟨Nat.zero_le _, hc, by omega, by omega, en_S0 _ _, fun i h => absurd h (by omega)⟩
  unfold wL_law_30
  refine ⟨by omega, by omega, 6, 248, by omega, by omega, ?_⟩
  unfold wpX_init
  refine ⟨by omega, by omega, by omega, by omega, by omega, by omega, by omega, by omega, by omega, by omega, by omega, by omega, ?_⟩
  rcases hx with ⟨a, b, e⟩ | ⟨a, b, e⟩ | ⟨a, e⟩
  · subst e
    refine br_t a (br_t b (fr_border J0 (br_f (by decide) (fr_iterate J0 ?_))))
    rintro ⟨b1, b2, b3, b4, b5, b6, b7, b8, b9, b10, b11, b12⟩ J'
    exact br_f (by decide) ⟨_, fl_65 hL H 48 0 1 (by omega) (by omega) (b1, b2, b3, b4, b5, b6, b7, b8, b9, b10, b11, b12) J'⟩
  · subst e
    refine br_t a (br_f b (fr_border J0 (br_f (by decide) (fr_iterate J0 ?_))))
    rintro ⟨b1, b2, b3, b4, b5, b6, b7, b8, b9, b10, b11, b12⟩ J'
    exact br_f (by decide) ⟨_, fl_65 hL H 48 0 1 (by omega) (by omega) (b1, b2, b3, b4, b5, b6, b7, b8, b9, b10, b11, b12) J'⟩
  · subst e
    refine br_f a (fr_border J0 (br_f (by decide) (fr_iterate J0 ?_)))
    rintro ⟨b1, b2, b3, b4, b5, b6, b7, b8, b9, b10, b11, b12⟩ J'
    exact br_f (by decide) ⟨_, fl_65 hL H 48 0 1 (by omega) (by omega) (b1, b2, b3, b4, b5, b6, b7, b8, b9, b10, b11, b12) J'⟩
end
