/-- the border of the first p entries is b -/
def en_B (K N : Nat → Int32) (p b : Nat) : Prop := b ≤ p ∧ (∀ m, m < b → ∃ i, i < p ∧ K i = 0 ∧ N i = nI (m + 1)) ∧ (∀ i, i < p → ¬ (K i = 0 ∧ N i = nI (b + 1)))
theorem en_B0 (K N : Nat → Int32) : en_B K N 0 0 := ⟨Nat.le_refl _, fun _ h => absurd h (Nat.not_lt_zero _), fun _ h => absurd h (Nat.not_lt_zero _)⟩
theorem en_Bk {K N : Nat → Int32} {u p b : Nat} (hs : en_S K N u) (hp : p < u) (hu : u ≤ 32) (h : en_B K N p b) (e1 : K p = 0) (e2 : N p = nI (b + 1)) : en_B K N (p + 1) (b + 1) := by
  obtain ⟨h1, h2, h3⟩ := h
  refine ⟨by omega, fun m hm => ?_, ?_⟩
  · by_cases c : m = b
    · subst c; exact ⟨p, by omega, e1, e2⟩
    · obtain ⟨i, hi, a⟩ := h2 m (by omega)
      exact ⟨i, by omega, a⟩
  · rintro i hi ⟨a, c⟩
    by_cases z : i = p
    · subst z
      have := (nI_eq (by omega) (by omega)).mp (e2.symm.trans c)
      omega
    · have l := hs i p (by omega) hp
      rw [a, c, e1, e2, en_ltE, nI_ltI (by omega) (by omega)] at l
      omega
theorem en_Bd {K N : Nat → Int32} {p b : Nat} (h : en_B K N p b) (e : ¬ (K p = 0 ∧ N p = nI (b + 1))) : en_B K N (p + 1) b := by
  obtain ⟨h1, h2, h3⟩ := h
  refine ⟨by omega, fun m hm => ?_, ?_⟩
  · obtain ⟨i, hi, a⟩ := h2 m hm
    exact ⟨i, by omega, a⟩
  · intro i hi
    by_cases z : i = p
    · subst z; exact e
    · exact h3 i (by omega)
theorem en_By {u b : Nat} {K N V K' N' V' : Nat → Int32} (h : en_R u K N V K' N' V') (B : en_B K N u b) : (∀ m, m < b → ∃ i, i < u ∧ K' i = 0 ∧ N' i = nI (m + 1)) ∧ (∀ i, i < u → ¬ (K' i = 0 ∧ N' i = nI (b + 1))) := by
  refine ⟨fun m hm => ?_, ?_⟩
  · obtain ⟨i, hi, a, c⟩ := B.2.1 m hm
    obtain ⟨j, hj, e1, e2, _⟩ := en_Rx h hi
    exact ⟨j, hj, e1.trans a, e2.trans c⟩
  · rintro j hj ⟨a, c⟩
    obtain ⟨i, hi, e1, e2, _⟩ := en_Ry h hj
    exact B.2.2 i hi ⟨e1.trans a, e2.trans c⟩

/-- p is the place of the key (k, n) -/
def en_Pl (K N : Nat → Int32) (u : Nat) (k n : Int32) (p : Nat) : Prop := p ≤ u ∧ (∀ i, i < p → en_k (K i) (N i) < en_k k n) ∧ (∀ i, p ≤ i → i < u → en_k k n ≤ en_k (K i) (N i))
theorem en_PlI {K N : Nat → Int32} {u p : Nat} {k n : Int32} (hs : en_S K N u) (hp : p ≤ u) (lo : ∀ i, i < p → en_k (K i) (N i) < en_k k n) (hi : p < u → ¬ en_k (K p) (N p) < en_k k n) : en_Pl K N u k n p := by
  refine ⟨hp, lo, fun i a b => ?_⟩
  have h1 := hi (by omega)
  have h2 := en_Sle hs b a
  omega
/-- the key stands at its place -/
def en_At (K N : Nat → Int32) (u : Nat) (k n : Int32) (p : Nat) : Prop := p < u ∧ K p = k ∧ N p = n
theorem en_Nat {K N : Nat → Int32} {u p : Nat} {k n : Int32} (h : en_Pl K N u k n p) (z : ¬ en_At K N u k n p) (hs : en_S K N u) : ∀ i, p ≤ i → i < u → en_k k n < en_k (K i) (N i) := by
  intro i a b
  have h1 := h.2.2 i a b
  by_cases e : en_k k n = en_k (K i) (N i)
  · have h2 := h.2.2 p (Nat.le_refl _) (by omega)
    have h3 := en_Sle hs b a
    have e2 : en_k (K p) (N p) = en_k k n := by omega
    obtain ⟨x, y⟩ := en_inj e2
    exact absurd ⟨by omega, x, y⟩ z
  · omega
theorem en_NatX {K N : Nat → Int32} {u p : Nat} {k n : Int32} (h : en_Pl K N u k n p) (z : ¬ en_At K N u k n p) (hs : en_S K N u) : ∀ i, i < u → ¬ (K i = k ∧ N i = n) := by
  rintro i hi ⟨a, b⟩
  by_cases c : i < p
  · have := h.2.1 i c
    rw [a, b] at this
    omega
  · have := en_Nat h z hs i (by omega) hi
    rw [a, b] at this
    omega
theorem en_AtX {K N : Nat → Int32} {u p : Nat} {k n : Int32} (h : en_At K N u k n p) (hs : en_S K N u) : (∀ i, i < p + 1 → ¬ en_k k n < en_k (K i) (N i)) ∧ (∀ i, p + 1 ≤ i → i < u → en_k k n < en_k (K i) (N i)) := by
  obtain ⟨h1, rfl, rfl⟩ := h
  refine ⟨fun i hi => ?_, fun i a b => hs p i (by omega) b⟩
  have := en_Sle hs h1 (show i ≤ p by omega)
  omega
theorem en_NatL {K N : Nat → Int32} {u p : Nat} {k n : Int32} (h : en_Pl K N u k n p) : ∀ i, i < p → ¬ en_k k n < en_k (K i) (N i) := by
  intro i hi
  have := h.2.1 i hi
  omega
/-- what the search for the least key with Z has found among the first i -/
def en_M (Z : Int → Prop) (K N : Nat → Int32) (i : Nat) (r : Int32) : Prop := (r = -1 ∧ ∀ j, j < i → ¬ Z (en_k (K j) (N j))) ∨ ∃ b, b < i ∧ r = nI b ∧ Z (en_k (K b) (N b)) ∧ ∀ j, j < i → Z (en_k (K j) (N j)) → en_k (K b) (N b) ≤ en_k (K j) (N j)
theorem en_M0 (Z : Int → Prop) (K N : Nat → Int32) : en_M Z K N 0 (-1) := Or.inl ⟨rfl, fun _ h => absurd h (Nat.not_lt_zero _)⟩
theorem en_Mn {Z : Int → Prop} {K N : Nat → Int32} {i : Nat} {r : Int32} (h : en_M Z K N i r) (c : ¬ Z (en_k (K i) (N i))) : en_M Z K N (i + 1) r := by
  rcases h with ⟨e, h⟩ | ⟨b, hb, e, z, h⟩
  · refine Or.inl ⟨e, fun j hj => ?_⟩
    by_cases q : j = i
    · subst q; exact c
    · exact h j (by omega)
  · refine Or.inr ⟨b, by omega, e, z, fun j hj zj => ?_⟩
    by_cases q : j = i
    · subst q; exact absurd zj c
    · exact h j (by omega) zj
theorem en_Mf {Z : Int → Prop} {K N : Nat → Int32} {i : Nat} (h : en_M Z K N i (-1)) (hi : i ≤ 32) (c : Z (en_k (K i) (N i))) : en_M Z K N (i + 1) (nI i) := by
  rcases h with ⟨e, h⟩ | ⟨b, hb, e, z, h⟩
  · refine Or.inr ⟨i, by omega, rfl, c, fun j hj zj => ?_⟩
    by_cases q : j = i
    · subst q; omega
    · exact absurd zj (h j (by omega))
  · have := nI_pos (n := b) (by omega)
    rw [← e] at this
    exact absurd (by decide) this
theorem en_Mb {Z : Int → Prop} {K N : Nat → Int32} {i b : Nat} (h : en_M Z K N i (nI b)) (hi : i ≤ 32) (hb : b < i) (c : Z (en_k (K i) (N i))) (l : en_k (K i) (N i) < en_k (K b) (N b)) : en_M Z K N (i + 1) (nI i) := by
  rcases h with ⟨e, h⟩ | ⟨b', hb', e, z, h⟩
  · have := nI_pos (n := b) (by omega)
    rw [e] at this
    exact absurd (by decide) this
  · have : b = b' := (nI_eq (by omega) (by omega)).mp e
    subst this
    refine Or.inr ⟨i, by omega, rfl, c, fun j hj zj => ?_⟩
    by_cases q : j = i
    · subst q; omega
    · have := h j (by omega) zj
      omega
theorem en_Mk {Z : Int → Prop} {K N : Nat → Int32} {i b : Nat} (h : en_M Z K N i (nI b)) (hi : i ≤ 32) (hb : b < i) (l : ¬ en_k (K i) (N i) < en_k (K b) (N b)) : en_M Z K N (i + 1) (nI b) := by
  rcases h with ⟨e, h⟩ | ⟨b', hb', e, z, h⟩
  · have := nI_pos (n := b) (by omega)
    rw [e] at this
    exact absurd (by decide) this
  · have : b = b' := (nI_eq (by omega) (by omega)).mp e
    subst this
    refine Or.inr ⟨b, by omega, rfl, z, fun j hj zj => ?_⟩
    by_cases q : j = i
    · subst q; omega
    · exact h j (by omega) zj
/-- the least key after is the one at q -/
theorem en_nx {Z : Int → Prop} {u q : Nat} {K N V K' N' V' : Nat → Int32} {r : Int32} (h : en_R u K N V K' N' V') (hq : q ≤ u) (lo : ∀ i, i < q → ¬ Z (en_k (K i) (N i))) (hi : ∀ i, q ≤ i → i < u → Z (en_k (K i) (N i))) (m : en_M Z K' N' u r) : (q = u ∧ r = -1) ∨ (q < u ∧ ∃ b, b < u ∧ r = nI b ∧ K' b = K q ∧ N' b = N q ∧ V' b = V q) := by
  rcases m with ⟨e, m⟩ | ⟨b, hb, e, z, m⟩
  · refine Or.inl ⟨?_, e⟩
    by_cases c : q = u
    · exact c
    · have c' : q < u := by omega
      obtain ⟨j, hj, e1, e2, _⟩ := en_Rx h c'
      have := m j hj
      rw [e1, e2] at this
      exact absurd (hi q (Nat.le_refl _) c') this
  · obtain ⟨i, hi', e1, e2, e3⟩ := en_Ry h hb
    have c1 : ¬ i < q := fun l => lo i l (by rw [e1, e2]; exact z)
    have c' : q < u := by omega
    obtain ⟨j, hj, f1, f2, _⟩ := en_Rx h c'
    have l := m j hj (by rw [f1, f2]; exact hi q (Nat.le_refl _) c')
    rw [f1, f2, ← e1, ← e2] at l
    have c2 : ¬ q < i := fun l' => by
      have := h.1 q i l' hi'
      omega
    have : i = q := by omega
    subst this
    exact Or.inr ⟨c', b, hb, e, e1.symm, e2.symm, e3.symm⟩

/-- a step of a shift to the right, of one to the left -/
def en_Rs (A A' : Nat → Int32) (u t : Nat) : Prop := (∀ i, i ≤ t → A' i = A i) ∧ (∀ i, t ≤ i → i < u → A' (i + 1) = A i)
theorem en_Rs0 (A : Nat → Int32) (u : Nat) : en_Rs A A u u := ⟨fun _ _ => rfl, fun i a b => absurd b (by omega)⟩
theorem en_RsS {A A' : Nat → Int32} {u t : Nat} (h : en_Rs A A' u (t + 1)) : en_Rs A (upd A' (t + 1) (A' t)) u t := by
  refine ⟨fun i hi => ?_, fun i a b => ?_⟩
  · rw [pk_un (by omega)]
    exact h.1 i (by omega)
  · by_cases c : i = t
    · subst c
      rw [pk_us]
      exact h.1 i (by omega)
    · rw [pk_un (by omega)]
      exact h.2 i (by omega) b
theorem en_RsE {A A' : Nat → Int32} {u p : Nat} (h : en_Rs A A' u p) (x : Int32) : en_Ins p u A (upd A' p x) x :=
  ⟨fun i hi => by rw [pk_un (by omega)]; exact h.1 i (by omega), pk_us, fun i a b => by rw [pk_un (by omega)]; exact h.2 i a b⟩
theorem en_End (A : Nat → Int32) (u : Nat) (x : Int32) : en_Ins u u A (upd A u x) x := en_RsE (en_Rs0 A u) x
def en_Ls' (A A' : Nat → Int32) (p t : Nat) : Prop := (∀ i, i < p → A' i = A i) ∧ (∀ i, p ≤ i → i < t → A' i = A (i + 1)) ∧ (∀ i, t ≤ i → A' i = A i)
theorem en_Ls0 (A : Nat → Int32) (p : Nat) : en_Ls' A A p p := ⟨fun _ _ => rfl, fun i a b => absurd b (by omega), fun _ _ => rfl⟩
theorem en_LsS {A A' : Nat → Int32} {p t : Nat} (hp : p ≤ t) (h : en_Ls' A A' p t) : en_Ls' A (upd A' t (A' (t + 1))) p (t + 1) := by
  refine ⟨fun i hi => ?_, fun i a b => ?_, fun i a => ?_⟩
  · rw [pk_un (by omega)]
    exact h.1 i hi
  · by_cases c : i = t
    · subst c
      rw [pk_us]
      exact h.2.2 (i + 1) (by omega)
    · rw [pk_un (by omega)]
      exact h.2.1 i a (by omega)
  · rw [pk_un (by omega)]
    exact h.2.2 i (by omega)
theorem en_LsE {A A' : Nat → Int32} {p u : Nat} (h : en_Ls' A A' p (u - 1)) : en_Del p u A A' := ⟨h.1, fun i a b => h.2.1 i a (by omega)⟩
