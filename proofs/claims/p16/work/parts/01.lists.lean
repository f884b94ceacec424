/-- the first u entries of a row, in the row's order -/
def en_L (K N V : Nat → Int32) : Nat → List (Int32 × Int32 × Int32)
  | 0 => []
  | u + 1 => en_L K N V u ++ [(K u, N u, V u)]
theorem en_Ls (K N V : Nat → Int32) (u : Nat) : en_L K N V (u + 1) = en_L K N V u ++ [(K u, N u, V u)] := rfl
theorem en_len (K N V : Nat → Int32) : ∀ u, (en_L K N V u).length = u := by
  intro u
  induction u with
  | zero => rfl
  | succ u ih => rw [en_Ls, List.length_append, ih]; rfl
theorem en_mem {K N V : Nat → Int32} {e : Int32 × Int32 × Int32} : ∀ {u : Nat}, e ∈ en_L K N V u ↔ ∃ i, i < u ∧ e = (K i, N i, V i) := by
  intro u
  induction u with
  | zero =>
    constructor
    · intro h; exact absurd h (by simp [en_L])
    · rintro ⟨i, hi, _⟩; omega
  | succ u ih =>
    rw [en_Ls, List.mem_append, ih, List.mem_singleton]
    constructor
    · rintro (⟨i, hi, e⟩ | e)
      · exact ⟨i, by omega, e⟩
      · exact ⟨u, by omega, e⟩
    · rintro ⟨i, hi, e⟩
      by_cases h : i = u
      · subst h; exact Or.inr e
      · exact Or.inl ⟨i, by omega, e⟩
theorem en_cong {K N V K' N' V' : Nat → Int32} : ∀ {u : Nat}, (∀ i, i < u → K' i = K i ∧ N' i = N i ∧ V' i = V i) → en_L K' N' V' u = en_L K N V u := by
  intro u
  induction u with
  | zero => intro _; rfl
  | succ u ih =>
    intro h
    obtain ⟨a, b, c⟩ := h u (by omega)
    rw [en_Ls, en_Ls, ih (fun i hi => h i (by omega)), a, b, c]
theorem en_ins {K N V K' N' V' : Nat → Int32} {p : Nat} (h1 : ∀ i, i < p → K' i = K i ∧ N' i = N i ∧ V' i = V i) : ∀ d : Nat, (∀ i, p ≤ i → i < p + d → K' (i + 1) = K i ∧ N' (i + 1) = N i ∧ V' (i + 1) = V i) → List.Perm (en_L K' N' V' (p + d + 1)) ((K' p, N' p, V' p) :: en_L K N V (p + d)) := by
  intro d
  induction d with
  | zero =>
    intro _
    rw [Nat.add_zero, en_Ls, en_cong h1]
    exact List.perm_append_comm
  | succ d ih =>
    intro h2
    obtain ⟨a, b, c⟩ := h2 (p + d) (by omega) (by omega)
    have e1 : en_L K' N' V' (p + (d + 1) + 1) = en_L K' N' V' (p + d + 1) ++ [(K (p + d), N (p + d), V (p + d))] := by
      rw [← a, ← b, ← c]; rfl
    have e2 : en_L K N V (p + (d + 1)) = en_L K N V (p + d) ++ [(K (p + d), N (p + d), V (p + d))] := rfl
    rw [e1, e2]
    exact (ih (fun i h h' => h2 i h (by omega))).append_right _
/-- A' is A with x put in at p -/
def en_Ins (p u : Nat) (A A' : Nat → Int32) (x : Int32) : Prop := (∀ i, i < p → A' i = A i) ∧ A' p = x ∧ (∀ i, p ≤ i → i < u → A' (i + 1) = A i)
/-- A' is A without its cell p -/
def en_Del (p u : Nat) (A A' : Nat → Int32) : Prop := (∀ i, i < p → A' i = A i) ∧ (∀ i, p ≤ i → i + 1 < u → A' i = A (i + 1))
theorem en_insP {p u : Nat} {K N V K' N' V' : Nat → Int32} {x y z : Int32} (hp : p ≤ u) (a : en_Ins p u K K' x) (b : en_Ins p u N N' y) (c : en_Ins p u V V' z) : List.Perm (en_L K' N' V' (u + 1)) ((x, y, z) :: en_L K N V u) := by
  obtain ⟨d, rfl⟩ : ∃ d, u = p + d := ⟨u - p, by omega⟩
  have h := en_ins (K := K) (N := N) (V := V) (K' := K') (N' := N') (V' := V') (p := p) (fun i hi => ⟨a.1 i hi, b.1 i hi, c.1 i hi⟩) d (fun i h h' => ⟨a.2.2 i h h', b.2.2 i h h', c.2.2 i h h'⟩)
  rw [a.2.1, b.2.1, c.2.1] at h
  exact h
theorem en_delP {p u : Nat} {K N V K' N' V' : Nat → Int32} (hp : p < u) (a : en_Del p u K K') (b : en_Del p u N N') (c : en_Del p u V V') : List.Perm (en_L K N V u) ((K p, N p, V p) :: en_L K' N' V' (u - 1)) := by
  obtain ⟨d, rfl⟩ : ∃ d, u = p + d + 1 := ⟨u - p - 1, by omega⟩
  exact en_ins (K := K') (N := N') (V := V') (K' := K) (N' := N) (V' := V) (p := p) (fun i hi => ⟨(a.1 i hi).symm, (b.1 i hi).symm, (c.1 i hi).symm⟩) d (fun i h h' => ⟨(a.2 i h (by omega)).symm, (b.2 i h (by omega)).symm, (c.2 i h (by omega)).symm⟩)
def en_cut (A : Nat → Int32) (p : Nat) : Nat → Int32 := fun i => if i < p then A i else A (i + 1)
theorem en_cutD (A : Nat → Int32) (p u : Nat) : en_Del p u A (en_cut A p) := ⟨fun _ h => if_pos h, fun _ h _ => if_neg (by omega)⟩
theorem en_cutU (A : Nat → Int32) (p u : Nat) (x : Int32) : en_Del p u (upd A p x) (en_cut A p) :=
  ⟨fun i h => by rw [pk_un (by omega)]; exact if_pos h, fun i h _ => by rw [pk_un (by omega)]; exact if_neg (by omega)⟩
/-- the value at p replaced -/
theorem en_updP {p u : Nat} {K N V : Nat → Int32} (z : Int32) (hp : p < u) : ∃ M, List.Perm (en_L K N V u) ((K p, N p, V p) :: M) ∧ List.Perm (en_L K N (upd V p z) u) ((K p, N p, z) :: M) := by
  refine ⟨en_L (en_cut K p) (en_cut N p) (en_cut V p) (u - 1), en_delP hp (en_cutD K p u) (en_cutD N p u) (en_cutD V p u), ?_⟩
  have h := en_delP (K := K) (N := N) (V := upd V p z) hp (en_cutD K p u) (en_cutD N p u) (en_cutU V p u z)
  rw [pk_us] at h
  exact h

/-- the keys in canonical order, as whole numbers -/
def en_k (k n : Int32) : Int := k.toInt * 4294967296 + n.toInt
theorem en_kB (n : Int32) : -2147483648 ≤ n.toInt ∧ n.toInt < 2147483648 := ⟨Int32.le_toInt n, Int32.toInt_lt n⟩
theorem en_ltN {k1 k2 : Int32} (n1 n2 : Int32) (h : k1 ≠ k2) : en_k k1 n1 < en_k k2 n2 ↔ k1 < k2 := by
  have h' : k1.toInt ≠ k2.toInt := fun z => h (Int32.toInt_inj.mp z)
  have a := en_kB n1
  have b := en_kB n2
  rw [Int32.lt_iff_toInt_lt]
  unfold en_k
  omega
theorem en_ltE (k n1 n2 : Int32) : en_k k n1 < en_k k n2 ↔ n1 < n2 := by
  rw [Int32.lt_iff_toInt_lt]
  unfold en_k
  omega
theorem en_inj {k1 k2 n1 n2 : Int32} (h : en_k k1 n1 = en_k k2 n2) : k1 = k2 ∧ n1 = n2 := by
  have a := en_kB n1
  have b := en_kB n2
  unfold en_k at h
  exact ⟨Int32.toInt_inj.mp (by omega), Int32.toInt_inj.mp (by omega)⟩
def en_S (K N : Nat → Int32) (u : Nat) : Prop := ∀ i j, i < j → j < u → en_k (K i) (N i) < en_k (K j) (N j)
theorem en_S1 {K N : Nat → Int32} {u i j : Nat} (h : en_S K N u) (hi : i < u) (hj : j < u) (e : K i = K j ∧ N i = N j) : i = j := by
  have e' : en_k (K i) (N i) = en_k (K j) (N j) := by rw [e.1, e.2]
  have a := h i j
  have b := h j i
  omega
theorem en_Sle {K N : Nat → Int32} {u i j : Nat} (h : en_S K N u) (hj : j < u) (e : i ≤ j) : en_k (K i) (N i) ≤ en_k (K j) (N j) := by
  by_cases z : i = j
  · subst z; omega
  · have := h i j (by omega) hj; omega
theorem en_S0 (K N : Nat → Int32) : en_S K N 0 := fun _ _ _ h => absurd h (Nat.not_lt_zero _)
theorem en_Sins {p u : Nat} {K N K' N' : Nat → Int32} {x y : Int32} (h : en_S K N u) (a : en_Ins p u K K' x) (b : en_Ins p u N N' y) (lo : ∀ i, i < p → en_k (K i) (N i) < en_k x y) (hi : ∀ i, p ≤ i → i < u → en_k x y < en_k (K i) (N i)) (hp : p ≤ u) : en_S K' N' (u + 1) := by
  intro i j hij hj
  by_cases c1 : j < p
  · rw [a.1 i (by omega), b.1 i (by omega), a.1 j c1, b.1 j c1]
    exact h i j hij (by omega)
  · by_cases c2 : j = p
    · subst c2
      rw [a.1 i hij, b.1 i hij, a.2.1, b.2.1]
      exact lo i hij
    · obtain ⟨j', rfl⟩ : ∃ j', j = j' + 1 := ⟨j - 1, by omega⟩
      rw [a.2.2 j' (by omega) (by omega), b.2.2 j' (by omega) (by omega)]
      by_cases c3 : i < p
      · rw [a.1 i c3, b.1 i c3]
        exact h i j' (by omega) (by omega)
      · by_cases c4 : i = p
        · subst c4
          rw [a.2.1, b.2.1]
          exact hi j' (by omega) (by omega)
        · obtain ⟨i', rfl⟩ : ∃ i', i = i' + 1 := ⟨i - 1, by omega⟩
          rw [a.2.2 i' (by omega) (by omega), b.2.2 i' (by omega) (by omega)]
          exact h i' j' (by omega) (by omega)
theorem en_Sdel {p u : Nat} {K N K' N' : Nat → Int32} (h : en_S K N u) (a : en_Del p u K K') (b : en_Del p u N N') : en_S K' N' (u - 1) := by
  intro i j hij hj
  by_cases c1 : j < p
  · rw [a.1 i (by omega), b.1 i (by omega), a.1 j c1, b.1 j c1]
    exact h i j hij (by omega)
  · rw [a.2 j (by omega) (by omega), b.2 j (by omega) (by omega)]
    by_cases c3 : i < p
    · rw [a.1 i c3, b.1 i c3]
      exact h i (j + 1) (by omega) (by omega)
    · rw [a.2 i (by omega) (by omega), b.2 i (by omega) (by omega)]
      exact h (i + 1) (j + 1) (by omega) (by omega)
theorem en_Spw {K N V : Nat → Int32} : ∀ {u : Nat}, en_S K N u ↔ List.Pairwise (fun a b : Int32 × Int32 × Int32 => en_k a.1 a.2.1 < en_k b.1 b.2.1) (en_L K N V u) := by
  intro u
  induction u with
  | zero => exact ⟨fun _ => List.Pairwise.nil, fun _ => en_S0 K N⟩
  | succ u ih =>
    rw [en_Ls, List.pairwise_append, ← ih]
    constructor
    · intro h
      refine ⟨fun i j a b => h i j a (by omega), List.pairwise_singleton _ _, ?_⟩
      intro a ha b hb
      obtain ⟨i, hi, rfl⟩ := en_mem.mp ha
      rw [List.mem_singleton] at hb
      subst hb
      exact h i u hi (by omega)
    · rintro ⟨h1, _, h3⟩ i j hij hj
      by_cases c : j = u
      · subst c
        exact h3 _ (en_mem.mpr ⟨i, hij, rfl⟩) _ (List.mem_singleton.mpr rfl)
      · exact h1 i j hij (by omega)

/-- the two rows hold the same entries: the first in canonical order -/
def en_R (u : Nat) (K N V K' N' V' : Nat → Int32) : Prop := en_S K N u ∧ List.Perm (en_L K N V u) (en_L K' N' V' u)
theorem en_Rx {u : Nat} {K N V K' N' V' : Nat → Int32} (h : en_R u K N V K' N' V') {i : Nat} (hi : i < u) : ∃ j, j < u ∧ K' j = K i ∧ N' j = N i ∧ V' j = V i := by
  obtain ⟨j, hj, e⟩ := en_mem.mp (h.2.mem_iff.mp (en_mem.mpr ⟨i, hi, rfl⟩))
  simp only [Prod.mk.injEq] at e
  exact ⟨j, hj, e.1.symm, e.2.1.symm, e.2.2.symm⟩
theorem en_Ry {u : Nat} {K N V K' N' V' : Nat → Int32} (h : en_R u K N V K' N' V') {j : Nat} (hj : j < u) : ∃ i, i < u ∧ K i = K' j ∧ N i = N' j ∧ V i = V' j := by
  obtain ⟨i, hi, e⟩ := en_mem.mp (h.2.mem_iff.mpr (en_mem.mpr ⟨j, hj, rfl⟩))
  simp only [Prod.mk.injEq] at e
  exact ⟨i, hi, e.1.symm, e.2.1.symm, e.2.2.symm⟩
theorem en_Rv {u : Nat} {K N V K' N' V' : Nat → Int32} (h : en_R u K N V K' N' V') {i j : Nat} (hi : i < u) (hj : j < u) (e1 : K i = K' j) (e2 : N i = N' j) : V i = V' j := by
  obtain ⟨a, ha, b1, b2, b3⟩ := en_Ry h hj
  have : a = i := en_S1 h.1 ha hi ⟨b1.trans e1.symm, b2.trans e2.symm⟩
  subst this
  exact b3
theorem en_Rins {p u : Nat} {K N V K' N' V' A B C A' B' C' : Nat → Int32} {x y z : Int32} (h : en_R u K N V K' N' V') (hp : p ≤ u) (a : en_Ins p u K A x) (b : en_Ins p u N B y) (c : en_Ins p u V C z) (a' : en_Ins u u K' A' x) (b' : en_Ins u u N' B' y) (c' : en_Ins u u V' C' z) (lo : ∀ i, i < p → en_k (K i) (N i) < en_k x y) (hi : ∀ i, p ≤ i → i < u → en_k x y < en_k (K i) (N i)) : en_R (u + 1) A B C A' B' C' :=
  ⟨en_Sins h.1 a b lo hi hp, (en_insP hp a b c).trans ((h.2.cons _).trans (en_insP (Nat.le_refl u) a' b' c').symm)⟩
theorem en_Rdel {p q u : Nat} {K N V K' N' V' A B C A' B' C' : Nat → Int32} (h : en_R u K N V K' N' V') (hp : p < u) (hq : q < u) (e1 : K p = K' q) (e2 : N p = N' q) (a : en_Del p u K A) (b : en_Del p u N B) (c : en_Del p u V C) (a' : en_Del q u K' A') (b' : en_Del q u N' B') (c' : en_Del q u V' C') : en_R (u - 1) A B C A' B' C' := by
  refine ⟨en_Sdel h.1 a b, ?_⟩
  have e3 := en_Rv h hp hq e1 e2
  have P := (en_delP hp a b c).symm.trans (h.2.trans (en_delP hq a' b' c'))
  rw [e1, e2, e3] at P
  exact P.cons_inv
theorem en_Rupd {p q u : Nat} {K N V K' N' V' : Nat → Int32} (h : en_R u K N V K' N' V') (z : Int32) (hp : p < u) (hq : q < u) (e1 : K p = K' q) (e2 : N p = N' q) : en_R u K N (upd V p z) K' N' (upd V' q z) := by
  refine ⟨h.1, ?_⟩
  have e3 := en_Rv h hp hq e1 e2
  obtain ⟨M, m1, m2⟩ := en_updP (K := K) (N := N) (V := V) z hp
  obtain ⟨M', m1', m2'⟩ := en_updP (K := K') (N := N') (V := V') z hq
  have P := m1.symm.trans (h.2.trans m1')
  rw [e1, e2, e3] at P
  have Q := P.cons_inv
  rw [e1, e2] at m2
  exact m2.trans ((Q.cons _).trans m2'.symm)
theorem en_R0 (K N V K' N' V' : Nat → Int32) : en_R 0 K N V K' N' V' := ⟨en_S0 K N, List.Perm.refl _⟩

/-- what a sweep that keeps the values from lim on has done at i, with w kept -/
def en_P (lim : Int32) (K N V A B C : Nat → Int32) (i w : Nat) : Prop := w ≤ i ∧ (∀ j, i ≤ j → A j = K j ∧ B j = N j ∧ C j = V j) ∧ en_L A B C w = (en_L K N V i).filter (fun e => decide (lim ≤ e.2.2))
theorem en_P0 (lim : Int32) (K N V : Nat → Int32) : en_P lim K N V K N V 0 0 := ⟨Nat.le_refl _, fun _ _ => ⟨rfl, rfl, rfl⟩, rfl⟩
theorem en_Pk {lim : Int32} {K N V A B C : Nat → Int32} {i w : Nat} (h : en_P lim K N V A B C i w) (c : lim ≤ C i) : en_P lim K N V (upd A w (A i)) (upd B w (B i)) (upd C w (C i)) (i + 1) (w + 1) := by
  obtain ⟨h1, h2, h3⟩ := h
  refine ⟨by omega, fun j hj => ?_, ?_⟩
  · rw [pk_un (by omega), pk_un (by omega), pk_un (by omega)]
    exact h2 j (by omega)
  · obtain ⟨a, b, d⟩ := h2 i (Nat.le_refl i)
    rw [en_Ls, en_Ls, List.filter_append, ← h3, pk_us, pk_us, pk_us, en_cong (K := A) (N := B) (V := C) (fun j hj => ⟨pk_un (by omega), pk_un (by omega), pk_un (by omega)⟩), a, b, d]
    rw [d] at c
    simp [c]
theorem en_Pd {lim : Int32} {K N V A B C : Nat → Int32} {i w : Nat} (h : en_P lim K N V A B C i w) (c : ¬ lim ≤ C i) : en_P lim K N V A B C (i + 1) w := by
  obtain ⟨h1, h2, h3⟩ := h
  refine ⟨by omega, fun j hj => h2 j (by omega), ?_⟩
  obtain ⟨a, b, d⟩ := h2 i (Nat.le_refl i)
  rw [d] at c
  rw [en_Ls, List.filter_append, ← h3]
  have : List.filter (fun e : Int32 × Int32 × Int32 => decide (lim ≤ e.2.2)) [(K i, N i, V i)] = [] := by
    rw [List.filter_cons_of_neg (by simpa using c)]
    rfl
  rw [this, List.append_nil]
theorem en_RP {lim : Int32} {K N V A B C K' N' V' A' B' C' : Nat → Int32} {u w w' : Nat} (h : en_R u K N V K' N' V') (p : en_P lim K N V A B C u w) (p' : en_P lim K' N' V' A' B' C' u w') : w' = w ∧ en_R w A B C A' B' C' := by
  have P := h.2.filter (fun e => decide (lim ≤ e.2.2))
  rw [← p.2.2, ← p'.2.2] at P
  have e : w' = w := by
    have := P.length_eq
    rw [en_len, en_len] at this
    exact this.symm
  subst e
  refine ⟨rfl, ?_, P⟩
  rw [en_Spw (V := C), p.2.2]
  exact (en_Spw.mp h.1).filter _
