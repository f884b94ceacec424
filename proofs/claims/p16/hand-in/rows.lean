section
/-- the first u entries of a row, in the row's order -/
def en_L (K N V : Nat → Int32) : Nat → List (Int32 × Int32 × Int32)
  | 0 => []
  | u + 1 => en_L K N V u ++ [(K u, N u, V u)]
theorem en_Ls (K N V : Nat → Int32) (u : Nat) : en_L K N V (u + 1) = en_L K N V u ++ [(K u, N u, V u)] := rfl
theorem en_len (K N V : Nat → Int32) : ∀ u, (en_L K N V u).length = u := by
  intro u
  induction u with
  | zero => rfl
  | succ u ih => rw [en_Ls, List.length_append, ih]; rfl
theorem en_mem {K N V : Nat → Int32} {e : Int32 × Int32 × Int32} : ∀ {u : Nat}, e ∈ en_L K N V u ↔ ∃ i, i < u ∧ e = (K i, N i, V i) := by
  intro u
  induction u with
  | zero =>
    constructor
    · intro h; exact absurd h (by simp [en_L])
    · rintro ⟨i, hi, _⟩; omega
  | succ u ih =>
    rw [en_Ls, List.mem_append, ih, List.mem_singleton]
    constructor
    · rintro (⟨i, hi, e⟩ | e)
      · exact ⟨i, by omega, e⟩
      · exact ⟨u, by omega, e⟩
    · rintro ⟨i, hi, e⟩
      by_cases h : i = u
      · subst h; exact Or.inr e
      · exact Or.inl ⟨i, by omega, e⟩
theorem en_cong {K N V K' N' V' : Nat → Int32} : ∀ {u : Nat}, (∀ i, i < u → K' i = K i ∧ N' i = N i ∧ V' i = V i) → en_L K' N' V' u = en_L K N V u := by
  intro u
  induction u with
  | zero => intro _; rfl
  | succ u ih =>
    intro h
    obtain ⟨a, b, c⟩ := h u (by omega)
    rw [en_Ls, en_Ls, ih (fun i hi => h i (by omega)), a, b, c]
theorem en_ins {K N V K' N' V' : Nat → Int32} {p : Nat} (h1 : ∀ i, i < p → K' i = K i ∧ N' i = N i ∧ V' i = V i) : ∀ d : Nat, (∀ i, p ≤ i → i < p + d → K' (i + 1) = K i ∧ N' (i + 1) = N i ∧ V' (i + 1) = V i) → List.Perm (en_L K' N' V' (p + d + 1)) ((K' p, N' p, V' p) :: en_L K N V (p + d)) := by
  intro d
  induction d with
  | zero =>
    intro _
    rw [Nat.add_zero, en_Ls, en_cong h1]
    exact List.perm_append_comm
  | succ d ih =>
    intro h2
    obtain ⟨a, b, c⟩ := h2 (p + d) (by omega) (by omega)
    have e1 : en_L K' N' V' (p + (d + 1) + 1) = en_L K' N' V' (p + d + 1) ++ [(K (p + d), N (p + d), V (p + d))] := by
      rw [← a, ← b, ← c]; rfl
    have e2 : en_L K N V (p + (d + 1)) = en_L K N V (p + d) ++ [(K (p + d), N (p + d), V (p + d))] := rfl
    rw [e1, e2]
    exact (ih (fun i h h' => h2 i h (by omega))).append_right _
/-- A' is A with x put in at p -/
def en_Ins (p u : Nat) (A A' : Nat → Int32) (x : Int32) : Prop := (∀ i, i < p → A' i = A i) ∧ A' p = x ∧ (∀ i, p ≤ i → i < u → A' (i + 1) = A i)
/-- A' is A without its cell p -/
def en_Del (p u : Nat) (A A' : Nat → Int32) : Prop := (∀ i, i < p → A' i = A i) ∧ (∀ i, p ≤ i → i + 1 < u → A' i = A (i + 1))
theorem en_insP {p u : Nat} {K N V K' N' V' : Nat → Int32} {x y z : Int32} (hp : p ≤ u) (a : en_Ins p u K K' x) (b : en_Ins p u N N' y) (c : en_Ins p u V V' z) : List.Perm (en_L K' N' V' (u + 1)) ((x, y, z) :: en_L K N V u) := by
  obtain ⟨d, rfl⟩ : ∃ d, u = p + d := ⟨u - p, by omega⟩
  have h := en_ins (K := K) (N := N) (V := V) (K' := K') (N' := N') (V' := V') (p := p) (fun i hi => ⟨a.1 i hi, b.1 i hi, c.1 i hi⟩) d (fun i h h' => ⟨a.2.2 i h h', b.2.2 i h h', c.2.2 i h h'⟩)
  rw [a.2.1, b.2.1, c.2.1] at h
  exact h
theorem en_delP {p u : Nat} {K N V K' N' V' : Nat → Int32} (hp : p < u) (a : en_Del p u K K') (b : en_Del p u N N') (c : en_Del p u V V') : List.Perm (en_L K N V u) ((K p, N p, V p) :: en_L K' N' V' (u - 1)) := by
  obtain ⟨d, rfl⟩ : ∃ d, u = p + d + 1 := ⟨u - p - 1, by omega⟩
  exact en_ins (K := K') (N := N') (V := V') (K' := K) (N' := N) (V' := V) (p := p) (fun i hi => ⟨(a.1 i hi).symm, (b.1 i hi).symm, (c.1 i hi).symm⟩) d (fun i h h' => ⟨(a.2 i h (by omega)).symm, (b.2 i h (by omega)).symm, (c.2 i h (by omega)).symm⟩)
def en_cut (A : Nat → Int32) (p : Nat) : Nat → Int32 := fun i => if i < p then A i else A (i + 1)
theorem en_cutD (A : Nat → Int32) (p u : Nat) : en_Del p u A (en_cut A p) := ⟨fun _ h => if_pos h, fun _ h _ => if_neg (by omega)⟩
theorem en_cutU (A : Nat → Int32) (p u : Nat) (x : Int32) : en_Del p u (upd A p x) (en_cut A p) :=
  ⟨fun i h => by rw [pk_un (by omega)]; exact if_pos h, fun i h _ => by rw [pk_un (by omega)]; exact if_neg (by omega)⟩
/-- the value at p replaced -/
theorem en_updP {p u : Nat} {K N V : Nat → Int32} (z : Int32) (hp : p < u) : ∃ M, List.Perm (en_L K N V u) ((K p, N p, V p) :: M) ∧ List.Perm (en_L K N (upd V p z) u) ((K p, N p, z) :: M) := by
  refine ⟨en_L (en_cut K p) (en_cut N p) (en_cut V p) (u - 1), en_delP hp (en_cutD K p u) (en_cutD N p u) (en_cutD V p u), ?_⟩
  have h := en_delP (K := K) (N := N) (V := upd V p z) hp (en_cutD K p u) (en_cutD N p u) (en_cutU V p u z)
  rw [pk_us] at h
  exact h

/-- the keys in canonical order, as whole numbers -/
def en_k (k n : Int32) : Int := k.toInt * 4294967296 + n.toInt
theorem en_kB (n : Int32) : -2147483648 ≤ n.toInt ∧ n.toInt < 2147483648 := ⟨Int32.le_toInt n, Int32.toInt_lt n⟩
theorem en_ltN {k1 k2 : Int32} (n1 n2 : Int32) (h : k1 ≠ k2) : en_k k1 n1 < en_k k2 n2 ↔ k1 < k2 := by
  have h' : k1.toInt ≠ k2.toInt := fun z => h (Int32.toInt_inj.mp z)
  have a := en_kB n1
  have b := en_kB n2
  rw [Int32.lt_iff_toInt_lt]
  unfold en_k
  omega
theorem en_ltE (k n1 n2 : Int32) : en_k k n1 < en_k k n2 ↔ n1 < n2 := by
  rw [Int32.lt_iff_toInt_lt]
  unfold en_k
  omega
theorem en_inj {k1 k2 n1 n2 : Int32} (h : en_k k1 n1 = en_k k2 n2) : k1 = k2 ∧ n1 = n2 := by
  have a := en_kB n1
  have b := en_kB n2
  unfold en_k at h
  exact ⟨Int32.toInt_inj.mp (by omega), Int32.toInt_inj.mp (by omega)⟩
def en_S (K N : Nat → Int32) (u : Nat) : Prop := ∀ i j, i < j → j < u → en_k (K i) (N i) < en_k (K j) (N j)
theorem en_S1 {K N : Nat → Int32} {u i j : Nat} (h : en_S K N u) (hi : i < u) (hj : j < u) (e : K i = K j ∧ N i = N j) : i = j := by
  have e' : en_k (K i) (N i) = en_k (K j) (N j) := by rw [e.1, e.2]
  have a := h i j
  have b := h j i
  omega
theorem en_Sle {K N : Nat → Int32} {u i j : Nat} (h : en_S K N u) (hj : j < u) (e : i ≤ j) : en_k (K i) (N i) ≤ en_k (K j) (N j) := by
  by_cases z : i = j
  · subst z; omega
  · have := h i j (by omega) hj; omega
theorem en_S0 (K N : Nat → Int32) : en_S K N 0 := fun _ _ _ h => absurd h (Nat.not_lt_zero _)
theorem en_Sins {p u : Nat} {K N K' N' : Nat → Int32} {x y : Int32} (h : en_S K N u) (a : en_Ins p u K K' x) (b : en_Ins p u N N' y) (lo : ∀ i, i < p → en_k (K i) (N i) < en_k x y) (hi : ∀ i, p ≤ i → i < u → en_k x y < en_k (K i) (N i)) (hp : p ≤ u) : en_S K' N' (u + 1) := by
  intro i j hij hj
  by_cases c1 : j < p
  · rw [a.1 i (by omega), b.1 i (by omega), a.1 j c1, b.1 j c1]
    exact h i j hij (by omega)
  · by_cases c2 : j = p
    · subst c2
      rw [a.1 i hij, b.1 i hij, a.2.1, b.2.1]
      exact lo i hij
    · obtain ⟨j', rfl⟩ : ∃ j', j = j' + 1 := ⟨j - 1, by omega⟩
      rw [a.2.2 j' (by omega) (by omega), b.2.2 j' (by omega) (by omega)]
      by_cases c3 : i < p
      · rw [a.1 i c3, b.1 i c3]
        exact h i j' (by omega) (by omega)
      · by_cases c4 : i = p
        · subst c4
          rw [a.2.1, b.2.1]
          exact hi j' (by omega) (by omega)
        · obtain ⟨i', rfl⟩ : ∃ i', i = i' + 1 := ⟨i - 1, by omega⟩
          rw [a.2.2 i' (by omega) (by omega), b.2.2 i' (by omega) (by omega)]
          exact h i' j' (by omega) (by omega)
theorem en_Sdel {p u : Nat} {K N K' N' : Nat → Int32} (h : en_S K N u) (a : en_Del p u K K') (b : en_Del p u N N') : en_S K' N' (u - 1) := by
  intro i j hij hj
  by_cases c1 : j < p
  · rw [a.1 i (by omega), b.1 i (by omega), a.1 j c1, b.1 j c1]
    exact h i j hij (by omega)
  · rw [a.2 j (by omega) (by omega), b.2 j (by omega) (by omega)]
    by_cases c3 : i < p
    · rw [a.1 i c3, b.1 i c3]
      exact h i (j + 1) (by omega) (by omega)
    · rw [a.2 i (by omega) (by omega), b.2 i (by omega) (by omega)]
      exact h (i + 1) (j + 1) (by omega) (by omega)
theorem en_Spw {K N V : Nat → Int32} : ∀ {u : Nat}, en_S K N u ↔ List.Pairwise (fun a b : Int32 × Int32 × Int32 => en_k a.1 a.2.1 < en_k b.1 b.2.1) (en_L K N V u) := by
  intro u
  induction u with
  | zero => exact ⟨fun _ => List.Pairwise.nil, fun _ => en_S0 K N⟩
  | succ u ih =>
    rw [en_Ls, List.pairwise_append, ← ih]
    constructor
    · intro h
      refine ⟨fun i j a b => h i j a (by omega), List.pairwise_singleton _ _, ?_⟩
      intro a ha b hb
      obtain ⟨i, hi, rfl⟩ := en_mem.mp ha
      rw [List.mem_singleton] at hb
      subst hb
      exact h i u hi (by omega)
    · rintro ⟨h1, _, h3⟩ i j hij hj
      by_cases c : j = u
      · subst c
        exact h3 _ (en_mem.mpr ⟨i, hij, rfl⟩) _ (List.mem_singleton.mpr rfl)
      · exact h1 i j hij (by omega)

/-- the two rows hold the same entries: the first in canonical order -/
def en_R (u : Nat) (K N V K' N' V' : Nat → Int32) : Prop := en_S K N u ∧ List.Perm (en_L K N V u) (en_L K' N' V' u)
theorem en_Rx {u : Nat} {K N V K' N' V' : Nat → Int32} (h : en_R u K N V K' N' V') {i : Nat} (hi : i < u) : ∃ j, j < u ∧ K' j = K i ∧ N' j = N i ∧ V' j = V i := by
  obtain ⟨j, hj, e⟩ := en_mem.mp (h.2.mem_iff.mp (en_mem.mpr ⟨i, hi, rfl⟩))
  simp only [Prod.mk.injEq] at e
  exact ⟨j, hj, e.1.symm, e.2.1.symm, e.2.2.symm⟩
theorem en_Ry {u : Nat} {K N V K' N' V' : Nat → Int32} (h : en_R u K N V K' N' V') {j : Nat} (hj : j < u) : ∃ i, i < u ∧ K i = K' j ∧ N i = N' j ∧ V i = V' j := by
  obtain ⟨i, hi, e⟩ := en_mem.mp (h.2.mem_iff.mpr (en_mem.mpr ⟨j, hj, rfl⟩))
  simp only [Prod.mk.injEq] at e
  exact ⟨i, hi, e.1.symm, e.2.1.symm, e.2.2.symm⟩
theorem en_Rv {u : Nat} {K N V K' N' V' : Nat → Int32} (h : en_R u K N V K' N' V') {i j : Nat} (hi : i < u) (hj : j < u) (e1 : K i = K' j) (e2 : N i = N' j) : V i = V' j := by
  obtain ⟨a, ha, b1, b2, b3⟩ := en_Ry h hj
  have : a = i := en_S1 h.1 ha hi ⟨b1.trans e1.symm, b2.trans e2.symm⟩
  subst this
  exact b3
theorem en_Rins {p u : Nat} {K N V K' N' V' A B C A' B' C' : Nat → Int32} {x y z : Int32} (h : en_R u K N V K' N' V') (hp : p ≤ u) (a : en_Ins p u K A x) (b : en_Ins p u N B y) (c : en_Ins p u V C z) (a' : en_Ins u u K' A' x) (b' : en_Ins u u N' B' y) (c' : en_Ins u u V' C' z) (lo : ∀ i, i < p → en_k (K i) (N i) < en_k x y) (hi : ∀ i, p ≤ i → i < u → en_k x y < en_k (K i) (N i)) : en_R (u + 1) A B C A' B' C' :=
  ⟨en_Sins h.1 a b lo hi hp, (en_insP hp a b c).trans ((h.2.cons _).trans (en_insP (Nat.le_refl u) a' b' c').symm)⟩
theorem en_Rdel {p q u : Nat} {K N V K' N' V' A B C A' B' C' : Nat → Int32} (h : en_R u K N V K' N' V') (hp : p < u) (hq : q < u) (e1 : K p = K' q) (e2 : N p = N' q) (a : en_Del p u K A) (b : en_Del p u N B) (c : en_Del p u V C) (a' : en_Del q u K' A') (b' : en_Del q u N' B') (c' : en_Del q u V' C') : en_R (u - 1) A B C A' B' C' := by
  refine ⟨en_Sdel h.1 a b, ?_⟩
  have e3 := en_Rv h hp hq e1 e2
  have P := (en_delP hp a b c).symm.trans (h.2.trans (en_delP hq a' b' c'))
  rw [e1, e2, e3] at P
  exact P.cons_inv
theorem en_Rupd {p q u : Nat} {K N V K' N' V' : Nat → Int32} (h : en_R u K N V K' N' V') (z : Int32) (hp : p < u) (hq : q < u) (e1 : K p = K' q) (e2 : N p = N' q) : en_R u K N (upd V p z) K' N' (upd V' q z) := by
  refine ⟨h.1, ?_⟩
  have e3 := en_Rv h hp hq e1 e2
  obtain ⟨M, m1, m2⟩ := en_updP (K := K) (N := N) (V := V) z hp
  obtain ⟨M', m1', m2'⟩ := en_updP (K := K') (N := N') (V := V') z hq
  have P := m1.symm.trans (h.2.trans m1')
  rw [e1, e2, e3] at P
  have Q := P.cons_inv
  rw [e1, e2] at m2
  exact m2.trans ((Q.cons _).trans m2'.symm)
theorem en_R0 (K N V K' N' V' : Nat → Int32) : en_R 0 K N V K' N' V' := ⟨en_S0 K N, List.Perm.refl _⟩

/-- what a sweep that keeps the values from lim on has done at i, with w kept -/
def en_P (lim : Int32) (K N V A B C : Nat → Int32) (i w : Nat) : Prop := w ≤ i ∧ (∀ j, i ≤ j → A j = K j ∧ B j = N j ∧ C j = V j) ∧ en_L A B C w = (en_L K N V i).filter (fun e => decide (lim ≤ e.2.2))
theorem en_P0 (lim : Int32) (K N V : Nat → Int32) : en_P lim K N V K N V 0 0 := ⟨Nat.le_refl _, fun _ _ => ⟨rfl, rfl, rfl⟩, rfl⟩
theorem en_Pk {lim : Int32} {K N V A B C : Nat → Int32} {i w : Nat} (h : en_P lim K N V A B C i w) (c : lim ≤ C i) : en_P lim K N V (upd A w (A i)) (upd B w (B i)) (upd C w (C i)) (i + 1) (w + 1) := by
  obtain ⟨h1, h2, h3⟩ := h
  refine ⟨by omega, fun j hj => ?_, ?_⟩
  · rw [pk_un (by omega), pk_un (by omega), pk_un (by omega)]
    exact h2 j (by omega)
  · obtain ⟨a, b, d⟩ := h2 i (Nat.le_refl i)
    rw [en_Ls, en_Ls, List.filter_append, ← h3, pk_us, pk_us, pk_us, en_cong (K := A) (N := B) (V := C) (fun j hj => ⟨pk_un (by omega), pk_un (by omega), pk_un (by omega)⟩), a, b, d]
    rw [d] at c
    simp [c]
theorem en_Pd {lim : Int32} {K N V A B C : Nat → Int32} {i w : Nat} (h : en_P lim K N V A B C i w) (c : ¬ lim ≤ C i) : en_P lim K N V A B C (i + 1) w := by
  obtain ⟨h1, h2, h3⟩ := h
  refine ⟨by omega, fun j hj => h2 j (by omega), ?_⟩
  obtain ⟨a, b, d⟩ := h2 i (Nat.le_refl i)
  rw [d] at c
  rw [en_Ls, List.filter_append, ← h3]
  have : List.filter (fun e : Int32 × Int32 × Int32 => decide (lim ≤ e.2.2)) [(K i, N i, V i)] = [] := by
    rw [List.filter_cons_of_neg (by simpa using c)]
    rfl
  rw [this, List.append_nil]
theorem en_RP {lim : Int32} {K N V A B C K' N' V' A' B' C' : Nat → Int32} {u w w' : Nat} (h : en_R u K N V K' N' V') (p : en_P lim K N V A B C u w) (p' : en_P lim K' N' V' A' B' C' u w') : w' = w ∧ en_R w A B C A' B' C' := by
  have P := h.2.filter (fun e => decide (lim ≤ e.2.2))
  rw [← p.2.2, ← p'.2.2] at P
  have e : w' = w := by
    have := P.length_eq
    rw [en_len, en_len] at this
    exact this.symm
  subst e
  refine ⟨rfl, ?_, P⟩
  rw [en_Spw (V := C), p.2.2]
  exact (en_Spw.mp h.1).filter _
end
section
/-- the border of the first p entries is b -/
def en_B (K N : Nat → Int32) (p b : Nat) : Prop := b ≤ p ∧ (∀ m, m < b → ∃ i, i < p ∧ K i = 0 ∧ N i = nI (m + 1)) ∧ (∀ i, i < p → ¬ (K i = 0 ∧ N i = nI (b + 1)))
theorem en_B0 (K N : Nat → Int32) : en_B K N 0 0 := ⟨Nat.le_refl _, fun _ h => absurd h (Nat.not_lt_zero _), fun _ h => absurd h (Nat.not_lt_zero _)⟩
theorem en_Bk {K N : Nat → Int32} {u p b : Nat} (hs : en_S K N u) (hp : p < u) (hu : u ≤ 32) (h : en_B K N p b) (e1 : K p = 0) (e2 : N p = nI (b + 1)) : en_B K N (p + 1) (b + 1) := by
  obtain ⟨h1, h2, h3⟩ := h
  refine ⟨by omega, fun m hm => ?_, ?_⟩
  · by_cases c : m = b
    · subst c; exact ⟨p, by omega, e1, e2⟩
    · obtain ⟨i, hi, a⟩ := h2 m (by omega)
      exact ⟨i, by omega, a⟩
  · rintro i hi ⟨a, c⟩
    by_cases z : i = p
    · subst z
      have := (nI_eq (by omega) (by omega)).mp (e2.symm.trans c)
      omega
    · have l := hs i p (by omega) hp
      rw [a, c, e1, e2, en_ltE, nI_ltI (by omega) (by omega)] at l
      omega
theorem en_Bd {K N : Nat → Int32} {p b : Nat} (h : en_B K N p b) (e : ¬ (K p = 0 ∧ N p = nI (b + 1))) : en_B K N (p + 1) b := by
  obtain ⟨h1, h2, h3⟩ := h
  refine ⟨by omega, fun m hm => ?_, ?_⟩
  · obtain ⟨i, hi, a⟩ := h2 m hm
    exact ⟨i, by omega, a⟩
  · intro i hi
    by_cases z : i = p
    · subst z; exact e
    · exact h3 i (by omega)
theorem en_By {u b : Nat} {K N V K' N' V' : Nat → Int32} (h : en_R u K N V K' N' V') (B : en_B K N u b) : (∀ m, m < b → ∃ i, i < u ∧ K' i = 0 ∧ N' i = nI (m + 1)) ∧ (∀ i, i < u → ¬ (K' i = 0 ∧ N' i = nI (b + 1))) := by
  refine ⟨fun m hm => ?_, ?_⟩
  · obtain ⟨i, hi, a, c⟩ := B.2.1 m hm
    obtain ⟨j, hj, e1, e2, _⟩ := en_Rx h hi
    exact ⟨j, hj, e1.trans a, e2.trans c⟩
  · rintro j hj ⟨a, c⟩
    obtain ⟨i, hi, e1, e2, _⟩ := en_Ry h hj
    exact B.2.2 i hi ⟨e1.trans a, e2.trans c⟩

/-- p is the place of the key (k, n) -/
def en_Pl (K N : Nat → Int32) (u : Nat) (k n : Int32) (p : Nat) : Prop := p ≤ u ∧ (∀ i, i < p → en_k (K i) (N i) < en_k k n) ∧ (∀ i, p ≤ i → i < u → en_k k n ≤ en_k (K i) (N i))
theorem en_PlI {K N : Nat → Int32} {u p : Nat} {k n : Int32} (hs : en_S K N u) (hp : p ≤ u) (lo : ∀ i, i < p → en_k (K i) (N i) < en_k k n) (hi : p < u → ¬ en_k (K p) (N p) < en_k k n) : en_Pl K N u k n p := by
  refine ⟨hp, lo, fun i a b => ?_⟩
  have h1 := hi (by omega)
  have h2 := en_Sle hs b a
  omega
/-- the key stands at its place -/
def en_At (K N : Nat → Int32) (u : Nat) (k n : Int32) (p : Nat) : Prop := p < u ∧ K p = k ∧ N p = n
theorem en_Nat {K N : Nat → Int32} {u p : Nat} {k n : Int32} (h : en_Pl K N u k n p) (z : ¬ en_At K N u k n p) (hs : en_S K N u) : ∀ i, p ≤ i → i < u → en_k k n < en_k (K i) (N i) := by
  intro i a b
  have h1 := h.2.2 i a b
  by_cases e : en_k k n = en_k (K i) (N i)
  · have h2 := h.2.2 p (Nat.le_refl _) (by omega)
    have h3 := en_Sle hs b a
    have e2 : en_k (K p) (N p) = en_k k n := by omega
    obtain ⟨x, y⟩ := en_inj e2
    exact absurd ⟨by omega, x, y⟩ z
  · omega
theorem en_NatX {K N : Nat → Int32} {u p : Nat} {k n : Int32} (h : en_Pl K N u k n p) (z : ¬ en_At K N u k n p) (hs : en_S K N u) : ∀ i, i < u → ¬ (K i = k ∧ N i = n) := by
  rintro i hi ⟨a, b⟩
  by_cases c : i < p
  · have := h.2.1 i c
    rw [a, b] at this
    omega
  · have := en_Nat h z hs i (by omega) hi
    rw [a, b] at this
    omega
theorem en_AtX {K N : Nat → Int32} {u p : Nat} {k n : Int32} (h : en_At K N u k n p) (hs : en_S K N u) : (∀ i, i < p + 1 → ¬ en_k k n < en_k (K i) (N i)) ∧ (∀ i, p + 1 ≤ i → i < u → en_k k n < en_k (K i) (N i)) := by
  obtain ⟨h1, rfl, rfl⟩ := h
  refine ⟨fun i hi => ?_, fun i a b => hs p i (by omega) b⟩
  have := en_Sle hs h1 (show i ≤ p by omega)
  omega
theorem en_NatL {K N : Nat → Int32} {u p : Nat} {k n : Int32} (h : en_Pl K N u k n p) : ∀ i, i < p → ¬ en_k k n < en_k (K i) (N i) := by
  intro i hi
  have := h.2.1 i hi
  omega
/-- what the search for the least key with Z has found among the first i -/
def en_M (Z : Int → Prop) (K N : Nat → Int32) (i : Nat) (r : Int32) : Prop := (r = -1 ∧ ∀ j, j < i → ¬ Z (en_k (K j) (N j))) ∨ ∃ b, b < i ∧ r = nI b ∧ Z (en_k (K b) (N b)) ∧ ∀ j, j < i → Z (en_k (K j) (N j)) → en_k (K b) (N b) ≤ en_k (K j) (N j)
theorem en_M0 (Z : Int → Prop) (K N : Nat → Int32) : en_M Z K N 0 (-1) := Or.inl ⟨rfl, fun _ h => absurd h (Nat.not_lt_zero _)⟩
theorem en_Mn {Z : Int → Prop} {K N : Nat → Int32} {i : Nat} {r : Int32} (h : en_M Z K N i r) (c : ¬ Z (en_k (K i) (N i))) : en_M Z K N (i + 1) r := by
  rcases h with ⟨e, h⟩ | ⟨b, hb, e, z, h⟩
  · refine Or.inl ⟨e, fun j hj => ?_⟩
    by_cases q : j = i
    · subst q; exact c
    · exact h j (by omega)
  · refine Or.inr ⟨b, by omega, e, z, fun j hj zj => ?_⟩
    by_cases q : j = i
    · subst q; exact absurd zj c
    · exact h j (by omega) zj
theorem en_Mf {Z : Int → Prop} {K N : Nat → Int32} {i : Nat} (h : en_M Z K N i (-1)) (hi : i ≤ 32) (c : Z (en_k (K i) (N i))) : en_M Z K N (i + 1) (nI i) := by
  rcases h with ⟨e, h⟩ | ⟨b, hb, e, z, h⟩
  · refine Or.inr ⟨i, by omega, rfl, c, fun j hj zj => ?_⟩
    by_cases q : j = i
    · subst q; omega
    · exact absurd zj (h j (by omega))
  · have := nI_pos (n := b) (by omega)
    rw [← e] at this
    exact absurd (by decide) this
theorem en_Mb {Z : Int → Prop} {K N : Nat → Int32} {i b : Nat} (h : en_M Z K N i (nI b)) (hi : i ≤ 32) (hb : b < i) (c : Z (en_k (K i) (N i))) (l : en_k (K i) (N i) < en_k (K b) (N b)) : en_M Z K N (i + 1) (nI i) := by
  rcases h with ⟨e, h⟩ | ⟨b', hb', e, z, h⟩
  · have := nI_pos (n := b) (by omega)
    rw [e] at this
    exact absurd (by decide) this
  · have : b = b' := (nI_eq (by omega) (by omega)).mp e
    subst this
    refine Or.inr ⟨i, by omega, rfl, c, fun j hj zj => ?_⟩
    by_cases q : j = i
    · subst q; omega
    · have := h j (by omega) zj
      omega
theorem en_Mk {Z : Int → Prop} {K N : Nat → Int32} {i b : Nat} (h : en_M Z K N i (nI b)) (hi : i ≤ 32) (hb : b < i) (l : ¬ en_k (K i) (N i) < en_k (K b) (N b)) : en_M Z K N (i + 1) (nI b) := by
  rcases h with ⟨e, h⟩ | ⟨b', hb', e, z, h⟩
  · have := nI_pos (n := b) (by omega)
    rw [e] at this
    exact absurd (by decide) this
  · have : b = b' := (nI_eq (by omega) (by omega)).mp e
    subst this
    refine Or.inr ⟨b, by omega, rfl, z, fun j hj zj => ?_⟩
    by_cases q : j = i
    · subst q; omega
    · exact h j (by omega) zj
/-- the least key after is the one at q -/
theorem en_nx {Z : Int → Prop} {u q : Nat} {K N V K' N' V' : Nat → Int32} {r : Int32} (h : en_R u K N V K' N' V') (hq : q ≤ u) (lo : ∀ i, i < q → ¬ Z (en_k (K i) (N i))) (hi : ∀ i, q ≤ i → i < u → Z (en_k (K i) (N i))) (m : en_M Z K' N' u r) : (q = u ∧ r = -1) ∨ (q < u ∧ ∃ b, b < u ∧ r = nI b ∧ K' b = K q ∧ N' b = N q ∧ V' b = V q) := by
  rcases m with ⟨e, m⟩ | ⟨b, hb, e, z, m⟩
  · refine Or.inl ⟨?_, e⟩
    by_cases c : q = u
    · exact c
    · have c' : q < u := by omega
      obtain ⟨j, hj, e1, e2, _⟩ := en_Rx h c'
      have := m j hj
      rw [e1, e2] at this
      exact absurd (hi q (Nat.le_refl _) c') this
  · obtain ⟨i, hi', e1, e2, e3⟩ := en_Ry h hb
    have c1 : ¬ i < q := fun l => lo i l (by rw [e1, e2]; exact z)
    have c' : q < u := by omega
    obtain ⟨j, hj, f1, f2, _⟩ := en_Rx h c'
    have l := m j hj (by rw [f1, f2]; exact hi q (Nat.le_refl _) c')
    rw [f1, f2, ← e1, ← e2] at l
    have c2 : ¬ q < i := fun l' => by
      have := h.1 q i l' hi'
      omega
    have : i = q := by omega
    subst this
    exact Or.inr ⟨c', b, hb, e, e1.symm, e2.symm, e3.symm⟩

/-- a step of a shift to the right, of one to the left -/
def en_Rs (A A' : Nat → Int32) (u t : Nat) : Prop := (∀ i, i ≤ t → A' i = A i) ∧ (∀ i, t ≤ i → i < u → A' (i + 1) = A i)
theorem en_Rs0 (A : Nat → Int32) (u : Nat) : en_Rs A A u u := ⟨fun _ _ => rfl, fun i a b => absurd b (by omega)⟩
theorem en_RsS {A A' : Nat → Int32} {u t : Nat} (h : en_Rs A A' u (t + 1)) : en_Rs A (upd A' (t + 1) (A' t)) u t := by
  refine ⟨fun i hi => ?_, fun i a b => ?_⟩
  · rw [pk_un (by omega)]
    exact h.1 i (by omega)
  · by_cases c : i = t
    · subst c
      rw [pk_us]
      exact h.1 i (by omega)
    · rw [pk_un (by omega)]
      exact h.2 i (by omega) b
theorem en_RsE {A A' : Nat → Int32} {u p : Nat} (h : en_Rs A A' u p) (x : Int32) : en_Ins p u A (upd A' p x) x :=
  ⟨fun i hi => by rw [pk_un (by omega)]; exact h.1 i (by omega), pk_us, fun i a b => by rw [pk_un (by omega)]; exact h.2 i a b⟩
theorem en_End (A : Nat → Int32) (u : Nat) (x : Int32) : en_Ins u u A (upd A u x) x := en_RsE (en_Rs0 A u) x
def en_Ls' (A A' : Nat → Int32) (p t : Nat) : Prop := (∀ i, i < p → A' i = A i) ∧ (∀ i, p ≤ i → i < t → A' i = A (i + 1)) ∧ (∀ i, t ≤ i → A' i = A i)
theorem en_Ls0 (A : Nat → Int32) (p : Nat) : en_Ls' A A p p := ⟨fun _ _ => rfl, fun i a b => absurd b (by omega), fun _ _ => rfl⟩
theorem en_LsS {A A' : Nat → Int32} {p t : Nat} (hp : p ≤ t) (h : en_Ls' A A' p t) : en_Ls' A (upd A' t (A' (t + 1))) p (t + 1) := by
  refine ⟨fun i hi => ?_, fun i a b => ?_, fun i a => ?_⟩
  · rw [pk_un (by omega)]
    exact h.1 i hi
  · by_cases c : i = t
    · subst c
      rw [pk_us]
      exact h.2.2 (i + 1) (by omega)
    · rw [pk_un (by omega)]
      exact h.2.1 i a (by omega)
  · rw [pk_un (by omega)]
    exact h.2.2 i (by omega)
theorem en_LsE {A A' : Nat → Int32} {p u : Nat} (h : en_Ls' A A' p (u - 1)) : en_Del p u A A' := ⟨h.1, fun i a b => h.2.1 i a (by omega)⟩
end
section
section
variable {cc u sn pn : Nat} {rk rv : Int32} {K N V nm nl pd : Nat → Int32}
theorem sy_ix (a i : Nat) : nI a * 8 + nI i = nI (a * 8 + i) := by
  rw [show (8 : Int32) = nI 8 from rfl, pk_mul, nI_add]
theorem en_Plx {K N : Nat → Int32} {k n : Int32} : ∀ {u : Nat}, en_S K N u → ∃ p, en_Pl K N u k n p := by
  intro u hs
  have : ∀ d i, i + d = u → (∀ j, j < i → en_k (K j) (N j) < en_k k n) → ∃ p, en_Pl K N u k n p := by
    intro d
    induction d with
    | zero => intro i hi h; exact ⟨i, en_PlI hs (by omega) h (fun z => absurd z (by omega))⟩
    | succ d ih =>
      intro i hi h
      by_cases c : en_k (K i) (N i) < en_k k n
      · refine ih (i + 1) (by omega) (fun j hj => ?_)
        by_cases e : j = i
        · subst e; exact c
        · exact h j (by omega)
      · exact ⟨i, en_PlI hs (by omega) h (fun _ => c)⟩
  exact this u 0 (by omega) (fun j hj => absurd hj (by omega))
theorem xb_isBefore {i : Nat} {k n : Int32} {post : Int32 → Prop} (hi : i < 32) (h1 : en_k (K i) (N i) < en_k k n → post 1) (h0 : ¬ en_k (K i) (N i) < en_k k n → post 0) : wpX_isBefore post (nI cc, nI u, nI sn, nI pn, rk, rv, K, N, V, nm, nl, pd) (nI i) k n := by
  unfold wpX_isBefore
  refine ⟨vp_in_nI hi (by omega), ?_⟩
  rw [nI_clamp (show i < 2 ^ 31 by omega)]
  refine br_c (fun a => ⟨vp_in_nI hi (by omega), ?_⟩) (fun a => ⟨vp_in_nI hi (by omega), ?_⟩)
  · have q : en_k (K i) (N i) < en_k k n ↔ ¬ n ≤ N i := by rw [a, en_ltE, Int32.not_le]
    exact br_c (fun b => h0 (fun z => q.mp z b)) (fun b => h1 (q.mpr b))
  · have q : en_k (K i) (N i) < en_k k n ↔ ¬ k ≤ K i := by rw [en_ltN _ _ a, Int32.not_le]
    exact br_c (fun b => h0 (fun z => q.mp z b)) (fun b => h1 (q.mpr b))
theorem xb_placeOf {k n : Int32} {p : Nat} {post : Int32 → Prop} (hu : u ≤ 32) (h : en_Pl K N u k n p) (H : post (nI p)) : wpX_placeOf post (nI cc, nI u, nI sn, nI pn, rk, rv, K, N, V, nm, nl, pd) k n := by
  obtain ⟨h1, h2, h3⟩ := h
  exact pk_loop (σ := Unit) (fun f i _ => wX_placeOf_2 post k n (nI cc) (nI u) (nI sn) (nI pn) rk rv K N V nm nl pd f (nI i)) (fun _ _ => True) p 0 () (Nat.zero_le _) trivial
    (fun f _ _ => pk_le u p (fun _ => H) (fun z => xb_isBefore (by omega) (fun q => absurd q (by have := h3 p (Nat.le_refl _) z; omega)) (fun _ => br_t rfl H)))
    (fun f i _ hi _ hw => pk_le u i (fun z => absurd z (by omega)) (fun z => xb_isBefore (by omega) (fun _ => br_f (by decide) (nm_r (nI_1 i) (hw () trivial))) (fun q => absurd (h2 i hi) q)))
theorem xb_isAt {k n : Int32} {p : Nat} {post : Int32 → Prop} (hp : p ≤ u) (hu : u ≤ 32) (h1 : en_At K N u k n p → post 1) (h0 : ¬ en_At K N u k n p → post 0) : wpX_isAt post (nI cc, nI u, nI sn, nI pn, rk, rv, K, N, V, nm, nl, pd) (nI p) k n := by
  unfold wpX_isAt
  rw [nI_clamp (show p < 2 ^ 31 by omega)]
  refine pk_le u p (fun z => h0 (fun a => absurd a.1 (by omega))) (fun z => ⟨vp_in_nI (by omega) (by omega), br_c (fun a => ⟨vp_in_nI (by omega) (by omega), br_c (fun b => h1 ⟨z, a, b⟩) (fun b => h0 (fun q => b q.2.2))⟩) (fun a => h0 (fun q => a q.2.1))⟩)
/-- a key that the calls take -/
def en_Va (sn : Nat) (k n : Int32) : Prop := k = 0 ∨ (k = 1 ∧ ∃ j, j < sn ∧ n = nI j)
theorem xb_isSymbol {n : Int32} {post : Int32 → Prop} (hs : sn ≤ 16) (h1 : (∃ j, j < sn ∧ n = nI j) → post 1) (h0 : ¬ (∃ j, j < sn ∧ n = nI j) → post 0) : wpX_isSymbol post (nI cc, nI u, nI sn, nI pn, rk, rv, K, N, V, nm, nl, pd) n := by
  unfold wpX_isSymbol
  refine br_c (fun a => h0 ?_) (fun a => ?_)
  · rintro ⟨j, hj, rfl⟩
    exact absurd a (nI_pos (by omega))
  · obtain ⟨j, hj, rfl⟩ := nI_of a
    refine pk_le sn j (fun z => h0 ?_) (fun z => h1 ⟨j, z, rfl⟩)
    rintro ⟨i, hi, e⟩
    have := (nI_eq hj (by omega)).mp e
    omega
theorem xb_isValid {k n : Int32} {post : Int32 → Prop} (hs : sn ≤ 16) (h1 : en_Va sn k n → post 1) (h0 : ¬ en_Va sn k n → post 0) : wpX_isValid post (nI cc, nI u, nI sn, nI pn, rk, rv, K, N, V, nm, nl, pd) k n := by
  unfold wpX_isValid
  refine br_c (fun a => xb_isSymbol hs (fun h => ⟨rfl, h1 (Or.inr ⟨a, h⟩)⟩) (fun h => ⟨rfl, h0 ?_⟩)) (fun a => br_c (fun b => h1 (Or.inl b)) (fun b => h0 ?_))
  · rintro (z | z)
    · rw [a] at z; exact absurd z (by decide)
    · exact h z.2
  · rintro (z | z)
    · exact b z
    · exact a z.1
theorem xb_move {a b : Nat} {x y : Int32} {post : St2 → Prop} (hx : x = nI a) (hy : y = nI b) (ha : a < 32) (hb : b < 32) (H : post (nI cc, nI u, nI sn, nI pn, rk, rv, upd K b (K a), upd N b (N a), upd V b (V a), nm, nl, pd)) : wpX_moveEntry post (nI cc, nI u, nI sn, nI pn, rk, rv, K, N, V, nm, nl, pd) x y := by
  subst hx hy
  unfold wpX_moveEntry
  rw [nI_clamp (show a < 2 ^ 31 by omega), nI_clamp (show b < 2 ^ 31 by omega)]
  exact ⟨vp_in_nI ha (by omega), vp_in_nI hb (by omega), nm_e ⟨vp_in_nI ha (by omega), vp_in_nI hb (by omega), nm_e ⟨vp_in_nI ha (by omega), vp_in_nI hb (by omega), nm_e H⟩⟩⟩
theorem xb_removeL {p : Nat} (hu : u ≤ 32) (hu0 : 0 < u) : ∀ d t, p ≤ t → t + d + 1 = u → ∀ A B C : Nat → Int32, en_Ls' K A p t → en_Ls' N B p t → en_Ls' V C p t → ∃ A' B' C' : Nat → Int32, en_Del p u K A' ∧ en_Del p u N B' ∧ en_Del p u V C' ∧ ∀ post : St2 → Prop, post (nI cc, nI (u - 1), nI sn, nI pn, rk, rv, A', B', C', nm, nl, pd) → wX_removeAt_2 post (d + 1) (nI t) (nI cc) (nI u) (nI sn) (nI pn) rk rv A B C nm nl pd := by
  have e1 : nI u - 1 = nI (u - 1) := by
    obtain ⟨w, rfl⟩ : ∃ w, u = w + 1 := ⟨u - 1, by omega⟩
    exact nI_pred w
  intro d
  induction d with
  | zero =>
    intro t hp ht A B C a b c
    have e : t = u - 1 := by omega
    subst e
    refine ⟨A, B, C, en_LsE a, en_LsE b, en_LsE c, fun post H => ?_⟩
    exact br_t (by rw [e1]; exact nI_le (Nat.le_refl _) (by omega)) (nm_r e1 H)
  | succ d ih =>
    intro t hp ht A B C a b c
    obtain ⟨A', B', C', a', b', c', h⟩ := ih (t + 1) (by omega) (by omega) _ _ _ (en_LsS hp a) (en_LsS hp b) (en_LsS hp c)
    refine ⟨A', B', C', a', b', c', fun post H => ?_⟩
    exact br_f (by rw [e1]; exact nI_ge (by omega) (by omega)) (xb_move (nI_1 t) rfl (by omega) (by omega) (nm_r (nI_1 t) (h post H)))
theorem xb_removeAt {p : Nat} (hp : p < u) (hu : u ≤ 32) : ∃ A B C : Nat → Int32, en_Del p u K A ∧ en_Del p u N B ∧ en_Del p u V C ∧ ∀ post : St2 → Prop, post (nI cc, nI (u - 1), nI sn, nI pn, rk, rv, A, B, C, nm, nl, pd) → wpX_removeAt post (nI cc, nI u, nI sn, nI pn, rk, rv, K, N, V, nm, nl, pd) (nI p) := by
  obtain ⟨A, B, C, a, b, c, h⟩ := xb_removeL (cc := cc) (sn := sn) (pn := pn) (rk := rk) (rv := rv) (K := K) (N := N) (V := V) (nm := nm) (nl := nl) (pd := pd) hu (by omega) (u - 1 - p) p (Nat.le_refl _) (by omega) K N V (en_Ls0 K p) (en_Ls0 N p) (en_Ls0 V p)
  exact ⟨A, B, C, a, b, c, fun post H => ⟨_, h post H⟩⟩
theorem xb_insertL {p : Nat} (k n v : Int32) (hp : p ≤ u) (hu : u < 32) : ∀ d t, t = p + d → t ≤ u → ∀ A B C : Nat → Int32, en_Rs K A u t → en_Rs N B u t → en_Rs V C u t → ∃ A' B' C' : Nat → Int32, en_Ins p u K A' k ∧ en_Ins p u N B' n ∧ en_Ins p u V C' v ∧ ∀ post : St2 → Prop, post (nI cc, nI (u + 1), nI sn, nI pn, rk, rv, A', B', C', nm, nl, pd) → wX_insertAt_6 post (nI p) k n v (d + 1) (nI t) (nI cc) (nI u) (nI sn) (nI pn) rk rv A B C nm nl pd := by
  intro d
  induction d with
  | zero =>
    intro t ht htu A B C a b c
    have e : t = p := by omega
    subst e
    refine ⟨_, _, _, en_RsE a k, en_RsE b n, en_RsE c v, fun post H => ?_⟩
    have i : vp_in (nI t) 32 := vp_in_nI (by omega) (by omega)
    refine br_t (nI_le (Nat.le_refl _) (by omega)) ⟨i, ?_⟩
    rw [nI_clamp (show t < 2 ^ 31 by omega)]
    exact nm_e ⟨i, nm_e ⟨i, nm_e (nm_r (nI_1 u) H)⟩⟩
  | succ d ih =>
    intro t ht htu A B C a b c
    obtain ⟨w, rfl⟩ : ∃ w, t = w + 1 := ⟨t - 1, by omega⟩
    obtain ⟨A', B', C', a', b', c', h⟩ := ih w (by omega) (by omega) _ _ _ (en_RsS a) (en_RsS b) (en_RsS c)
    refine ⟨A', B', C', a', b', c', fun post H => ?_⟩
    exact br_f (nI_ge (by omega) (by omega)) (xb_move (nI_pred w) rfl (by omega) (by omega) (nm_r (pk_m1 w) (h post H)))
theorem xb_insertAt {p : Nat} (k n v : Int32) (hp : p ≤ u) (hu : u < 32) : ∃ A B C : Nat → Int32, en_Ins p u K A k ∧ en_Ins p u N B n ∧ en_Ins p u V C v ∧ ∀ post : St2 → Prop, post (nI cc, nI (u + 1), nI sn, nI pn, rk, rv, A, B, C, nm, nl, pd) → wpX_insertAt post (nI cc, nI u, nI sn, nI pn, rk, rv, K, N, V, nm, nl, pd) (nI p) k n v := by
  obtain ⟨A, B, C, a, b, c, h⟩ := xb_insertL (cc := cc) (sn := sn) (pn := pn) (rk := rk) (rv := rv) (K := K) (N := N) (V := V) (nm := nm) (nl := nl) (pd := pd) k n v hp hu (u - p) u (by omega) (Nat.le_refl _) K N V (en_Rs0 K u) (en_Rs0 N u) (en_Rs0 V u)
  exact ⟨A, B, C, a, b, c, fun post H => ⟨_, h post H⟩⟩
theorem xs_del {k n : Int32} {p : Nat} (hs : sn ≤ 16) (hu : u ≤ 32) (va : en_Va sn k n) (h : en_Pl K N u k n p) (a : en_At K N u k n p) : ∃ A B C : Nat → Int32, en_Del p u K A ∧ en_Del p u N B ∧ en_Del p u V C ∧ ∀ post : Int32 → St2 → Prop, post 1 (nI cc, nI (u - 1), nI sn, nI pn, rk, rv, A, B, C, nm, nl, pd) → wpX_set post (nI cc, nI u, nI sn, nI pn, rk, rv, K, N, V, nm, nl, pd) k n 0 := by
  obtain ⟨A, B, C, q1, q2, q3, R⟩ := xb_removeAt (cc := cc) (sn := sn) (pn := pn) (rk := rk) (rv := rv) (K := K) (N := N) (V := V) (nm := nm) (nl := nl) (pd := pd) a.1 hu
  refine ⟨A, B, C, q1, q2, q3, fun post H => ?_⟩
  unfold wpX_set
  refine xb_isValid hs (fun _ => br_f (by decide) ?_) (fun z => absurd va z)
  refine xb_placeOf hu h ?_
  refine xb_isAt h.1 hu (fun _ => ?_) (fun z => absurd a z)
  exact br_t rfl (br_f (by decide) (R _ H))
theorem xs_upd {k n v : Int32} {p : Nat} {post : Int32 → St2 → Prop} (hs : sn ≤ 16) (hu : u ≤ 32) (va : en_Va sn k n) (h : en_Pl K N u k n p) (a : en_At K N u k n p) (v0 : ¬ v = 0) (H : post 1 (nI cc, nI u, nI sn, nI pn, rk, rv, K, N, upd V p v, nm, nl, pd)) : wpX_set post (nI cc, nI u, nI sn, nI pn, rk, rv, K, N, V, nm, nl, pd) k n v := by
  have hp := a.1
  unfold wpX_set
  refine xb_isValid hs (fun _ => br_f (by decide) ?_) (fun z => absurd va z)
  refine xb_placeOf hu h ?_
  refine xb_isAt h.1 hu (fun _ => ?_) (fun z => absurd a z)
  exact br_f v0 (br_f (by decide) ⟨vp_in_nI (by omega) (by omega), nm_r (by rw [nI_clamp (by omega)]) H⟩)
theorem xs_keep {k n : Int32} {p : Nat} {post : Int32 → St2 → Prop} (hs : sn ≤ 16) (hu : u ≤ 32) (va : en_Va sn k n) (h : en_Pl K N u k n p) (a : ¬ en_At K N u k n p) (H : post 1 (nI cc, nI u, nI sn, nI pn, rk, rv, K, N, V, nm, nl, pd)) : wpX_set post (nI cc, nI u, nI sn, nI pn, rk, rv, K, N, V, nm, nl, pd) k n 0 := by
  unfold wpX_set
  refine xb_isValid hs (fun _ => br_f (by decide) ?_) (fun z => absurd va z)
  refine xb_placeOf hu h ?_
  refine xb_isAt h.1 hu (fun z => absurd z a) (fun _ => ?_)
  exact br_t rfl (br_t rfl H)
theorem xs_full {k n v : Int32} {p : Nat} {post : Int32 → St2 → Prop} (hs : sn ≤ 16) (hu : u ≤ 32) (va : en_Va sn k n) (h : en_Pl K N u k n p) (a : ¬ en_At K N u k n p) (v0 : ¬ v = 0) (f : cc ≤ u) (H : post 0 (nI cc, nI u, nI sn, nI pn, rk, rv, K, N, V, nm, nl, pd)) : wpX_set post (nI cc, nI u, nI sn, nI pn, rk, rv, K, N, V, nm, nl, pd) k n v := by
  unfold wpX_set
  refine xb_isValid hs (fun _ => br_f (by decide) ?_) (fun z => absurd va z)
  refine xb_placeOf hu h ?_
  refine xb_isAt h.1 hu (fun z => absurd z a) (fun _ => ?_)
  exact br_f v0 (br_t rfl (br_f (nI_nlt f (by omega)) H))
theorem xs_ins {k n v : Int32} {p : Nat} (hs : sn ≤ 16) (hu : u ≤ 32) (va : en_Va sn k n) (h : en_Pl K N u k n p) (a : ¬ en_At K N u k n p) (v0 : ¬ v = 0) (f : u < cc) (hc : cc ≤ 32) : ∃ A B C : Nat → Int32, en_Ins p u K A k ∧ en_Ins p u N B n ∧ en_Ins p u V C v ∧ ∀ post : Int32 → St2 → Prop, post 1 (nI cc, nI (u + 1), nI sn, nI pn, rk, rv, A, B, C, nm, nl, pd) → wpX_set post (nI cc, nI u, nI sn, nI pn, rk, rv, K, N, V, nm, nl, pd) k n v := by
  obtain ⟨A, B, C, q1, q2, q3, R⟩ := xb_insertAt (cc := cc) (sn := sn) (pn := pn) (rk := rk) (rv := rv) (K := K) (N := N) (V := V) (nm := nm) (nl := nl) (pd := pd) k n v h.1 (by omega)
  refine ⟨A, B, C, q1, q2, q3, fun post H => ?_⟩
  unfold wpX_set
  refine xb_isValid hs (fun _ => br_f (by decide) ?_) (fun z => absurd va z)
  refine xb_placeOf hu h ?_
  refine xb_isAt h.1 hu (fun z => absurd z a) (fun _ => ?_)
  exact br_f v0 (br_t rfl (br_t (nI_lt f (by omega)) (R _ H)))
theorem xs_inv {k n v : Int32} {post : Int32 → St2 → Prop} (hs : sn ≤ 16) (va : ¬ en_Va sn k n) (H : post 0 (nI cc, nI u, nI sn, nI pn, rk, rv, K, N, V, nm, nl, pd)) : wpX_set post (nI cc, nI u, nI sn, nI pn, rk, rv, K, N, V, nm, nl, pd) k n v := by
  unfold wpX_set
  exact xb_isValid hs (fun z => absurd z va) (fun _ => br_t rfl H)
theorem xg_get {k n : Int32} {post : Int32 → Prop} (hs : sn ≤ 16) (hu : u ≤ 32) (S : en_S K N u) (Hi : ¬ en_Va sn k n → post 0) (H1 : en_Va sn k n → ∀ i, i < u → K i = k → N i = n → post (V i)) (H0 : en_Va sn k n → (∀ i, i < u → ¬ (K i = k ∧ N i = n)) → post 0) : wpX_get post (nI cc, nI u, nI sn, nI pn, rk, rv, K, N, V, nm, nl, pd) k n := by
  obtain ⟨p, h⟩ := en_Plx (k := k) (n := n) S
  have hp := h.1
  unfold wpX_get
  refine xb_isValid hs (fun va => br_f (by decide) ?_) (fun z => br_t rfl (Hi z))
  refine xb_placeOf hu h ?_
  refine xb_isAt hp hu (fun a => br_f (by decide) ⟨vp_in_nI (by have := a.1; omega) (by omega), ?_⟩) (fun a => br_t rfl (H0 va (en_NatX h a S)))
  rw [nI_clamp (show p < 2 ^ 31 by omega)]
  exact H1 va p a.1 a.2.1 a.2.2
theorem xl_length (hu : u ≤ 32) (S : en_S K N u) : ∃ b, en_B K N u b ∧ ∀ post : Int32 → Prop, post (nI b) → wpX_length post (nI cc, nI u, nI sn, nI pn, rk, rv, K, N, V, nm, nl, pd) := by
  have L : ∀ d p b, p + d = u → en_B K N p b → ∃ b', en_B K N u b' ∧ ∀ post : Int32 → Prop, post (nI b') → wX_length_4 post (nI cc) (nI u) (nI sn) (nI pn) rk rv K N V nm nl pd (d + 1) (nI b) (nI p) := by
    intro d
    induction d with
    | zero =>
      intro p b hp B
      have e : p = u := by omega
      subst e
      exact ⟨b, B, fun post H => br_t (nI_le (Nat.le_refl _) (by omega)) H⟩
    | succ d ih =>
      intro p b hp B
      have hb := B.1
      have i : vp_in (nI p) 32 := vp_in_nI (by omega) (by omega)
      have g : ¬ nI u ≤ nI p := nI_ge (by omega) (by omega)
      have cl : (nI p).toNatClampNeg = p := nI_clamp (by omega)
      by_cases c1 : K p = 0
      · by_cases c2 : N p = nI (b + 1)
        · obtain ⟨b', B', h⟩ := ih (p + 1) (b + 1) (by omega) (en_Bk S (by omega) hu B c1 c2)
          exact ⟨b', B', fun post H => br_f g ⟨i, br_t (by rw [cl]; exact c1) ⟨i, br_t (by rw [cl, nI_1]; exact c2) (nm_r (nI_1 b) (nm_r (nI_1 p) (h post H)))⟩⟩⟩
        · obtain ⟨b', B', h⟩ := ih (p + 1) b (by omega) (en_Bd B (fun z => c2 z.2))
          exact ⟨b', B', fun post H => br_f g ⟨i, br_t (by rw [cl]; exact c1) ⟨i, br_f (by rw [cl, nI_1]; exact c2) (nm_r (nI_1 p) (h post H))⟩⟩⟩
      · obtain ⟨b', B', h⟩ := ih (p + 1) b (by omega) (en_Bd B (fun z => c1 z.1))
        exact ⟨b', B', fun post H => br_f g ⟨i, br_f (by rw [cl]; exact c1) (nm_r (nI_1 p) (h post H))⟩⟩
  obtain ⟨b, B, h⟩ := L u 0 0 (by omega) (en_B0 K N)
  exact ⟨b, B, fun post H => ⟨_, h post H⟩⟩
theorem xr_some {q : Nat} {x : Int32} {post : Int32 → St2 → Prop} (hx : x = nI q) (hq : q < u) (hu : u ≤ 32) (H : post (K q) (nI cc, nI u, nI sn, nI pn, N q, V q, K, N, V, nm, nl, pd)) : wpX_recordAt post (nI cc, nI u, nI sn, nI pn, rk, rv, K, N, V, nm, nl, pd) x := by
  subst hx
  unfold wpX_recordAt
  have i : vp_in (nI q) 32 := vp_in_nI (by omega) (by omega)
  rw [nI_clamp (show q < 2 ^ 31 by omega)]
  exact br_t (nI_lt hq (by omega)) ⟨i, nm_e ⟨i, nm_e ⟨i, H⟩⟩⟩
theorem xr_none {x : Int32} {post : Int32 → St2 → Prop} (hx : x = nI u) (hu : u ≤ 32) (H : post 2 (nI cc, nI u, nI sn, nI pn, 0, 0, K, N, V, nm, nl, pd)) : wpX_recordAt post (nI cc, nI u, nI sn, nI pn, rk, rv, K, N, V, nm, nl, pd) x := by
  subst hx
  unfold wpX_recordAt
  exact br_f (nI_nlt (Nat.le_refl _) (by omega)) H
/-- next: the row falls in two at q -/
theorem xn_next {k n : Int32} (hs : sn ≤ 16) (hu : u ≤ 32) (S : en_S K N u) (va : k = 2 ∨ en_Va sn k n) : ∃ q, q ≤ u ∧ (∀ i, i < q → ¬ (k = 2 ∨ en_k k n < en_k (K i) (N i))) ∧ (∀ i, q ≤ i → i < u → (k = 2 ∨ en_k k n < en_k (K i) (N i))) ∧ ∀ (r : Int32) (w : St2), (∀ P : Int32 → St2 → Prop, P r w → wpX_recordAt P (nI cc, nI u, nI sn, nI pn, rk, rv, K, N, V, nm, nl, pd) (nI q)) → ∀ post : Int32 → St2 → Prop, post r w → wpX_next post (nI cc, nI u, nI sn, nI pn, rk, rv, K, N, V, nm, nl, pd) k n := by
  by_cases k2 : k = 2
  · refine ⟨0, Nat.zero_le _, fun i h => absurd h (by omega), fun _ _ _ => Or.inl k2, ?_⟩
    rintro r ⟨w1, w2, w3, w4, w5, w6, w7, w8, w9, w10, w11, w12⟩ R post H
    unfold wpX_next
    exact br_t k2 (R _ H)
  · have va' : en_Va sn k n := va.resolve_left k2
    obtain ⟨p, h⟩ := en_Plx (k := k) (n := n) S
    have hp := h.1
    by_cases a : en_At K N u k n p
    · have q := en_AtX a S
      refine ⟨p + 1, a.1, fun i hi z => q.1 i hi (z.resolve_left k2), fun i h1 h2 => Or.inr (q.2 i h1 h2), ?_⟩
      rintro r ⟨w1, w2, w3, w4, w5, w6, w7, w8, w9, w10, w11, w12⟩ R post H
      unfold wpX_next
      refine br_f k2 (xb_isValid hs (fun _ => br_f (by decide) ?_) (fun z => absurd va' z))
      refine xb_placeOf hu h ?_
      exact xb_isAt hp hu (fun _ => br_f (by decide) (nm_r (nI_1 p) (R _ H))) (fun z => absurd a z)
    · have q := en_Nat h a S
      refine ⟨p, hp, fun i hi z => en_NatL h i hi (z.resolve_left k2), fun i h1 h2 => Or.inr (q i h1 h2), ?_⟩
      rintro r ⟨w1, w2, w3, w4, w5, w6, w7, w8, w9, w10, w11, w12⟩ R post H
      unfold wpX_next
      refine br_f k2 (xb_isValid hs (fun _ => br_f (by decide) ?_) (fun z => absurd va' z))
      refine xb_placeOf hu h ?_
      exact xb_isAt hp hu (fun z => absurd z a) (fun _ => br_t rfl (R _ H))
theorem xn_inv {k n : Int32} {post : Int32 → St2 → Prop} (hs : sn ≤ 16) (va : ¬ (k = 2 ∨ en_Va sn k n)) (H : post (-1) (nI cc, nI u, nI sn, nI pn, rk, rv, K, N, V, nm, nl, pd)) : wpX_next post (nI cc, nI u, nI sn, nI pn, rk, rv, K, N, V, nm, nl, pd) k n := by
  unfold wpX_next
  exact br_f (fun z => va (Or.inl z)) (xb_isValid hs (fun z => absurd (Or.inr z) va) (fun _ => br_t rfl H))
theorem xp_purge (lim : Int32) (hu : u ≤ 32) : ∃ (w : Nat) (A B C : Nat → Int32), en_P lim K N V A B C u w ∧ ∀ post : Int32 → St2 → Prop, post (nI (u - w)) (nI cc, nI w, nI sn, nI pn, rk, rv, A, B, C, nm, nl, pd) → wpX_purgeBelow post (nI cc, nI u, nI sn, nI pn, rk, rv, K, N, V, nm, nl, pd) lim := by
  have L : ∀ d i w, i + d = u → ∀ A B C : Nat → Int32, en_P lim K N V A B C i w → ∃ (w' : Nat) (A' B' C' : Nat → Int32), en_P lim K N V A' B' C' u w' ∧ ∀ post : Int32 → St2 → Prop, post (nI (u - w')) (nI cc, nI w', nI sn, nI pn, rk, rv, A', B', C', nm, nl, pd) → wX_purgeBelow_10 post lim (nI u) (d + 1) (nI w) (nI i) (nI cc) (nI u) (nI sn) (nI pn) rk rv A B C nm nl pd := by
    intro d
    induction d with
    | zero =>
      intro i w hi A B C P
      have e : i = u := by omega
      subst e
      have hw := P.1
      exact ⟨w, A, B, C, P, fun post H => br_t (nI_le (Nat.le_refl _) (by omega)) (by rw [pk_sub hw]; exact H)⟩
    | succ d ih =>
      intro i w hi A B C P
      have hw := P.1
      have iv : vp_in (nI i) 32 := vp_in_nI (by omega) (by omega)
      have g : ¬ nI u ≤ nI i := nI_ge (by omega) (by omega)
      have cl : (nI i).toNatClampNeg = i := nI_clamp (by omega)
      by_cases c : lim ≤ C i
      · obtain ⟨w', A', B', C', P', h⟩ := ih (i + 1) (w + 1) (by omega) _ _ _ (en_Pk P c)
        exact ⟨w', A', B', C', P', fun post H => br_f g ⟨iv, br_f (by rw [cl, Int32.not_lt]; exact c) (xb_move rfl rfl (by omega) (by omega) (nm_r (nI_1 w) (nm_r (nI_1 i) (h post H))))⟩⟩
      · obtain ⟨w', A', B', C', P', h⟩ := ih (i + 1) w (by omega) _ _ _ (en_Pd P c)
        exact ⟨w', A', B', C', P', fun post H => br_f g ⟨iv, br_t (by rw [cl, ← Int32.not_le]; exact c) (nm_r (nI_1 i) (h post H))⟩⟩
  obtain ⟨w, A, B, C, P, h⟩ := L u 0 0 (by omega) K N V (en_P0 lim K N V)
  exact ⟨w, A, B, C, P, fun post H => ⟨_, h post H⟩⟩
end
end
section
section
variable {cc u sn pn : Nat} {rk rv : Int32} {K N V nm nl pd : Nat → Int32}
/-- the name of s is what is pending -/
def sy_E (nm nl pd : Nat → Int32) (pn s : Nat) : Prop := nl s = nI pn ∧ ∀ i, i < pn → nm (s * 8 + i) = pd i
theorem sy_ext {f : Nat → Prop} {i : Nat} (h : ∀ j, j < i → f j) (c : f i) : ∀ j, j < i + 1 → f j := by
  intro j hj
  by_cases e : j = i
  · subst e; exact c
  · exact h j (by omega)
theorem xy_isName {s : Nat} {post : Int32 → Prop} (hs : s < 16) (hp : pn ≤ 8) (h1 : sy_E nm nl pd pn s → post 1) (h0 : ¬ sy_E nm nl pd pn s → post 0) : wpX_isPendingName post (nI cc, nI u, nI sn, nI pn, rk, rv, K, N, V, nm, nl, pd) (nI s) := by
  unfold wpX_isPendingName
  refine ⟨vp_in_nI hs (by omega), ?_⟩
  rw [nI_clamp (show s < 2 ^ 31 by omega)]
  refine br_c (fun a => ?_) (fun a => h0 (fun z => a z.1))
  have L : ∀ d i, i + d = pn → (∀ j, j < i → nm (s * 8 + j) = pd j) → wX_isPendingName_17 post (nI s) (nI cc) (nI u) (nI sn) (nI pn) rk rv K N V nm nl pd (d + 1) (nI i) := by
    intro d
    induction d with
    | zero =>
      intro i hi h
      have e : i = pn := by omega
      subst e
      exact br_t (nI_le (Nat.le_refl _) (by omega)) (h1 ⟨a, h⟩)
    | succ d ih =>
      intro i hi h
      refine br_f (nI_ge (by omega) (by omega)) ?_
      rw [sy_ix, nI_clamp (show s * 8 + i < 2 ^ 31 by omega), nI_clamp (show i < 2 ^ 31 by omega)]
      refine ⟨vp_in_nI (by omega) (by omega), vp_in_nI (by omega) (by omega), br_c (fun c => nm_r (nI_1 i) (ih (i + 1) (by omega) (sy_ext (f := fun j => nm (s * 8 + j) = pd j) h c))) (fun c => h0 (fun z => c (z.2 i (by omega))))⟩
  exact ⟨_, L pn 0 (by omega) (fun j hj => absurd hj (by omega))⟩
theorem xy_some {s : Nat} {post : Int32 → Prop} (hn : sn ≤ 16) (hp : pn ≤ 8) (hs : s < sn) (E : sy_E nm nl pd pn s) (l : ∀ t, t < s → ¬ sy_E nm nl pd pn t) (H : post (nI s)) : wpX_findPending post (nI cc, nI u, nI sn, nI pn, rk, rv, K, N, V, nm, nl, pd) :=
  pk_loop (σ := Unit) (fun f i _ => wX_findPending_2 post (nI cc) (nI u) (nI sn) (nI pn) rk rv K N V nm nl pd f (nI i)) (fun _ _ => True) s 0 () (Nat.zero_le _) trivial
    (fun f _ _ => pk_le sn s (fun z => absurd z (by omega)) (fun _ => xy_isName (by omega) hp (fun _ => br_f (by decide) H) (fun z => absurd E z)))
    (fun f i _ hi _ hw => pk_le sn i (fun z => absurd z (by omega)) (fun _ => xy_isName (by omega) hp (fun z => absurd z (l i hi)) (fun _ => br_t rfl (nm_r (nI_1 i) (hw () trivial)))))
theorem xy_none {post : Int32 → Prop} (hn : sn ≤ 16) (hp : pn ≤ 8) (l : ∀ t, t < sn → ¬ sy_E nm nl pd pn t) (H : post (-1)) : wpX_findPending post (nI cc, nI u, nI sn, nI pn, rk, rv, K, N, V, nm, nl, pd) :=
  pk_loop (σ := Unit) (fun f i _ => wX_findPending_2 post (nI cc) (nI u) (nI sn) (nI pn) rk rv K N V nm nl pd f (nI i)) (fun _ _ => True) sn 0 () (Nat.zero_le _) trivial
    (fun f _ _ => pk_le sn sn (fun _ => H) (fun z => absurd z (by omega)))
    (fun f i _ hi _ hw => pk_le sn i (fun z => absurd z (by omega)) (fun _ => xy_isName (by omega) hp (fun z => absurd z (l i hi)) (fun _ => br_t rfl (nm_r (nI_1 i) (hw () trivial)))))
/-- the names with n characters of what is pending copied to b -/
def sy_cp (nm pd : Nat → Int32) (b : Nat) : Nat → (Nat → Int32)
  | 0 => nm
  | n + 1 => upd (sy_cp nm pd b n) (b + n) (vp_nar .char (pd n))
theorem xy_add {post : Int32 → St2 → Prop} (hn : sn < 16) (hp : pn ≤ 8) (H : post (nI sn) (nI cc, nI u, nI (sn + 1), nI pn, rk, rv, K, N, V, sy_cp nm pd (sn * 8) pn, upd nl sn (nI pn), pd)) : wpX_addPending post (nI cc, nI u, nI sn, nI pn, rk, rv, K, N, V, nm, nl, pd) := by
  have L : ∀ d i, i + d = pn → wX_addPending_7 post (nI sn) (nI cc) (nI u) (nI sn) (nI pn) rk rv (d + 1) (nI i) K N V (sy_cp nm pd (sn * 8) i) nl pd := by
    intro d
    induction d with
    | zero =>
      intro i hi
      have e : i = pn := by omega
      subst e
      exact br_t (nI_le (Nat.le_refl _) (by omega)) ⟨vp_in_nI hn (by omega), nm_r (by rw [nI_clamp (by omega)]) (nm_r (nI_1 sn) H)⟩
    | succ d ih =>
      intro i hi
      refine br_f (nI_ge (by omega) (by omega)) ?_
      rw [sy_ix, nI_clamp (show sn * 8 + i < 2 ^ 31 by omega), nI_clamp (show i < 2 ^ 31 by omega)]
      exact ⟨vp_in_nI (by omega) (by omega), vp_in_nI (by omega) (by omega), nm_e (nm_r (nI_1 i) (ih (i + 1) (by omega)))⟩
  exact ⟨_, L pn 0 (by omega)⟩
theorem en_least (P : Nat → Prop) : ∀ m, P m → ∃ k, k ≤ m ∧ P k ∧ ∀ j, j < k → ¬ P j := by
  intro m
  induction m using Nat.strongRecOn with
  | _ m ih =>
    intro h
    by_cases c : ∃ j, j < m ∧ P j
    · obtain ⟨j, hj, pj⟩ := c
      obtain ⟨k, hk, a, b⟩ := ih j hj pj
      exact ⟨k, by omega, a, b⟩
    · exact ⟨m, Nat.le_refl _, h, fun j hj pj => c ⟨j, hj, pj⟩⟩
end
end
section
/-- a key inside the probed ranges -/
def fr_Ky (sn : Nat) (k n : Int32) : Prop := (k = 0 ∧ -8 ≤ n.toInt ∧ n.toInt ≤ 50) ∨ (k = 1 ∧ ∃ j, j < sn ∧ n = nI j)
/-- every entry has a value and such a key -/
def fr_G (sn : Nat) (K N V : Nat → Int32) (u : Nat) : Prop := ∀ i, i < u → ¬ V i = 0 ∧ fr_Ky sn (K i) (N i)
def fr_I (cc u sn pn : Nat) (K N V : Nat → Int32) : Prop := u ≤ cc ∧ cc ≤ 32 ∧ sn ≤ 16 ∧ pn ≤ 8 ∧ en_S K N u ∧ fr_G sn K N V u
def fr_J (cc : Nat) (x : St2) : Prop := ∃ (u sn pn : Nat) (rk rv : Int32) (K N V nm nl pd : Nat → Int32), x = (nI cc, nI u, nI sn, nI pn, rk, rv, K, N, V, nm, nl, pd) ∧ fr_I cc u sn pn K N V
theorem fr_Va {sn : Nat} {k n : Int32} (h : fr_Ky sn k n) : en_Va sn k n := h.elim (fun z => Or.inl z.1) Or.inr
theorem fr_Kk {sn : Nat} {k n : Int32} (h : fr_Ky sn k n) : k = 0 ∨ k = 1 := h.elim (fun z => Or.inl z.1) (fun z => Or.inr z.1)
theorem fr_k2 {sn : Nat} {k n : Int32} (h : fr_Ky sn k n) : ¬ k = 2 := by
  rcases fr_Kk h with z | z
  · rw [z]; decide
  · rw [z]; decide
theorem fr_Kym {sn sn' : Nat} {k n : Int32} (hs : sn ≤ sn') (h : fr_Ky sn k n) : fr_Ky sn' k n := by
  rcases h with h | ⟨a, j, hj, e⟩
  · exact Or.inl h
  · exact Or.inr ⟨a, j, by omega, e⟩
theorem fr_t0 : (0 : Int32).toInt = 0 := by decide
theorem fr_t1 : (1 : Int32).toInt = 1 := by decide
theorem fr_k0 (n : Int32) : en_k 0 n = n.toInt := by
  unfold en_k
  rw [fr_t0]
  omega
theorem fr_k1 (n : Int32) : en_k 1 n = 4294967296 + n.toInt := by
  unfold en_k
  rw [fr_t1]
  omega
theorem fr_Gins {p u sn : Nat} {K N V A B C : Nat → Int32} {x y z : Int32} (h : fr_G sn K N V u) (hp : p ≤ u) (a : en_Ins p u K A x) (b : en_Ins p u N B y) (c : en_Ins p u V C z) (z0 : ¬ z = 0) (k : fr_Ky sn x y) : fr_G sn A B C (u + 1) := by
  intro i hi
  by_cases c1 : i < p
  · rw [a.1 i c1, b.1 i c1, c.1 i c1]
    exact h i (by omega)
  · by_cases c2 : i = p
    · subst c2
      rw [a.2.1, b.2.1, c.2.1]
      exact ⟨z0, k⟩
    · obtain ⟨j, rfl⟩ : ∃ j, i = j + 1 := ⟨i - 1, by omega⟩
      rw [a.2.2 j (by omega) (by omega), b.2.2 j (by omega) (by omega), c.2.2 j (by omega) (by omega)]
      exact h j (by omega)
theorem fr_Gdel {p u sn : Nat} {K N V A B C : Nat → Int32} (h : fr_G sn K N V u) (a : en_Del p u K A) (b : en_Del p u N B) (c : en_Del p u V C) : fr_G sn A B C (u - 1) := by
  intro i hi
  by_cases c1 : i < p
  · rw [a.1 i c1, b.1 i c1, c.1 i c1]
    exact h i (by omega)
  · rw [a.2 i (by omega) (by omega), b.2 i (by omega) (by omega), c.2 i (by omega) (by omega)]
    exact h (i + 1) (by omega)
theorem fr_Gupd {p u sn : Nat} {K N V : Nat → Int32} {z : Int32} (h : fr_G sn K N V u) (z0 : ¬ z = 0) : fr_G sn K N (upd V p z) u := by
  intro i hi
  refine ⟨?_, (h i hi).2⟩
  by_cases e : i = p
  · subst e
    rw [pk_us]
    exact z0
  · rw [pk_un e]
    exact (h i hi).1
theorem fr_P {lim : Int32} {K N V A B C : Nat → Int32} {u w sn : Nat} (S : en_S K N u) (G : fr_G sn K N V u) (p : en_P lim K N V A B C u w) : en_S A B w ∧ fr_G sn A B C w := by
  constructor
  · rw [en_Spw (V := C), p.2.2]
    exact (en_Spw.mp S).filter _
  · intro i hi
    have m : (A i, B i, C i) ∈ en_L A B C w := en_mem.mpr ⟨i, hi, rfl⟩
    rw [p.2.2] at m
    obtain ⟨j, hj, e⟩ := en_mem.mp (List.mem_filter.mp m).1
    simp only [Prod.mk.injEq] at e
    rw [e.1, e.2.1, e.2.2]
    exact G j hj
/-- how many entries stand ahead of z -/
def fr_Pl (K N : Nat → Int32) (u : Nat) (z : Int) (p : Nat) : Prop := p ≤ u ∧ (∀ i, i < p → en_k (K i) (N i) < z) ∧ (∀ i, p ≤ i → i < u → z ≤ en_k (K i) (N i))
theorem fr_Plp {K N : Nat → Int32} {u p i : Nat} {z : Int} (S : en_S K N u) (h : fr_Pl K N u z p) (hi : i < u) (e : en_k (K i) (N i) = z) : fr_Pl K N u (z + 1) (p + 1) := by
  obtain ⟨h1, h2, h3⟩ := h
  have c1 : ¬ i < p := fun l => by
    have := h2 i l
    omega
  have c2 : ¬ p < i := fun l => by
    have := S p i l hi
    have := h3 p (Nat.le_refl _) (by omega)
    omega
  have e' : i = p := by omega
  subst e'
  refine ⟨by omega, fun j hj => ?_, fun j a b => ?_⟩
  · by_cases z : j = i
    · subst z; omega
    · have := h2 j (by omega)
      omega
  · have := S i j (by omega) b
    omega
theorem fr_Pla {K N : Nat → Int32} {u p : Nat} {z : Int} (h : fr_Pl K N u z p) (e : ∀ i, i < u → ¬ en_k (K i) (N i) = z) : fr_Pl K N u (z + 1) p := by
  obtain ⟨h1, h2, h3⟩ := h
  refine ⟨h1, fun j hj => ?_, fun j a b => ?_⟩
  · have := h2 j hj
    omega
  · have := h3 j a b
    have := e j b
    omega
theorem fr_Pl0 {sn u : Nat} {K N V : Nat → Int32} (G : fr_G sn K N V u) (hs : sn ≤ 16) : fr_Pl K N u (-8) 0 := by
  refine ⟨Nat.zero_le _, fun i h => absurd h (by omega), fun i _ hi => ?_⟩
  rcases (G i hi).2 with ⟨a, b, _⟩ | ⟨a, j, hj, b⟩
  · rw [a, fr_k0]
    exact b
  · rw [a, b, fr_k1, nI_toInt (by omega)]
    omega
theorem fr_Pl1 {sn u p : Nat} {K N V : Nat → Int32} (G : fr_G sn K N V u) (hs : sn ≤ 16) (h : fr_Pl K N u 51 p) : fr_Pl K N u 4294967296 p := by
  obtain ⟨h1, h2, h3⟩ := h
  refine ⟨h1, fun j hj => ?_, fun i a hi => ?_⟩
  · have := h2 j hj
    omega
  · have q := h3 i a hi
    rcases (G i hi).2 with ⟨a, b, c⟩ | ⟨a, j, hj, b⟩
    · rw [a, fr_k0] at q
      omega
    · rw [a, b, fr_k1, nI_toInt (by omega)]
      omega
theorem fr_Pl2 {sn u p : Nat} {K N V : Nat → Int32} (G : fr_G sn K N V u) (hs : sn ≤ 16) (h : fr_Pl K N u 4294967312 p) : p = u := by
  obtain ⟨h1, h2, h3⟩ := h
  by_cases c : p < u
  · have q := h3 p (Nat.le_refl _) c
    rcases (G p c).2 with ⟨a, b, c⟩ | ⟨a, j, hj, b⟩
    · rw [a, fr_k0] at q
      omega
    · rw [a, b, fr_k1, nI_toInt (by omega)] at q
      omega
  · omega
theorem fr_8 {a : Nat} (h : a < 1000) : (nI a - 8).toInt = (a : Int) - 8 := pk_sub_toInt (a := a) (b := 8) (by omega) (by omega)
theorem fr_8s (a i : Nat) : nI a - 8 + nI i = nI (a + i) - 8 := by
  rw [← nI_add]
  grind
end
section
section
variable {cc u sn pn : Nat} {rk rv : Int32} {K N V nm nl pd : Nat → Int32}
theorem fr_mk {cc u sn pn : Nat} {rk rv : Int32} {K N V nm nl pd : Nat → Int32} (I : fr_I cc u sn pn K N V) : fr_J cc (nI cc, nI u, nI sn, nI pn, rk, rv, K, N, V, nm, nl, pd) := ⟨u, sn, pn, rk, rv, K, N, V, nm, nl, pd, rfl, I⟩
theorem fr_set {x : St2} {k n v : Int32} {post : Int32 → St2 → Prop} (J : fr_J cc x) (hk : k = 1 ∨ (k = 0 ∧ -8 ≤ n.toInt ∧ n.toInt ≤ 50)) (H : ∀ r x', fr_J cc x' → post r x') : wpX_set post x k n v := by
  have J0 := J
  obtain ⟨u, sn, pn, rk, rv, K, N, V, nm, nl, pd, rfl, hu, hc, hs, hp, S, G⟩ := J
  have hu' : u ≤ 32 := by omega
  by_cases va : en_Va sn k n
  · have ky : fr_Ky sn k n := by
      rcases hk with e | e
      · rcases va with z | z
        · rw [e] at z
          exact absurd z (by decide)
        · exact Or.inr z
      · exact Or.inl e
    obtain ⟨p, h⟩ := en_Plx (k := k) (n := n) S
    by_cases a : en_At K N u k n p
    · by_cases v0 : v = 0
      · subst v0
        obtain ⟨A, B, C, d1, d2, d3, hX⟩ := xs_del (cc := cc) (pn := pn) (rk := rk) (rv := rv) (V := V) (nm := nm) (nl := nl) (pd := pd) hs hu' va h a
        exact hX _ (H _ _ (fr_mk ⟨by omega, hc, hs, hp, en_Sdel S d1 d2, fr_Gdel G d1 d2 d3⟩))
      · exact xs_upd hs hu' va h a v0 (H _ _ (fr_mk ⟨hu, hc, hs, hp, S, fr_Gupd G v0⟩))
    · by_cases v0 : v = 0
      · subst v0
        exact xs_keep hs hu' va h a (H _ _ J0)
      · by_cases f : u < cc
        · obtain ⟨A, B, C, d1, d2, d3, hX⟩ := xs_ins (cc := cc) (pn := pn) (rk := rk) (rv := rv) (V := V) (nm := nm) (nl := nl) (pd := pd) hs hu' va h a v0 f hc
          exact hX _ (H _ _ (fr_mk ⟨by omega, hc, hs, hp, en_Sins S d1 d2 h.2.1 (en_Nat h a S) h.1, fr_Gins G h.1 d1 d2 d3 v0 ky⟩))
        · exact xs_full hs hu' va h a v0 (by omega) (H _ _ J0)
  · exact xs_inv hs va (H _ _ J0)
theorem fr_fill {x : St2} {a n : Nat} {v : Int32} {post : Int32 → St2 → Prop} (J : fr_J cc x) (ha : a < 48) (hn : n < 9) (H : ∀ r x', fr_J cc x' → post r x') : wpX_fill post x (nI a - 8) (nI n) v := by
  have L : ∀ d i, i + d = n → ∀ x : St2, fr_J cc x → wX_fill_15 post (nI a - 8) (nI n) v (d + 1) (nI i) x.1 x.2.1 x.2.2.1 x.2.2.2.1 x.2.2.2.2.1 x.2.2.2.2.2.1 x.2.2.2.2.2.2.1 x.2.2.2.2.2.2.2.1 x.2.2.2.2.2.2.2.2.1 x.2.2.2.2.2.2.2.2.2.1 x.2.2.2.2.2.2.2.2.2.2.1 x.2.2.2.2.2.2.2.2.2.2.2 := by
    intro d
    induction d with
    | zero =>
      intro i hi x J
      have e : i = n := by omega
      subst e
      obtain ⟨a1, a2, a3, a4, a5, a6, a7, a8, a9, a10, a11, a12⟩ := x
      exact br_t (nI_le (Nat.le_refl _) (by omega)) (H _ _ J)
    | succ d ih =>
      intro i hi x J
      obtain ⟨a1, a2, a3, a4, a5, a6, a7, a8, a9, a10, a11, a12⟩ := x
      refine br_f (nI_ge (by omega) (by omega)) (fr_set J (Or.inr ⟨rfl, ?_, ?_⟩) ?_)
      · rw [fr_8s, fr_8 (by omega)]
        omega
      · rw [fr_8s, fr_8 (by omega)]
        omega
      · rintro r ⟨b1, b2, b3, b4, b5, b6, b7, b8, b9, b10, b11, b12⟩ J'
        exact br_c (fun _ => H _ _ J') (fun _ => nm_r (nI_1 i) (ih (i + 1) (by omega) _ J'))
  have h := L n 0 (by omega) x J
  obtain ⟨a1, a2, a3, a4, a5, a6, a7, a8, a9, a10, a11, a12⟩ := x
  exact br_f (nI_pos (by omega)) (br_t (nI_le (b := 64) (by omega) (by omega)) ⟨_, h⟩)
theorem fr_append {x : St2} {v : Int32} {post : Int32 → St2 → Prop} (J : fr_J cc x) (H : ∀ r x', fr_J cc x' → post r x') : wpX_append post x v := by
  have J0 := J
  obtain ⟨u, sn, pn, rk, rv, K, N, V, nm, nl, pd, rfl, hu, hc, hs, hp, S, G⟩ := J
  refine br_c (fun _ => H _ _ J0) (fun _ => ?_)
  obtain ⟨b, B, hX⟩ := xl_length (cc := cc) (sn := sn) (pn := pn) (rk := rk) (rv := rv) (V := V) (nm := nm) (nl := nl) (pd := pd) (show u ≤ 32 by omega) S
  have hb := B.1
  refine hX _ (nm_r (nI_1 b) (fr_set J0 (Or.inr ⟨rfl, ?_, ?_⟩) ?_))
  · rw [nI_toInt (by omega)]
    omega
  · rw [nI_toInt (by omega)]
    omega
  · rintro r ⟨b1, b2, b3, b4, b5, b6, b7, b8, b9, b10, b11, b12⟩ J'
    exact br_c (fun _ => H _ _ J') (fun _ => H _ _ J')
theorem fr_purge {x : St2} {v : Int32} {post : Int32 → St2 → Prop} (J : fr_J cc x) (H : ∀ r x', fr_J cc x' → post r x') : wpX_purgeBelow post x v := by
  obtain ⟨u, sn, pn, rk, rv, K, N, V, nm, nl, pd, rfl, hu, hc, hs, hp, S, G⟩ := J
  obtain ⟨w, A, B, C, P, hX⟩ := xp_purge (cc := cc) (sn := sn) (pn := pn) (rk := rk) (rv := rv) (K := K) (N := N) (V := V) (nm := nm) (nl := nl) (pd := pd) v (show u ≤ 32 by omega)
  have hw := P.1
  have q := fr_P S G P
  exact hX _ (H _ _ (fr_mk ⟨by omega, hc, hs, hp, q.1, q.2⟩))
theorem fr_clear {x : St2} {post : St2 → Prop} (J : fr_J cc x) (H : ∀ x', fr_J cc x' → post x') : wpX_clear post x := by
  obtain ⟨u, sn, pn, rk, rv, K, N, V, nm, nl, pd, rfl, hu, hc, hs, hp, S, G⟩ := J
  exact H _ (fr_mk (u := 0) ⟨Nat.zero_le _, hc, hs, hp, en_S0 K N, fun i h => absurd h (by omega)⟩)
theorem fr_char {x : St2} {c : Int32} {post : Int32 → St2 → Prop} (J : fr_J cc x) (H : ∀ r x', fr_J cc x' → post r x') : wpX_symbolChar post x c := by
  have J0 := J
  obtain ⟨u, sn, pn, rk, rv, K, N, V, nm, nl, pd, rfl, hu, hc, hs, hp, S, G⟩ := J
  refine br_c (fun _ => H _ _ J0) (fun _ => br_c (fun _ => ?_) (fun _ => H _ _ J0))
  exact pk_lt pn 8 (fun z => ⟨vp_in_nI z (by omega), nm_e (nm_r (nI_1 pn) (H _ _ (fr_mk ⟨hu, hc, hs, by omega, S, G⟩)))⟩) (fun _ => H _ _ J0)
theorem fr_m1 {j : Nat} (hj : j < 2 ^ 31) : ¬ nI j = -1 := by
  intro z
  have := nI_pos hj
  rw [z] at this
  exact absurd (by decide) this
theorem fr_end {x : St2} {post : Int32 → St2 → Prop} (J : fr_J cc x) (H : ∀ r x', fr_J cc x' → post r x') : wpX_symbolEnd post x := by
  have J0 := J
  obtain ⟨u, sn, pn, rk, rv, K, N, V, nm, nl, pd, rfl, hu, hc, hs, hp, S, G⟩ := J
  have J1 : fr_J cc (nI cc, nI u, nI sn, 0, rk, rv, K, N, V, nm, nl, pd) := fr_mk (pn := 0) ⟨hu, hc, hs, by omega, S, G⟩
  refine br_c (fun _ => H _ _ J0) (fun _ => ?_)
  by_cases c : ∃ s, s < sn ∧ sy_E nm nl pd pn s
  · obtain ⟨s, hs', E⟩ := c
    obtain ⟨t, ht, E, l⟩ := en_least (sy_E nm nl pd pn) s E
    exact xy_some hs hp (by omega) E l (br_f (fr_m1 (by omega)) (H _ _ J1))
  · have l : ∀ t, t < sn → ¬ sy_E nm nl pd pn t := fun t ht z => c ⟨t, ht, z⟩
    refine xy_none hs hp l (br_t rfl ?_)
    by_cases f : sn = 16
    · exact br_t (nI_le (a := 16) (by omega) (by omega)) (H _ _ J1)
    · exact br_f (nI_ge (b := 16) (by omega) (by omega)) (xy_add (by omega) hp (H _ _ (fr_mk (pn := 0) (sn := sn + 1) ⟨hu, hc, by omega, by omega, S, fun i hi => ⟨(G i hi).1, fr_Kym (by omega) (G i hi).2⟩⟩)))
end
end
section
section
variable {cc u sn pn : Nat} {rk rv : Int32} {K N V nm nl pd : Nat → Int32}
theorem fg_get {k n : Int32} {post : Int32 → Prop} (hs : sn ≤ 16) (hu : u ≤ 32) (S : en_S K N u) (G : fr_G sn K N V u) (H1 : ∀ i, i < u → K i = k → N i = n → post (V i)) (H0 : (∀ i, i < u → ¬ (K i = k ∧ N i = n)) → post 0) : wpX_get post (nI cc, nI u, nI sn, nI pn, rk, rv, K, N, V, nm, nl, pd) k n := by
  refine xg_get hs hu S (fun va => H0 ?_) (fun _ => H1) (fun _ => H0)
  rintro i hi ⟨a, b⟩
  have := fr_Va (G i hi).2
  rw [a, b] at this
  exact va this
theorem fr_border {x : St2} {post : Int32 → Prop} (J : fr_J cc x) (H : post 1) : wpL_border post x (nI cc) := by
  obtain ⟨u, sn, pn, rk, rv, K, N, V, nm, nl, pd, rfl, hu, hc, hs, hp, S, G⟩ := J
  have hu' : u ≤ 32 := by omega
  obtain ⟨b, B, hX⟩ := xl_length (cc := cc) (sn := sn) (pn := pn) (rk := rk) (rv := rv) (V := V) (nm := nm) (nl := nl) (pd := pd) hu' S
  have hb := B.1
  have F : wL_border_41 post (nI b) (nI cc) (nI u) (nI sn) (nI pn) rk rv K N V nm nl pd := by
    unfold wL_border_41
    refine fg_get hs hu' S G (fun i hi a1 a2 => ?_) (fun _ => br_t rfl H)
    exact absurd ⟨a1, by rw [a2, nI_1]⟩ (B.2.2 i hi)
  unfold wpL_border
  refine hX _ (br_f (nI_pos (by omega)) (br_f (nI_nlt hb (by omega)) (br_t (nI_le hu (by omega)) (pk_eq b 0 (fun _ => F) (fun z => ?_)))))
  obtain ⟨i, hi, a1, a2⟩ := B.2.1 (b - 1) (by omega)
  rw [show b - 1 + 1 = b by omega] at a2
  exact fg_get hs hu' S G (fun j hj _ _ => br_f (G j hj).1 F) (fun l => absurd ⟨a1, a2⟩ (l i hi))
theorem fr_present {post : Int32 → Prop} (I : fr_I cc u sn pn K N V) (H : post (nI u)) : wpL_presentInRange post (nI cc, nI u, nI sn, nI pn, rk, rv, K, N, V, nm, nl, pd) := by
  obtain ⟨hu, hc, hs, hp, S, G⟩ := I
  have hu' : u ≤ 32 := by omega
  have L2 : ∀ d a p : Nat, a + d = 16 → fr_Pl K N u (4294967296 + (a : Int)) p → wL_presentInRange_31 post (nI cc) (nI u) (nI sn) (nI pn) rk rv K N V nm nl pd (d + 1) (nI p) (nI a) := by
    intro d
    induction d with
    | zero =>
      intro a p ha h
      have e : a = 16 := by omega
      subst e
      have e2 : p = u := fr_Pl2 G hs h
      rw [e2]
      exact br_t (nI_lt (a := 15) (by omega) (by omega)) H
    | succ d ih =>
      intro a p ha h
      have ez : (4294967296 : Int) + ((a + 1 : Nat) : Int) = 4294967296 + (a : Int) + 1 := by omega
      refine br_f (nI_nlt (b := a) (a := 15) (by omega) (by omega)) (fg_get hs hu' S G (fun i hi e1 e2 => ?_) (fun l => ?_))
      · refine br_f (G i hi).1 (nm_r (nI_1 p) (nm_r (nI_1 a) (ih (a + 1) (p + 1) (by omega) ?_)))
        rw [ez]
        refine fr_Plp S h hi ?_
        rw [e1, e2, fr_k1, nI_toInt (by omega)]
      · refine br_t rfl (nm_r (nI_1 a) (ih (a + 1) p (by omega) ?_))
        rw [ez]
        refine fr_Pla h (fun i hi q => l i hi (en_inj ?_))
        rw [q, fr_k1, nI_toInt (by omega)]
  have L1 : ∀ d a p : Nat, a + d = 59 → fr_Pl K N u ((a : Int) - 8) p → wL_presentInRange_5 post (nI cc) (nI u) (nI sn) (nI pn) rk rv K N V nm nl pd (d + 1) (nI p) (nI a - 8) := by
    intro d
    induction d with
    | zero =>
      intro a p ha h
      have e : a = 59 := by omega
      subst e
      refine br_t (by decide) ⟨17, L2 16 0 p rfl ?_⟩
      have e0 : (4294967296 : Int) + ((0 : Nat) : Int) = 4294967296 := by omega
      rw [e0]
      exact fr_Pl1 G hs h
    | succ d ih =>
      intro a p ha h
      have ez : ((a + 1 : Nat) : Int) - 8 = (a : Int) - 8 + 1 := by omega
      have g : ¬ (50 : Int32) < nI a - 8 := by
        rw [Int32.lt_iff_toInt_lt, fr_8 (by omega), show (50 : Int32).toInt = 50 from by decide]
        omega
      refine br_f g (fg_get hs hu' S G (fun i hi e1 e2 => ?_) (fun l => ?_))
      · refine br_f (G i hi).1 (nm_r (nI_1 p) (nm_r (fr_8s a 1) (ih (a + 1) (p + 1) (by omega) ?_)))
        rw [ez]
        refine fr_Plp S h hi ?_
        rw [e1, e2, fr_k0, fr_8 (by omega)]
      · refine br_t rfl (nm_r (fr_8s a 1) (ih (a + 1) p (by omega) ?_))
        rw [ez]
        refine fr_Pla h (fun i hi q => l i hi (en_inj ?_))
        rw [q, fr_k0, fr_8 (by omega)]
  exact ⟨_, L1 59 0 0 rfl (fr_Pl0 G hs)⟩
theorem fl_before {k1 n1 k2 n2 : Int32} {post : Int32 → Prop} (h : en_k k1 n1 < en_k k2 n2) (H : post 1) : wpL_before post () k1 n1 k2 n2 := by
  unfold wpL_before
  refine br_c (fun a => ?_) (fun a => ?_)
  · have q : en_k k1 n1 < en_k k2 n2 ↔ ¬ n2 ≤ n1 := by rw [a, en_ltE, Int32.not_le]
    exact br_f (q.mp h) H
  · have q : en_k k1 n1 < en_k k2 n2 ↔ ¬ k2 ≤ k1 := by rw [en_ltN _ _ a, Int32.not_le]
    exact br_f (q.mp h) H
theorem fl_inRange {k n : Int32} {post : Int32 → Prop} (ky : fr_Ky sn k n) (hs : sn ≤ 16) (H : post 1) : wpL_inRange post () k n := by
  unfold wpL_inRange
  rcases ky with ⟨a, b, c⟩ | ⟨a, j, hj, b⟩
  · refine br_t a (br_f ?_ (br_f ?_ H))
    · rw [Int32.lt_iff_toInt_lt, show (-8 : Int32).toInt = -8 from by decide]
      omega
    · rw [Int32.lt_iff_toInt_lt, show (50 : Int32).toInt = 50 from by decide]
      omega
  · subst b
    refine br_f (by rw [a]; decide) (br_t a (br_f (nI_pos (by omega)) (br_f (nI_nlt (a := 15) (by omega) (by omega)) H)))
/-- the walk's step to the next key: the row falls in two at q -/
theorem fi_194 {post : Int32 → St2 → Prop} {Jc : Int32 → Int32 → Int32 → Int32 → Int32 → Int32 → Int32 → Int32 → Int32 → Int32 → Int32 → Int32 → Int32 → Int32 → (Nat → Int32) → (Nat → Int32) → (Nat → Int32) → (Nat → Int32) → (Nat → Int32) → (Nat → Int32) → Prop} {x1 x2 x3 x4 k0 y yp rm pk pq st n0 : Int32} {j q : Nat} (hs : sn ≤ 16) (hu : u ≤ 32) (S : en_S K N u) (ky : fr_Ky sn k0 n0) (hq : q ≤ u) (lo : ∀ i, i < q → ¬ en_k k0 n0 < en_k (K i) (N i)) (hi : ∀ i, q ≤ i → i < u → en_k k0 n0 < en_k (K i) (N i))
    (Hs : q < u → Jc (K q) y yp rm pk pq st (nI (j + 1)) (nI cc) (nI u) (nI sn) (nI pn) (N q) (V q) K N V nm nl pd) (Hn : q = u → Jc 2 y yp rm pk pq st (nI (j + 1)) (nI cc) (nI u) (nI sn) (nI pn) 0 0 K N V nm nl pd) : wL_iterate_194 post Jc x1 x2 x3 x4 k0 y yp rm pk pq st (nI j) n0 (nI cc) (nI u) (nI sn) (nI pn) rk rv K N V nm nl pd := by
  obtain ⟨q', hq', lo', hi', hX⟩ := xn_next (cc := cc) (pn := pn) (rk := rk) (rv := rv) (V := V) (nm := nm) (nl := nl) (pd := pd) hs hu S (Or.inr (fr_Va ky))
  have c1 : ¬ q < q' := fun l => lo' q l (Or.inr (hi q (Nat.le_refl _) (by omega)))
  have c2 : ¬ q' < q := fun l => (hi' q' (Nat.le_refl _) (by omega)).elim (fr_k2 ky) (lo q' l)
  have e : q' = q := by omega
  subst e
  unfold wL_iterate_194
  by_cases c : q' < u
  · exact hX _ _ (fun P HP => xr_some rfl c hu HP) _ (nm_r (nI_1 j) (Hs c))
  · have e : q' = u := by omega
    exact hX _ _ (fun P HP => xr_none (by rw [e]) hu HP) _ (nm_r (nI_1 j) (Hn e))
theorem fi_loop {c0 : Nat} {x1 x2 : Int32} {post : Int32 → St2 → Prop} (h0 : c0 ≤ 32) (H : ∀ x', fr_J cc x' → post 1 x') : ∀ (d q j u : Nat) (K N V : Nat → Int32) (rk rv k pk pq st : Int32), u = q + d → j + d = c0 → q ≤ j → fr_I cc u sn pn K N V → (d = 0 → k = 2) → (0 < d → k = K q ∧ rk = N q ∧ rv = V q) → (st = 0 ∨ ∀ i, q ≤ i → i < u → en_k pk pq < en_k (K i) (N i)) → wL_iterate_40 post x1 x2 (nI c0) (nI c0) (d + 1) k (nI j) (nI j) (nI (j - q)) pk pq st (nI j) (nI cc) (nI u) (nI sn) (nI pn) rk rv K N V nm nl pd := by
  intro d
  induction d with
  | zero =>
    intro q j u K N V rk rv k pk pq st e1 e2 e3 I hk _ _
    have ek := hk rfl
    subst ek
    have ej : j = c0 := by omega
    subst ej
    have er : nI u = nI j - nI (j - q) := by
      rw [pk_sub (by omega)]
      exact congrArg nI (by omega)
    exact br_t rfl (br_t rfl (br_t rfl (br_t rfl (br_t er (H _ (fr_mk I))))))
  | succ d ih =>
    intro q j u K N V rk rv k pk pq st e1 e2 e3 I _ hk hst
    have I0 := I
    obtain ⟨hu, hc, hs, hp, S, G⟩ := I
    have hu' : u ≤ 32 := by omega
    have hq : q < u := by omega
    obtain ⟨rfl, rfl, rfl⟩ := hk (by omega)
    obtain ⟨g, ky⟩ := G q hq
    have va := fr_Va ky
    have keep : wL_iterate_194 post (wL_iterate_40 post x1 x2 (nI c0) (nI c0) (d + 1)) x1 x2 (nI c0) (nI c0) (K q) (nI (j + 1)) (nI (j + 1)) (nI (j - q)) (K q) (N q) 1 (nI j) (N q) (nI cc) (nI u) (nI sn) (nI pn) (N q) (V q) K N V nm nl pd := by
      have gr : ∀ i, q + 1 ≤ i → i < u → en_k (K q) (N q) < en_k (K i) (N i) := fun i a b => S q i (by omega) b
      refine fi_194 (q := q + 1) hs hu' S ky (by omega) (fun i hi => ?_) gr (fun c => ?_) (fun c => ?_)
      · have := en_Sle S hq (show i ≤ q by omega)
        omega
      · have h := ih (q + 1) (j + 1) u K N V (N (q + 1)) (V (q + 1)) (K (q + 1)) (K q) (N q) 1 (by omega) (by omega) (by omega) I0 (fun z => absurd c (by omega)) (fun _ => ⟨rfl, rfl, rfl⟩) (Or.inr gr)
        rw [show j + 1 - (q + 1) = j - q by omega] at h
        exact h
      · have h := ih (q + 1) (j + 1) u K N V 0 0 2 (K q) (N q) 1 (by omega) (by omega) (by omega) I0 (fun _ => rfl) (fun z => absurd c (by omega)) (Or.inr gr)
        rw [show j + 1 - (q + 1) = j - q by omega] at h
        exact h
    have F148 : wL_iterate_148 post (wL_iterate_40 post x1 x2 (nI c0) (nI c0) (d + 1)) x1 x2 (nI c0) (nI c0) (K q) (nI (j + 1)) (nI (j + 1)) (nI (j - q)) (K q) (N q) 1 (nI j) (N q) (nI cc) (nI u) (nI sn) (nI pn) (N q) (V q) K N V nm nl pd := by
      unfold wL_iterate_148
      refine br_c (fun _ => keep) (fun _ => ⟨by decide, br_c (fun _ => keep) (fun _ => ?_)⟩)
      have pl : en_Pl K N u (K q) (N q) q := ⟨by omega, fun i hi => S i q hi hq, fun i a b => en_Sle S b a⟩
      obtain ⟨A, B, C, d1, d2, d3, hX⟩ := xs_del (cc := cc) (pn := pn) (rk := N q) (rv := V q) (V := V) (nm := nm) (nl := nl) (pd := pd) hs hu' va pl ⟨hq, rfl, rfl⟩
      have S' := en_Sdel S d1 d2
      have G' := fr_Gdel G d1 d2 d3
      have lo : ∀ i, i < q → ¬ en_k (K q) (N q) < en_k (A i) (B i) := fun i hi => by
        rw [d1.1 i hi, d2.1 i hi]
        have := S i q hi hq
        omega
      have gr : ∀ i, q ≤ i → i < u - 1 → en_k (K q) (N q) < en_k (A i) (B i) := fun i a b => by
        rw [d1.2 i a (by omega), d2.2 i a (by omega)]
        exact S q (i + 1) (by omega) (by omega)
      have I' : fr_I cc (u - 1) sn pn A B C := ⟨by omega, hc, hs, hp, S', G'⟩
      refine hX _ (br_f (by decide) (fg_get hs (by omega) S' G' (fun i hi a1 a2 => ?_) (fun _ => br_t rfl ?_)))
      · exfalso
        have e : en_k (A i) (B i) = en_k (K q) (N q) := by rw [a1, a2]
        by_cases c : i < q
        · rw [d1.1 i c, d2.1 i c] at e
          have := S i q c hq
          omega
        · have := gr i (by omega) hi
          omega
      · refine nm_r ((nI_1 (j - q)).trans (congrArg nI (show j - q + 1 = j + 1 - q by omega))) ?_
        refine fi_194 (q := q) hs (by omega) S' ky (by omega) lo gr (fun c => ?_) (fun c => ?_)
        · exact ih q (j + 1) (u - 1) A B C (B q) (C q) (A q) (K q) (N q) 1 (by omega) (by omega) (by omega) I' (fun z => absurd c (by omega)) (fun _ => ⟨rfl, rfl, rfl⟩) (Or.inr gr)
        · exact ih q (j + 1) (u - 1) A B C 0 0 2 (K q) (N q) 1 (by omega) (by omega) (by omega) I' (fun _ => rfl) (fun z => absurd c (by omega)) (Or.inr gr)
    have F121 : wL_iterate_121 post (wL_iterate_40 post x1 x2 (nI c0) (nI c0) (d + 1)) x1 x2 (nI c0) (nI c0) (K q) (nI j) (nI j) (nI (j - q)) (nI j) (N q) (nI cc) (nI u) (nI sn) (nI pn) (N q) (V q) K N V nm nl pd := by
      unfold wL_iterate_121
      exact nm_r (nI_1 j) (fl_inRange ky hs (br_f (by decide) (nm_r (nI_1 j) F148)))
    have F68 : wL_iterate_68 post (wL_iterate_40 post x1 x2 (nI c0) (nI c0) (d + 1)) x1 x2 (nI c0) (nI c0) (K q) (nI j) (nI j) (nI (j - q)) pk pq st (nI j) (nI cc) (nI u) (nI sn) (nI pn) (N q) (V q) K N V nm nl pd := by
      unfold wL_iterate_68
      refine br_f g (fg_get hs hu' S G (fun i hi a1 a2 => br_t ?_ ?_) (fun l => absurd ⟨rfl, rfl⟩ (l q hq)))
      · rw [en_S1 S hi hq ⟨a1, a2⟩]
      · by_cases z : st = 0
        · exact br_t z F121
        · exact br_f z (fl_before (hst.resolve_left z q (Nat.le_refl _) hq) (br_f (by decide) F121))
    refine br_f (fr_k2 ky) (br_t (nI_le (b := 40) (by omega) (by omega)) ?_)
    rcases fr_Kk ky with e | e
    · exact br_t e F68
    · exact br_f (by rw [e]; decide) (br_t e F68)
theorem fr_iterate {x : St2} {x1 x2 : Int32} {post : Int32 → St2 → Prop} (J : fr_J cc x) (H : ∀ x', fr_J cc x' → post 1 x') : wpL_iterate post x x1 x2 := by
  obtain ⟨u, sn, pn, rk, rv, K, N, V, nm, nl, pd, rfl, I⟩ := J
  have I0 := I
  obtain ⟨hu, hc, hs, hp, S, G⟩ := I
  have hu' : u ≤ 32 := by omega
  unfold wpL_iterate
  refine fr_present I0 ?_
  obtain ⟨q, hq, lo, hi, hX⟩ := xn_next (k := 2) (n := 0) (cc := cc) (pn := pn) (rk := rk) (rv := rv) (V := V) (nm := nm) (nl := nl) (pd := pd) hs hu' S (Or.inl rfl)
  have e : q = 0 := by
    by_cases c : q = 0
    · exact c
    · exact absurd (Or.inl rfl) (lo 0 (by omega))
  subst e
  by_cases c : 0 < u
  · refine hX _ _ (fun P HP => xr_some rfl c hu' HP) _ ⟨u + 1, ?_⟩
    exact fi_loop hu' H u 0 0 u K N V (N 0) (V 0) (K 0) 0 0 0 (by omega) (by omega) (Nat.le_refl _) I0 (fun z => absurd c (by omega)) (fun _ => ⟨rfl, rfl, rfl⟩) (Or.inl rfl)
  · have e : 0 = u := by omega
    refine hX _ _ (fun P HP => xr_none (by rw [← e]) hu' HP) _ ⟨u + 1, ?_⟩
    exact fi_loop hu' H u 0 0 u K N V 0 0 2 0 0 0 (by omega) (by omega) (Nat.le_refl _) I0 (fun _ => rfl) (fun z => absurd z c) (Or.inl rfl)
end
end
section
section
variable {cc L : Nat} {xs : Nat → Int32}
theorem fl_cell {i : Nat} {p1 : Int32} {post : Int32 → Prop} (hp : p1 = nI i) (hi : i < 1000) (hL : L ≤ 260) (H : ∀ r, post r) : wpL_cell post L xs () p1 := by
  subst hp
  unfold wpL_cell
  exact pk_le L i (fun _ => H _) (fun z => ⟨vp_in_nI z (by omega), H _⟩)
theorem fl_u {i : Nat} {p1 : Int32} {post : Int32 → Prop} (hp : p1 = nI i) (hi : i < 1000) (hL : L ≤ 260) (H : ∀ a, a < 2 ^ 31 → post (nI a)) : wpL_u post L xs () p1 := by
  unfold wpL_u
  refine fl_cell hp hi hL (fun r => ?_)
  obtain ⟨a, ha, e⟩ := pk_andE r (m := 2147483647) 31 rfl
  rw [e]
  exact H a ha
theorem fl_val {i : Nat} {p1 : Int32} {post : Int32 → Prop} (hp : p1 = nI i) (hi : i < 1000) (hL : L ≤ 260) (H : ∀ r, post r) : wpL_val post L xs () p1 := by
  unfold wpL_val
  exact fl_u hp hi hL (fun a _ => ⟨by decide, H _⟩)
theorem fl_388 {x : St2} {st kc ks : Nat} {x4 : Int32} {post : Int32 → Prop} {Jc : Int32 → Int32 → Int32 → Int32 → Int32 → Int32 → Int32 → Int32 → (Nat → Int32) → (Nat → Int32) → (Nat → Int32) → (Nat → Int32) → (Nat → Int32) → (Nat → Int32) → Prop} (J : fr_J cc x) (H : ∀ x' : St2, fr_J cc x' → Jc x4 (nI (st + 1)) x'.1 x'.2.1 x'.2.2.1 x'.2.2.2.1 x'.2.2.2.2.1 x'.2.2.2.2.2.1 x'.2.2.2.2.2.2.1 x'.2.2.2.2.2.2.2.1 x'.2.2.2.2.2.2.2.2.1 x'.2.2.2.2.2.2.2.2.2.1 x'.2.2.2.2.2.2.2.2.2.2.1 x'.2.2.2.2.2.2.2.2.2.2.2) : wL_law_388 post L xs Jc (nI cc) x4 (nI st) kc ks x.1 x.2.1 x.2.2.1 x.2.2.2.1 x.2.2.2.2.1 x.2.2.2.2.2.1 x.2.2.2.2.2.2.1 x.2.2.2.2.2.2.2.1 x.2.2.2.2.2.2.2.2.1 x.2.2.2.2.2.2.2.2.2.1 x.2.2.2.2.2.2.2.2.2.2.1 x.2.2.2.2.2.2.2.2.2.2.2 := by
  obtain ⟨a1, a2, a3, a4, a5, a6, a7, a8, a9, a10, a11, a12⟩ := x
  unfold wL_law_388
  refine fr_border J (br_f (by decide) (fr_iterate J ?_))
  rintro ⟨b1, b2, b3, b4, b5, b6, b7, b8, b9, b10, b11, b12⟩ J'
  exact br_f (by decide) (nm_r (nI_1 st) (H (b1, b2, b3, b4, b5, b6, b7, b8, b9, b10, b11, b12) J'))
theorem fl_190 {st kc ks pp n : Nat} {post : Int32 → Prop} {Jc : Int32 → Int32 → Int32 → Int32 → Int32 → Int32 → Int32 → Int32 → (Nat → Int32) → (Nat → Int32) → (Nat → Int32) → (Nat → Int32) → (Nat → Int32) → (Nat → Int32) → Prop} (hL : L ≤ 260) (hpp : pp < 500) (hn : n < 10) (H : ∀ x' : St2, fr_J cc x' → wL_law_388 post L xs Jc (nI cc) (nI (pp + 5)) (nI st) kc ks x'.1 x'.2.1 x'.2.2.1 x'.2.2.2.1 x'.2.2.2.2.1 x'.2.2.2.2.2.1 x'.2.2.2.2.2.2.1 x'.2.2.2.2.2.2.2.1 x'.2.2.2.2.2.2.2.2.1 x'.2.2.2.2.2.2.2.2.2.1 x'.2.2.2.2.2.2.2.2.2.2.1 x'.2.2.2.2.2.2.2.2.2.2.2) : ∀ d i, i + d = n → ∀ x : St2, fr_J cc x → wL_law_190 post L xs Jc (nI cc) (nI pp) (nI st) (nI n) kc ks (d + 1) (nI i) x.1 x.2.1 x.2.2.1 x.2.2.2.1 x.2.2.2.2.1 x.2.2.2.2.2.1 x.2.2.2.2.2.2.1 x.2.2.2.2.2.2.2.1 x.2.2.2.2.2.2.2.2.1 x.2.2.2.2.2.2.2.2.2.1 x.2.2.2.2.2.2.2.2.2.2.1 x.2.2.2.2.2.2.2.2.2.2.2 := by
  intro d
  induction d with
  | zero =>
    intro i hi x J
    obtain ⟨a1, a2, a3, a4, a5, a6, a7, a8, a9, a10, a11, a12⟩ := x
    refine br_t (nI_le (by omega) (by omega)) (fr_end J ?_)
    rintro r ⟨b1, b2, b3, b4, b5, b6, b7, b8, b9, b10, b11, b12⟩ J'
    exact nm_r (nI_add pp 5) (H (b1, b2, b3, b4, b5, b6, b7, b8, b9, b10, b11, b12) J')
  | succ d ih =>
    intro i hi x J
    obtain ⟨a1, a2, a3, a4, a5, a6, a7, a8, a9, a10, a11, a12⟩ := x
    refine br_f (nI_ge (by omega) (by omega)) (fl_u (i := pp + 2 + i) ?_ (by omega) hL (fun a _ => ⟨by decide, fr_char J ?_⟩))
    · rw [show nI pp + 2 = nI (pp + 2) from nI_add pp 2, nI_add]
    · rintro r ⟨b1, b2, b3, b4, b5, b6, b7, b8, b9, b10, b11, b12⟩ J'
      exact nm_r (nI_1 i) (ih (i + 1) (by omega) (b1, b2, b3, b4, b5, b6, b7, b8, b9, b10, b11, b12) J')
theorem fl_rem {a : Nat} (ha : a < 2 ^ 31) (m : Nat) (h0 : 0 < m) (hm : m < 1000) : nI a - nI a / nI m * nI m = nI (a % m) := pk_rem ha h0 (by omega)
theorem fl_65 {kc ks : Nat} {post : Int32 → Prop} (hL : L ≤ 260) (H : post 1) : ∀ (d st pp : Nat), st + d = 48 → pp ≤ 1 + 5 * st → ∀ x : St2, fr_J cc x → wL_law_65 post L xs (nI cc) kc ks (d + 1) (nI pp) (nI st) x.1 x.2.1 x.2.2.1 x.2.2.2.1 x.2.2.2.2.1 x.2.2.2.2.2.1 x.2.2.2.2.2.2.1 x.2.2.2.2.2.2.2.1 x.2.2.2.2.2.2.2.2.1 x.2.2.2.2.2.2.2.2.2.1 x.2.2.2.2.2.2.2.2.2.2.1 x.2.2.2.2.2.2.2.2.2.2.2 := by
  intro d
  induction d with
  | zero =>
    intro st pp hst hpp x J
    exact br_t (nI_le (a := 48) (by omega) (by omega)) H
  | succ d ih =>
    intro st pp hst hpp x J
    have C : ∀ pp', pp' ≤ 1 + 5 * (st + 1) → ∀ x' : St2, fr_J cc x' → wL_law_388 post L xs (wL_law_65 post L xs (nI cc) kc ks (d + 1)) (nI cc) (nI pp') (nI st) kc ks x'.1 x'.2.1 x'.2.2.1 x'.2.2.2.1 x'.2.2.2.2.1 x'.2.2.2.2.2.1 x'.2.2.2.2.2.2.1 x'.2.2.2.2.2.2.2.1 x'.2.2.2.2.2.2.2.2.1 x'.2.2.2.2.2.2.2.2.2.1 x'.2.2.2.2.2.2.2.2.2.2.1 x'.2.2.2.2.2.2.2.2.2.2.2 :=
      fun pp' h x' J' => fl_388 J' (fun x'' J'' => ih (st + 1) pp' (by omega) h x'' J'')
    obtain ⟨a1, a2, a3, a4, a5, a6, a7, a8, a9, a10, a11, a12⟩ := x
    have p1 : nI pp + 1 = nI (pp + 1) := nI_1 pp
    have p2 : nI pp + 2 = nI (pp + 2) := nI_add pp 2
    have p3 : nI pp + 3 = nI (pp + 3) := nI_add pp 3
    have p4 : nI pp + 4 = nI (pp + 4) := nI_add pp 4
    have C361 : ∀ x' : St2, fr_J cc x' → wL_law_361 post L xs (wL_law_65 post L xs (nI cc) kc ks (d + 1)) (nI cc) (nI pp) (nI st) kc ks x'.1 x'.2.1 x'.2.2.1 x'.2.2.2.1 x'.2.2.2.2.1 x'.2.2.2.2.2.1 x'.2.2.2.2.2.2.1 x'.2.2.2.2.2.2.2.1 x'.2.2.2.2.2.2.2.2.1 x'.2.2.2.2.2.2.2.2.2.1 x'.2.2.2.2.2.2.2.2.2.2.1 x'.2.2.2.2.2.2.2.2.2.2.2 :=
      fun x' J' => nm_r p2 (C (pp + 2) (by omega) x' J')
    refine br_f (nI_ge (b := 48) (by omega) (by omega)) (br_c (fun _ => H) (fun _ => ?_))
    refine fl_u (i := pp) rfl (by omega) hL (fun a ha => ⟨by decide, fun x6 _ => ?_⟩)
    refine br_c (fun _ => br_c (fun _ => ?_) (fun _ => br_c (fun _ => ?_) (fun _ => br_c (fun _ => ?_) (fun _ => br_c (fun _ => ?_) (fun _ => br_c (fun _ => ?_) (fun _ => br_c (fun _ => ?_) (fun _ => ?_))))))) (fun _ => ?_)
    · refine fl_u p1 (by omega) hL (fun b hb => ⟨by decide, fl_val p2 (by omega) hL (fun v => fr_set J (Or.inl rfl) ?_)⟩)
      rintro r ⟨b1, b2, b3, b4, b5, b6, b7, b8, b9, b10, b11, b12⟩ J'
      exact nm_r p3 (C (pp + 3) (by omega) (b1, b2, b3, b4, b5, b6, b7, b8, b9, b10, b11, b12) J')
    · refine fl_u p1 (by omega) hL (fun b hb => ⟨by decide, nm_r (e' := nI (1 + b % 3)) ?_ ⟨_, fl_190 hL (by omega) (by omega) (C (pp + 5) (by omega)) (1 + b % 3) 0 (by omega) (a1, a2, a3, a4, a5, a6, a7, a8, a9, a10, a11, a12) J⟩⟩)
      rw [show nI b - nI b / 3 * 3 = nI (b % 3) from fl_rem hb 3 (by omega) (by omega)]
      exact nI_add 1 (b % 3)
    · refine fl_u p1 (by omega) hL (fun b hb => ⟨by decide, fl_u p2 (by omega) hL (fun c hc => ⟨by decide, fl_val p3 (by omega) hL (fun v => ?_)⟩)⟩)
      rw [show nI b - nI b / 48 * 48 = nI (b % 48) from fl_rem hb 48 (by omega) (by omega), show nI c - nI c / 9 * 9 = nI (c % 9) from fl_rem hc 9 (by omega) (by omega)]
      refine fr_fill J (by omega) (by omega) ?_
      rintro r ⟨b1, b2, b3, b4, b5, b6, b7, b8, b9, b10, b11, b12⟩ J'
      exact nm_r p4 (C (pp + 4) (by omega) (b1, b2, b3, b4, b5, b6, b7, b8, b9, b10, b11, b12) J')
    · refine fl_val p1 (by omega) hL (fun v => fr_append J ?_)
      rintro r ⟨b1, b2, b3, b4, b5, b6, b7, b8, b9, b10, b11, b12⟩ J'
      exact nm_r p2 (C (pp + 2) (by omega) (b1, b2, b3, b4, b5, b6, b7, b8, b9, b10, b11, b12) J')
    · refine fl_val p1 (by omega) hL (fun v => fr_purge J ?_)
      rintro r ⟨b1, b2, b3, b4, b5, b6, b7, b8, b9, b10, b11, b12⟩ J'
      exact nm_r p2 (C (pp + 2) (by omega) (b1, b2, b3, b4, b5, b6, b7, b8, b9, b10, b11, b12) J')
    · refine fl_u p1 (by omega) hL (fun b hb => ⟨by decide, br_c (fun _ => fr_clear J ?_) (fun _ => C361 (a1, a2, a3, a4, a5, a6, a7, a8, a9, a10, a11, a12) J)⟩)
      rintro ⟨b1, b2, b3, b4, b5, b6, b7, b8, b9, b10, b11, b12⟩ J'
      exact C361 (b1, b2, b3, b4, b5, b6, b7, b8, b9, b10, b11, b12) J'
    · refine fl_cell p1 (by omega) hL (fun v => fr_iterate J ?_)
      rintro ⟨b1, b2, b3, b4, b5, b6, b7, b8, b9, b10, b11, b12⟩ J'
      exact br_f (by decide) (nm_r p2 (C (pp + 2) (by omega) (b1, b2, b3, b4, b5, b6, b7, b8, b9, b10, b11, b12) J'))
    · refine fl_u p1 (by omega) hL (fun b hb => ⟨by decide, fl_val p2 (by omega) hL (fun v => fr_set J (Or.inr ⟨rfl, ?_, ?_⟩) ?_)⟩)
      · rw [show nI b - nI b / 59 * 59 = nI (b % 59) from fl_rem hb 59 (by omega) (by omega), fr_8 (by omega)]
        omega
      · rw [show nI b - nI b / 59 * 59 = nI (b % 59) from fl_rem hb 59 (by omega) (by omega), fr_8 (by omega)]
        omega
      · rintro r ⟨b1, b2, b3, b4, b5, b6, b7, b8, b9, b10, b11, b12⟩ J'
        exact nm_r p3 (C (pp + 3) (by omega) (b1, b2, b3, b4, b5, b6, b7, b8, b9, b10, b11, b12) J')
/-- from a fresh table with the cap that the law reckons -/
theorem fl_30 {x1 : Int32} {c : Nat} {post : Int32 → Prop} (hL : L ≤ 260) (hc : c ≤ 32) (hx : (4 ≤ x1 ∧ x1 ≤ 32 ∧ x1 = nI c) ∨ (4 ≤ x1 ∧ ¬ x1 ≤ 32 ∧ c = 32) ∨ (¬ 4 ≤ x1 ∧ c = 4)) (H : post 1) : wL_law_30 post L xs x1 (nI c) 0 0 := by
  have J0 : fr_J c (nI c, 0, 0, 0, 0, 0, (fun _ => 0), (fun _ => 0), (fun _ => 0), (fun _ => 0), (fun _ => 0), (fun _ => 0)) :=
    fr_mk (cc := c) (u := 0) (sn := 0) (pn := 0) ⟨Nat.zero_le _, hc, by omega, by omega, en_S0 _ _, fun i h => absurd h (by omega)⟩
  unfold wL_law_30
  refine ⟨by omega, by omega, 6, 248, by omega, by omega, ?_⟩
  unfold wpX_init
  refine ⟨by omega, by omega, by omega, by omega, by omega, by omega, by omega, by omega, by omega, by omega, by omega, by omega, ?_⟩
  rcases hx with ⟨a, b, e⟩ | ⟨a, b, e⟩ | ⟨a, e⟩
  · subst e
    refine br_t a (br_t b (fr_border J0 (br_f (by decide) (fr_iterate J0 ?_))))
    rintro ⟨b1, b2, b3, b4, b5, b6, b7, b8, b9, b10, b11, b12⟩ J'
    exact br_f (by decide) ⟨_, fl_65 hL H 48 0 1 (by omega) (by omega) (b1, b2, b3, b4, b5, b6, b7, b8, b9, b10, b11, b12) J'⟩
  · subst e
    refine br_t a (br_f b (fr_border J0 (br_f (by decide) (fr_iterate J0 ?_))))
    rintro ⟨b1, b2, b3, b4, b5, b6, b7, b8, b9, b10, b11, b12⟩ J'
    exact br_f (by decide) ⟨_, fl_65 hL H 48 0 1 (by omega) (by omega) (b1, b2, b3, b4, b5, b6, b7, b8, b9, b10, b11, b12) J'⟩
  · subst e
    refine br_f a (fr_border J0 (br_f (by decide) (fr_iterate J0 ?_)))
    rintro ⟨b1, b2, b3, b4, b5, b6, b7, b8, b9, b10, b11, b12⟩ J'
    exact br_f (by decide) ⟨_, fl_65 hL H 48 0 1 (by omega) (by omega) (b1, b2, b3, b4, b5, b6, b7, b8, b9, b10, b11, b12) J'⟩
end
end
section
theorem i_vc (xs : Nat → Int32) (L : Nat) (hL : L ≤ 260) : wpL_law (fun r => r = 1) L xs := by
  unfold wpL_law
  refine fl_cell (i := 0) rfl (by omega) hL (fun r x1 _ => ?_)
  refine br_c (fun a => br_c (fun b => ?_) (fun b => ?_)) (fun a => ?_)
  · have n0 : ¬ x1 < 0 := Int32.not_lt.mpr (Int32.le_trans (by decide) a)
    obtain ⟨j, hj, rfl⟩ := nI_of2 (n := 32) (by decide) n0 b
    exact fl_30 hL hj (Or.inl ⟨a, b, rfl⟩) rfl
  · exact fl_30 (c := 32) hL (by omega) (Or.inr (Or.inl ⟨a, b, rfl⟩)) rfl
  · exact fl_30 (c := 4) hL (by omega) (Or.inr (Or.inr ⟨a, rfl⟩)) rfl
end
