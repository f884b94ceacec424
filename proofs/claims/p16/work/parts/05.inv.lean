/-- a key inside the probed ranges -/
def fr_Ky (sn : Nat) (k n : Int32) : Prop := (k = 0 ∧ -8 ≤ n.toInt ∧ n.toInt ≤ 50) ∨ (k = 1 ∧ ∃ j, j < sn ∧ n = nI j)
/-- every entry has a value and such a key -/
def fr_G (sn : Nat) (K N V : Nat → Int32) (u : Nat) : Prop := ∀ i, i < u → ¬ V i = 0 ∧ fr_Ky sn (K i) (N i)
def fr_I (cc u sn pn : Nat) (K N V : Nat → Int32) : Prop := u ≤ cc ∧ cc ≤ 32 ∧ sn ≤ 16 ∧ pn ≤ 8 ∧ en_S K N u ∧ fr_G sn K N V u
def fr_J (cc : Nat) (x : St2) : Prop := ∃ (u sn pn : Nat) (rk rv : Int32) (K N V nm nl pd : Nat → Int32), x = (nI cc, nI u, nI sn, nI pn, rk, rv, K, N, V, nm, nl, pd) ∧ fr_I cc u sn pn K N V
theorem fr_Va {sn : Nat} {k n : Int32} (h : fr_Ky sn k n) : en_Va sn k n := h.elim (fun z => Or.inl z.1) Or.inr
theorem fr_Kk {sn : Nat} {k n : Int32} (h : fr_Ky sn k n) : k = 0 ∨ k = 1 := h.elim (fun z => Or.inl z.1) (fun z => Or.inr z.1)
theorem fr_k2 {sn : Nat} {k n : Int32} (h : fr_Ky sn k n) : ¬ k = 2 := by
  rcases fr_Kk h with z | z
  · rw [z]; decide
  · rw [z]; decide
theorem fr_Kym {sn sn' : Nat} {k n : Int32} (hs : sn ≤ sn') (h : fr_Ky sn k n) : fr_Ky sn' k n := by
  rcases h with h | ⟨a, j, hj, e⟩
  · exact Or.inl h
  · exact Or.inr ⟨a, j, by omega, e⟩
theorem fr_t0 : (0 : Int32).toInt = 0 := by decide
theorem fr_t1 : (1 : Int32).toInt = 1 := by decide
theorem fr_k0 (n : Int32) : en_k 0 n = n.toInt := by
  unfold en_k
  rw [fr_t0]
  omega
theorem fr_k1 (n : Int32) : en_k 1 n = 4294967296 + n.toInt := by
  unfold en_k
  rw [fr_t1]
  omega
theorem fr_Gins {p u sn : Nat} {K N V A B C : Nat → Int32} {x y z : Int32} (h : fr_G sn K N V u) (hp : p ≤ u) (a : en_Ins p u K A x) (b : en_Ins p u N B y) (c : en_Ins p u V C z) (z0 : ¬ z = 0) (k : fr_Ky sn x y) : fr_G sn A B C (u + 1) := by
  intro i hi
  by_cases c1 : i < p
  · rw [a.1 i c1, b.1 i c1, c.1 i c1]
    exact h i (by omega)
  · by_cases c2 : i = p
    · subst c2
      rw [a.2.1, b.2.1, c.2.1]
      exact ⟨z0, k⟩
    · obtain ⟨j, rfl⟩ : ∃ j, i = j + 1 := ⟨i - 1, by omega⟩
      rw [a.2.2 j (by omega) (by omega), b.2.2 j (by omega) (by omega), c.2.2 j (by omega) (by omega)]
      exact h j (by omega)
theorem fr_Gdel {p u sn : Nat} {K N V A B C : Nat → Int32} (h : fr_G sn K N V u) (a : en_Del p u K A) (b : en_Del p u N B) (c : en_Del p u V C) : fr_G sn A B C (u - 1) := by
  intro i hi
  by_cases c1 : i < p
  · rw [a.1 i c1, b.1 i c1, c.1 i c1]
    exact h i (by omega)
  · rw [a.2 i (by omega) (by omega), b.2 i (by omega) (by omega), c.2 i (by omega) (by omega)]
    exact h (i + 1) (by omega)
theorem fr_Gupd {p u sn : Nat} {K N V : Nat → Int32} {z : Int32} (h : fr_G sn K N V u) (z0 : ¬ z = 0) : fr_G sn K N (upd V p z) u := by
  intro i hi
  refine ⟨?_, (h i hi).2⟩
  by_cases e : i = p
  · subst e
    rw [pk_us]
    exact z0
  · rw [pk_un e]
    exact (h i hi).1
theorem fr_P {lim : Int32} {K N V A B C : Nat → Int32} {u w sn : Nat} (S : en_S K N u) (G : fr_G sn K N V u) (p : en_P lim K N V A B C u w) : en_S A B w ∧ fr_G sn A B C w := by
  constructor
  · rw [en_Spw (V := C), p.2.2]
    exact (en_Spw.mp S).filter _
  · intro i hi
    have m : (A i, B i, C i) ∈ en_L A B C w := en_mem.mpr ⟨i, hi, rfl⟩
    rw [p.2.2] at m
    obtain ⟨j, hj, e⟩ := en_mem.mp (List.mem_filter.mp m).1
    simp only [Prod.mk.injEq] at e
    rw [e.1, e.2.1, e.2.2]
    exact G j hj
/-- how many entries stand ahead of z -/
def fr_Pl (K N : Nat → Int32) (u : Nat) (z : Int) (p : Nat) : Prop := p ≤ u ∧ (∀ i, i < p → en_k (K i) (N i) < z) ∧ (∀ i, p ≤ i → i < u → z ≤ en_k (K i) (N i))
theorem fr_Plp {K N : Nat → Int32} {u p i : Nat} {z : Int} (S : en_S K N u) (h : fr_Pl K N u z p) (hi : i < u) (e : en_k (K i) (N i) = z) : fr_Pl K N u (z + 1) (p + 1) := by
  obtain ⟨h1, h2, h3⟩ := h
  have c1 : ¬ i < p := fun l => by
    have := h2 i l
    omega
  have c2 : ¬ p < i := fun l => by
    have := S p i l hi
    have := h3 p (Nat.le_refl _) (by omega)
    omega
  have e' : i = p := by omega
  subst e'
  refine ⟨by omega, fun j hj => ?_, fun j a b => ?_⟩
  · by_cases z : j = i
    · subst z; omega
    · have := h2 j (by omega)
      omega
  · have := S i j (by omega) b
    omega
theorem fr_Pla {K N : Nat → Int32} {u p : Nat} {z : Int} (h : fr_Pl K N u z p) (e : ∀ i, i < u → ¬ en_k (K i) (N i) = z) : fr_Pl K N u (z + 1) p := by
  obtain ⟨h1, h2, h3⟩ := h
  refine ⟨h1, fun j hj => ?_, fun j a b => ?_⟩
  · have := h2 j hj
    omega
  · have := h3 j a b
    have := e j b
    omega
theorem fr_Pl0 {sn u : Nat} {K N V : Nat → Int32} (G : fr_G sn K N V u) (hs : sn ≤ 16) : fr_Pl K N u (-8) 0 := by
  refine ⟨Nat.zero_le _, fun i h => absurd h (by omega), fun i _ hi => ?_⟩
  rcases (G i hi).2 with ⟨a, b, _⟩ | ⟨a, j, hj, b⟩
  · rw [a, fr_k0]
    exact b
  · rw [a, b, fr_k1, nI_toInt (by omega)]
    omega
theorem fr_Pl1 {sn u p : Nat} {K N V : Nat → Int32} (G : fr_G sn K N V u) (hs : sn ≤ 16) (h : fr_Pl K N u 51 p) : fr_Pl K N u 4294967296 p := by
  obtain ⟨h1, h2, h3⟩ := h
  refine ⟨h1, fun j hj => ?_, fun i a hi => ?_⟩
  · have := h2 j hj
    omega
  · have q := h3 i a hi
    rcases (G i hi).2 with ⟨a, b, c⟩ | ⟨a, j, hj, b⟩
    · rw [a, fr_k0] at q
      omega
    · rw [a, b, fr_k1, nI_toInt (by omega)]
      omega
theorem fr_Pl2 {sn u p : Nat} {K N V : Nat → Int32} (G : fr_G sn K N V u) (hs : sn ≤ 16) (h : fr_Pl K N u 4294967312 p) : p = u := by
  obtain ⟨h1, h2, h3⟩ := h
  by_cases c : p < u
  · have q := h3 p (Nat.le_refl _) c
    rcases (G p c).2 with ⟨a, b, c⟩ | ⟨a, j, hj, b⟩
    · rw [a, fr_k0] at q
      omega
    · rw [a, b, fr_k1, nI_toInt (by omega)] at q
      omega
  · omega
theorem fr_8 {a : Nat} (h : a < 1000) : (nI a - 8).toInt = (a : Int) - 8 := pk_sub_toInt (a := a) (b := 8) (by omega) (by omega)
theorem fr_8s (a i : Nat) : nI a - 8 + nI i = nI (a + i) - 8 := by
  rw [← nI_add]
  grind
