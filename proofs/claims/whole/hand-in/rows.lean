section
theorem pk_us {f : Nat → Int32} {k : Nat} {x : Int32} : upd f k x k = x := if_pos rfl
theorem pk_un {f : Nat → Int32} {k j : Nat} {x : Int32} (h : j ≠ k) : upd f k x j = f j := if_neg h
theorem pk_sub {a b : Nat} (h : b ≤ a) : nI a - nI b = nI (a - b) := by
  obtain ⟨c, rfl⟩ : ∃ c, a = c + b := ⟨a - b, by omega⟩
  rw [← nI_add, Int32.add_sub_cancel, Nat.add_sub_cancel]
theorem pk_m1 (n : Nat) : nI (n + 1) + (-1) = nI n := by
  rw [← nI_1, Int32.add_assoc, show (1 : Int32) + (-1) = 0 from rfl, Int32.add_zero]
theorem pk_mul (a b : Nat) : nI a * nI b = nI (a * b) := (Int32.ofNat_mul a b).symm
theorem pk_ix (x : Int32) {n : Nat} (hn : n < 2 ^ 31) : x < 0 ∨ nI n ≤ x ∨ ∃ j : Nat, j < n ∧ x = nI j := by
  by_cases h : x < 0
  · exact Or.inl h
  · obtain ⟨j, hj, rfl⟩ := nI_of h
    by_cases h2 : j < n
    · exact Or.inr (Or.inr ⟨j, h2, rfl⟩)
    · exact Or.inr (Or.inl (nI_le (by omega) hj))
theorem pk_le {x y : Int32} {A B : Prop} (a b : Nat) (f : a ≤ b → A) (g : b < a → B) (hx : x = nI a := by rfl) (hy : y = nI b := by rfl) (ha : a < 2 ^ 31 := by omega) (hb : b < 2 ^ 31 := by omega) : (x ≤ y → A) ∧ (¬ x ≤ y → B) := by
  subst hx hy
  rw [nI_leI ha hb]
  exact ⟨f, fun z => g (by omega)⟩
theorem pk_lt {x y : Int32} {A B : Prop} (a b : Nat) (f : a < b → A) (g : b ≤ a → B) (hx : x = nI a := by rfl) (hy : y = nI b := by rfl) (ha : a < 2 ^ 31 := by omega) (hb : b < 2 ^ 31 := by omega) : (x < y → A) ∧ (¬ x < y → B) := by
  subst hx hy
  rw [nI_ltI ha hb]
  exact ⟨f, fun z => g (by omega)⟩
theorem pk_eq {x y : Int32} {A B : Prop} (a b : Nat) (f : a = b → A) (g : a ≠ b → B) (hx : x = nI a := by rfl) (hy : y = nI b := by rfl) (ha : a < 2 ^ 31 := by omega) (hb : b < 2 ^ 31 := by omega) : (x = y → A) ∧ (¬ x = y → B) := by
  subst hx hy
  rw [nI_eq ha hb]
  exact ⟨f, g⟩
theorem pk_in {x : Int32} (n N : Nat) (h : n < N) (hx : x = nI n := by rfl) (hN : N < 2 ^ 31 := by omega) : vp_in x N := by
  subst hx
  exact vp_in_nI h hN
theorem pk_cl {x : Int32} (n : Nat) (hx : x = nI n := by rfl) (h : n < 2 ^ 31 := by omega) : x.toNatClampNeg = n := by
  subst hx
  exact nI_clamp h
theorem pk_tn {n : Nat} (h : n < 2 ^ 32) : (nI n).toBitVec.toNat = n := Nat.mod_eq_of_lt h
theorem pk_charN {q : Nat} (hq : q < 65536) : narrow .char (.int (nI q)) = .int (nI q) ∧ fits .char (.int (nI q)) = true := by
  constructor
  · have e : (nI q).toUInt32.toUInt16.toUInt32.toInt32 = nI q := by
      apply Int32.toBitVec_inj.mp
      apply BitVec.eq_of_toNat_eq
      show (nI q).toUInt32.toUInt16.toUInt32.toNat = q % 2 ^ 32
      rw [UInt16.toNat_toUInt32, UInt32.toNat_toUInt16, show (nI q).toUInt32.toNat = q % 2 ^ 32 from rfl]
      omega
    exact congrArg Value.int e
  · have a : (0 : Int32) ≤ nI q := nI_pos' (by omega)
    have b : nI q ≤ 65535 := nI_le (b := 65535) (by omega) (by decide)
    show (decide ((0 : Int32) ≤ nI q) && decide (nI q ≤ 65535)) = true
    rw [decide_eq_true a, decide_eq_true b]
    rfl
theorem pk_char (x : Int32) : (x.toUInt32 % 65536).toInt32 = nI (x.toBitVec.toNat % 65536) := by
  apply Int32.toBitVec_inj.mp
  apply BitVec.eq_of_toNat_eq
  rw [pk_tn (by omega)]
  show (x.toUInt32 % 65536).toNat = _
  rw [UInt32.toNat_mod]
  rfl
theorem pk_nc (x : Int32) : narrow .char (.int (x.toUInt32 % 65536).toInt32) = .int (x.toUInt32 % 65536).toInt32 := by
  rw [pk_char]
  exact (pk_charN (Nat.mod_lt _ (by decide))).1
theorem pk_fc (x : Int32) : fits .char (.int (x.toUInt32 % 65536).toInt32) = true := by
  rw [pk_char]
  exact (pk_charN (Nat.mod_lt _ (by decide))).2
theorem pk_vc (z : Int32) : vp_nar .char (z.toUInt32 % 65536).toInt32 = (z.toUInt32 % 65536).toInt32 := Value.int.inj (pk_nc z)
theorem sb_m1 {p : Nat} (h : 0 < p) : nI p + (-1) = nI (p - 1) := by
  obtain ⟨q, rfl⟩ : ∃ q, p = q + 1 := ⟨p - 1, by omega⟩
  exact pk_m1 q
theorem pk_loop {σ : Type} (W : Nat → Nat → σ → Prop) (I : Nat → σ → Prop) (e i0 : Nat) (s : σ) (hi : i0 ≤ e) (h0 : I i0 s) (hx : ∀ n s, I e s → W (n + 1) e s)
    (hs : ∀ n i s, i < e → I i s → (∀ s', I (i + 1) s' → W n (i + 1) s') → W (n + 1) i s) : ∃ n, W n i0 s :=
  ⟨e + 1, loop_i W I e hx hs (e + 1) i0 s hi (by omega) h0⟩
theorem pk_loopD {σ : Type} (W : Nat → Nat → σ → Prop) (I : Nat → σ → Prop) (hx : ∀ n s, I 0 s → W (n + 1) 0 s)
    (hs : ∀ n i s, I (i + 1) s → (∀ s', I i s' → W n i s') → W (n + 1) (i + 1) s) : ∀ (e : Nat) (s : σ), I e s → W (e + 1) e s := by
  intro e
  induction e with
  | zero => exact fun s h => hx 0 s h
  | succ e ih => exact fun s h => hs (e + 1) e s h (fun s' h' => ih s' h')
end
section
/-- the first u entries of a row, in the row's order -/
def en_L (K N V : Nat → Int32) : Nat → List (Int32 × Int32 × Int32)
  | 0 => []
  | u + 1 => en_L K N V u ++ [(K u, N u, V u)]
theorem en_Ls (K N V : Nat → Int32) (u : Nat) : en_L K N V (u + 1) = en_L K N V u ++ [(K u, N u, V u)] := rfl
theorem en_len (K N V : Nat → Int32) : ∀ u, (en_L K N V u).length = u := by
  intro u
  induction u with
  | zero => rfl
  | succ u ih => rw [en_Ls, List.length_append, ih]; rfl
theorem en_mem {K N V : Nat → Int32} {e : Int32 × Int32 × Int32} : ∀ {u : Nat}, e ∈ en_L K N V u ↔ ∃ i, i < u ∧ e = (K i, N i, V i) := by
  intro u
  induction u with
  | zero =>
    constructor
    · intro h; exact absurd h (by simp [en_L])
    · rintro ⟨i, hi, _⟩; omega
  | succ u ih =>
    rw [en_Ls, List.mem_append, ih, List.mem_singleton]
    constructor
    · rintro (⟨i, hi, e⟩ | e)
      · exact ⟨i, by omega, e⟩
      · exact ⟨u, by omega, e⟩
    · rintro ⟨i, hi, e⟩
      by_cases h : i = u
      · subst h; exact Or.inr e
      · exact Or.inl ⟨i, by omega, e⟩
theorem en_cong {K N V K' N' V' : Nat → Int32} : ∀ {u : Nat}, (∀ i, i < u → K' i = K i ∧ N' i = N i ∧ V' i = V i) → en_L K' N' V' u = en_L K N V u := by
  intro u
  induction u with
  | zero => intro _; rfl
  | succ u ih =>
    intro h
    obtain ⟨a, b, c⟩ := h u (by omega)
    rw [en_Ls, en_Ls, ih (fun i hi => h i (by omega)), a, b, c]
theorem en_ins {K N V K' N' V' : Nat → Int32} {p : Nat} (h1 : ∀ i, i < p → K' i = K i ∧ N' i = N i ∧ V' i = V i) : ∀ d : Nat, (∀ i, p ≤ i → i < p + d → K' (i + 1) = K i ∧ N' (i + 1) = N i ∧ V' (i + 1) = V i) → List.Perm (en_L K' N' V' (p + d + 1)) ((K' p, N' p, V' p) :: en_L K N V (p + d)) := by
  intro d
  induction d with
  | zero =>
    intro _
    rw [Nat.add_zero, en_Ls, en_cong h1]
    exact List.perm_append_comm
  | succ d ih =>
    intro h2
    obtain ⟨a, b, c⟩ := h2 (p + d) (by omega) (by omega)
    have e1 : en_L K' N' V' (p + (d + 1) + 1) = en_L K' N' V' (p + d + 1) ++ [(K (p + d), N (p + d), V (p + d))] := by
      rw [← a, ← b, ← c]; rfl
    have e2 : en_L K N V (p + (d + 1)) = en_L K N V (p + d) ++ [(K (p + d), N (p + d), V (p + d))] := rfl
    rw [e1, e2]
    exact (ih (fun i h h' => h2 i h (by omega))).append_right _
/-- A' is A with x put in at p -/
def en_Ins (p u : Nat) (A A' : Nat → Int32) (x : Int32) : Prop := (∀ i, i < p → A' i = A i) ∧ A' p = x ∧ (∀ i, p ≤ i → i < u → A' (i + 1) = A i)
/-- A' is A without its cell p -/
def en_Del (p u : Nat) (A A' : Nat → Int32) : Prop := (∀ i, i < p → A' i = A i) ∧ (∀ i, p ≤ i → i + 1 < u → A' i = A (i + 1))
theorem en_insP {p u : Nat} {K N V K' N' V' : Nat → Int32} {x y z : Int32} (hp : p ≤ u) (a : en_Ins p u K K' x) (b : en_Ins p u N N' y) (c : en_Ins p u V V' z) : List.Perm (en_L K' N' V' (u + 1)) ((x, y, z) :: en_L K N V u) := by
  obtain ⟨d, rfl⟩ : ∃ d, u = p + d := ⟨u - p, by omega⟩
  have h := en_ins (K := K) (N := N) (V := V) (K' := K') (N' := N') (V' := V') (p := p) (fun i hi => ⟨a.1 i hi, b.1 i hi, c.1 i hi⟩) d (fun i h h' => ⟨a.2.2 i h h', b.2.2 i h h', c.2.2 i h h'⟩)
  rw [a.2.1, b.2.1, c.2.1] at h
  exact h
theorem en_delP {p u : Nat} {K N V K' N' V' : Nat → Int32} (hp : p < u) (a : en_Del p u K K') (b : en_Del p u N N') (c : en_Del p u V V') : List.Perm (en_L K N V u) ((K p, N p, V p) :: en_L K' N' V' (u - 1)) := by
  obtain ⟨d, rfl⟩ : ∃ d, u = p + d + 1 := ⟨u - p - 1, by omega⟩
  exact en_ins (K := K') (N := N') (V := V') (K' := K) (N' := N) (V' := V) (p := p) (fun i hi => ⟨(a.1 i hi).symm, (b.1 i hi).symm, (c.1 i hi).symm⟩) d (fun i h h' => ⟨(a.2 i h (by omega)).symm, (b.2 i h (by omega)).symm, (c.2 i h (by omega)).symm⟩)
def en_cut (A : Nat → Int32) (p : Nat) : Nat → Int32 := fun i => if i < p then A i else A (i + 1)
theorem en_cutD (A : Nat → Int32) (p u : Nat) : en_Del p u A (en_cut A p) := ⟨fun _ h => if_pos h, fun _ h _ => if_neg (by omega)⟩
theorem en_cutU (A : Nat → Int32) (p u : Nat) (x : Int32) : en_Del p u (upd A p x) (en_cut A p) :=
  ⟨fun i h => by rw [pk_un (by omega)]; exact if_pos h, fun i h _ => by rw [pk_un (by omega)]; exact if_neg (by omega)⟩
/-- the value at p replaced -/
theorem en_updP {p u : Nat} {K N V : Nat → Int32} (z : Int32) (hp : p < u) : ∃ M, List.Perm (en_L K N V u) ((K p, N p, V p) :: M) ∧ List.Perm (en_L K N (upd V p z) u) ((K p, N p, z) :: M) := by
  refine ⟨en_L (en_cut K p) (en_cut N p) (en_cut V p) (u - 1), en_delP hp (en_cutD K p u) (en_cutD N p u) (en_cutD V p u), ?_⟩
  have h := en_delP (K := K) (N := N) (V := upd V p z) hp (en_cutD K p u) (en_cutD N p u) (en_cutU V p u z)
  rw [pk_us] at h
  exact h

/-- the keys in canonical order, as whole numbers -/
def en_k (k n : Int32) : Int := k.toInt * 4294967296 + n.toInt
theorem en_kB (n : Int32) : -2147483648 ≤ n.toInt ∧ n.toInt < 2147483648 := ⟨Int32.le_toInt n, Int32.toInt_lt n⟩
theorem en_ltN {k1 k2 : Int32} (n1 n2 : Int32) (h : k1 ≠ k2) : en_k k1 n1 < en_k k2 n2 ↔ k1 < k2 := by
  have h' : k1.toInt ≠ k2.toInt := fun z => h (Int32.toInt_inj.mp z)
  have a := en_kB n1
  have b := en_kB n2
  rw [Int32.lt_iff_toInt_lt]
  unfold en_k
  omega
theorem en_ltE (k n1 n2 : Int32) : en_k k n1 < en_k k n2 ↔ n1 < n2 := by
  rw [Int32.lt_iff_toInt_lt]
  unfold en_k
  omega
theorem en_inj {k1 k2 n1 n2 : Int32} (h : en_k k1 n1 = en_k k2 n2) : k1 = k2 ∧ n1 = n2 := by
  have a := en_kB n1
  have b := en_kB n2
  unfold en_k at h
  exact ⟨Int32.toInt_inj.mp (by omega), Int32.toInt_inj.mp (by omega)⟩
def en_S (K N : Nat → Int32) (u : Nat) : Prop := ∀ i j, i < j → j < u → en_k (K i) (N i) < en_k (K j) (N j)
theorem en_S1 {K N : Nat → Int32} {u i j : Nat} (h : en_S K N u) (hi : i < u) (hj : j < u) (e : K i = K j ∧ N i = N j) : i = j := by
  have e' : en_k (K i) (N i) = en_k (K j) (N j) := by rw [e.1, e.2]
  have a := h i j
  have b := h j i
  omega
theorem en_Sle {K N : Nat → Int32} {u i j : Nat} (h : en_S K N u) (hj : j < u) (e : i ≤ j) : en_k (K i) (N i) ≤ en_k (K j) (N j) := by
  by_cases z : i = j
  · subst z; omega
  · have := h i j (by omega) hj; omega
theorem en_S0 (K N : Nat → Int32) : en_S K N 0 := fun _ _ _ h => absurd h (Nat.not_lt_zero _)
theorem en_Sins {p u : Nat} {K N K' N' : Nat → Int32} {x y : Int32} (h : en_S K N u) (a : en_Ins p u K K' x) (b : en_Ins p u N N' y) (lo : ∀ i, i < p → en_k (K i) (N i) < en_k x y) (hi : ∀ i, p ≤ i → i < u → en_k x y < en_k (K i) (N i)) (hp : p ≤ u) : en_S K' N' (u + 1) := by
  intro i j hij hj
  by_cases c1 : j < p
  · rw [a.1 i (by omega), b.1 i (by omega), a.1 j c1, b.1 j c1]
    exact h i j hij (by omega)
  · by_cases c2 : j = p
    · subst c2
      rw [a.1 i hij, b.1 i hij, a.2.1, b.2.1]
      exact lo i hij
    · obtain ⟨j', rfl⟩ : ∃ j', j = j' + 1 := ⟨j - 1, by omega⟩
      rw [a.2.2 j' (by omega) (by omega), b.2.2 j' (by omega) (by omega)]
      by_cases c3 : i < p
      · rw [a.1 i c3, b.1 i c3]
        exact h i j' (by omega) (by omega)
      · by_cases c4 : i = p
        · subst c4
          rw [a.2.1, b.2.1]
          exact hi j' (by omega) (by omega)
        · obtain ⟨i', rfl⟩ : ∃ i', i = i' + 1 := ⟨i - 1, by omega⟩
          rw [a.2.2 i' (by omega) (by omega), b.2.2 i' (by omega) (by omega)]
          exact h i' j' (by omega) (by omega)
theorem en_Sdel {p u : Nat} {K N K' N' : Nat → Int32} (h : en_S K N u) (a : en_Del p u K K') (b : en_Del p u N N') : en_S K' N' (u - 1) := by
  intro i j hij hj
  by_cases c1 : j < p
  · rw [a.1 i (by omega), b.1 i (by omega), a.1 j c1, b.1 j c1]
    exact h i j hij (by omega)
  · rw [a.2 j (by omega) (by omega), b.2 j (by omega) (by omega)]
    by_cases c3 : i < p
    · rw [a.1 i c3, b.1 i c3]
      exact h i (j + 1) (by omega) (by omega)
    · rw [a.2 i (by omega) (by omega), b.2 i (by omega) (by omega)]
      exact h (i + 1) (j + 1) (by omega) (by omega)
theorem en_Spw {K N V : Nat → Int32} : ∀ {u : Nat}, en_S K N u ↔ List.Pairwise (fun a b : Int32 × Int32 × Int32 => en_k a.1 a.2.1 < en_k b.1 b.2.1) (en_L K N V u) := by
  intro u
  induction u with
  | zero => exact ⟨fun _ => List.Pairwise.nil, fun _ => en_S0 K N⟩
  | succ u ih =>
    rw [en_Ls, List.pairwise_append, ← ih]
    constructor
    · intro h
      refine ⟨fun i j a b => h i j a (by omega), List.pairwise_singleton _ _, ?_⟩
      intro a ha b hb
      obtain ⟨i, hi, rfl⟩ := en_mem.mp ha
      rw [List.mem_singleton] at hb
      subst hb
      exact h i u hi (by omega)
    · rintro ⟨h1, _, h3⟩ i j hij hj
      by_cases c : j = u
      · subst c
        exact h3 _ (en_mem.mpr ⟨i, hij, rfl⟩) _ (List.mem_singleton.mpr rfl)
      · exact h1 i j hij (by omega)

/-- the two rows hold the same entries: the first in canonical order -/
def en_R (u : Nat) (K N V K' N' V' : Nat → Int32) : Prop := en_S K N u ∧ List.Perm (en_L K N V u) (en_L K' N' V' u)
theorem en_Rx {u : Nat} {K N V K' N' V' : Nat → Int32} (h : en_R u K N V K' N' V') {i : Nat} (hi : i < u) : ∃ j, j < u ∧ K' j = K i ∧ N' j = N i ∧ V' j = V i := by
  obtain ⟨j, hj, e⟩ := en_mem.mp (h.2.mem_iff.mp (en_mem.mpr ⟨i, hi, rfl⟩))
  simp only [Prod.mk.injEq] at e
  exact ⟨j, hj, e.1.symm, e.2.1.symm, e.2.2.symm⟩
theorem en_Ry {u : Nat} {K N V K' N' V' : Nat → Int32} (h : en_R u K N V K' N' V') {j : Nat} (hj : j < u) : ∃ i, i < u ∧ K i = K' j ∧ N i = N' j ∧ V i = V' j := by
  obtain ⟨i, hi, e⟩ := en_mem.mp (h.2.mem_iff.mpr (en_mem.mpr ⟨j, hj, rfl⟩))
  simp only [Prod.mk.injEq] at e
  exact ⟨i, hi, e.1.symm, e.2.1.symm, e.2.2.symm⟩
theorem en_Rv {u : Nat} {K N V K' N' V' : Nat → Int32} (h : en_R u K N V K' N' V') {i j : Nat} (hi : i < u) (hj : j < u) (e1 : K i = K' j) (e2 : N i = N' j) : V i = V' j := by
  obtain ⟨a, ha, b1, b2, b3⟩ := en_Ry h hj
  have : a = i := en_S1 h.1 ha hi ⟨b1.trans e1.symm, b2.trans e2.symm⟩
  subst this
  exact b3
theorem en_Rins {p u : Nat} {K N V K' N' V' A B C A' B' C' : Nat → Int32} {x y z : Int32} (h : en_R u K N V K' N' V') (hp : p ≤ u) (a : en_Ins p u K A x) (b : en_Ins p u N B y) (c : en_Ins p u V C z) (a' : en_Ins u u K' A' x) (b' : en_Ins u u N' B' y) (c' : en_Ins u u V' C' z) (lo : ∀ i, i < p → en_k (K i) (N i) < en_k x y) (hi : ∀ i, p ≤ i → i < u → en_k x y < en_k (K i) (N i)) : en_R (u + 1) A B C A' B' C' :=
  ⟨en_Sins h.1 a b lo hi hp, (en_insP hp a b c).trans ((h.2.cons _).trans (en_insP (Nat.le_refl u) a' b' c').symm)⟩
theorem en_Rdel {p q u : Nat} {K N V K' N' V' A B C A' B' C' : Nat → Int32} (h : en_R u K N V K' N' V') (hp : p < u) (hq : q < u) (e1 : K p = K' q) (e2 : N p = N' q) (a : en_Del p u K A) (b : en_Del p u N B) (c : en_Del p u V C) (a' : en_Del q u K' A') (b' : en_Del q u N' B') (c' : en_Del q u V' C') : en_R (u - 1) A B C A' B' C' := by
  refine ⟨en_Sdel h.1 a b, ?_⟩
  have e3 := en_Rv h hp hq e1 e2
  have P := (en_delP hp a b c).symm.trans (h.2.trans (en_delP hq a' b' c'))
  rw [e1, e2, e3] at P
  exact P.cons_inv
theorem en_Rupd {p q u : Nat} {K N V K' N' V' : Nat → Int32} (h : en_R u K N V K' N' V') (z : Int32) (hp : p < u) (hq : q < u) (e1 : K p = K' q) (e2 : N p = N' q) : en_R u K N (upd V p z) K' N' (upd V' q z) := by
  refine ⟨h.1, ?_⟩
  have e3 := en_Rv h hp hq e1 e2
  obtain ⟨M, m1, m2⟩ := en_updP (K := K) (N := N) (V := V) z hp
  obtain ⟨M', m1', m2'⟩ := en_updP (K := K') (N := N') (V := V') z hq
  have P := m1.symm.trans (h.2.trans m1')
  rw [e1, e2, e3] at P
  have Q := P.cons_inv
  rw [e1, e2] at m2
  exact m2.trans ((Q.cons _).trans m2'.symm)
theorem en_R0 (K N V K' N' V' : Nat → Int32) : en_R 0 K N V K' N' V' := ⟨en_S0 K N, List.Perm.refl _⟩

/-- what a sweep that keeps the values from lim on has done at i, with w kept -/
def en_P (lim : Int32) (K N V A B C : Nat → Int32) (i w : Nat) : Prop := w ≤ i ∧ (∀ j, i ≤ j → A j = K j ∧ B j = N j ∧ C j = V j) ∧ en_L A B C w = (en_L K N V i).filter (fun e => decide (lim ≤ e.2.2))
theorem en_P0 (lim : Int32) (K N V : Nat → Int32) : en_P lim K N V K N V 0 0 := ⟨Nat.le_refl _, fun _ _ => ⟨rfl, rfl, rfl⟩, rfl⟩
theorem en_Pk {lim : Int32} {K N V A B C : Nat → Int32} {i w : Nat} (h : en_P lim K N V A B C i w) (c : lim ≤ C i) : en_P lim K N V (upd A w (A i)) (upd B w (B i)) (upd C w (C i)) (i + 1) (w + 1) := by
  obtain ⟨h1, h2, h3⟩ := h
  refine ⟨by omega, fun j hj => ?_, ?_⟩
  · rw [pk_un (by omega), pk_un (by omega), pk_un (by omega)]
    exact h2 j (by omega)
  · obtain ⟨a, b, d⟩ := h2 i (Nat.le_refl i)
    rw [en_Ls, en_Ls, List.filter_append, ← h3, pk_us, pk_us, pk_us, en_cong (K := A) (N := B) (V := C) (fun j hj => ⟨pk_un (by omega), pk_un (by omega), pk_un (by omega)⟩), a, b, d]
    rw [d] at c
    simp [c]
theorem en_Pd {lim : Int32} {K N V A B C : Nat → Int32} {i w : Nat} (h : en_P lim K N V A B C i w) (c : ¬ lim ≤ C i) : en_P lim K N V A B C (i + 1) w := by
  obtain ⟨h1, h2, h3⟩ := h
  refine ⟨by omega, fun j hj => h2 j (by omega), ?_⟩
  obtain ⟨a, b, d⟩ := h2 i (Nat.le_refl i)
  rw [d] at c
  rw [en_Ls, List.filter_append, ← h3]
  have : List.filter (fun e : Int32 × Int32 × Int32 => decide (lim ≤ e.2.2)) [(K i, N i, V i)] = [] := by
    rw [List.filter_cons_of_neg (by simpa using c)]
    rfl
  rw [this, List.append_nil]
theorem en_RP {lim : Int32} {K N V A B C K' N' V' A' B' C' : Nat → Int32} {u w w' : Nat} (h : en_R u K N V K' N' V') (p : en_P lim K N V A B C u w) (p' : en_P lim K' N' V' A' B' C' u w') : w' = w ∧ en_R w A B C A' B' C' := by
  have P := h.2.filter (fun e => decide (lim ≤ e.2.2))
  rw [← p.2.2, ← p'.2.2] at P
  have e : w' = w := by
    have := P.length_eq
    rw [en_len, en_len] at this
    exact this.symm
  subst e
  refine ⟨rfl, ?_, P⟩
  rw [en_Spw (V := C), p.2.2]
  exact (en_Spw.mp h.1).filter _
end
section
/-- the border of the first p entries is b -/
def en_B (K N : Nat → Int32) (p b : Nat) : Prop := b ≤ p ∧ (∀ m, m < b → ∃ i, i < p ∧ K i = 0 ∧ N i = nI (m + 1)) ∧ (∀ i, i < p → ¬ (K i = 0 ∧ N i = nI (b + 1)))
theorem en_B0 (K N : Nat → Int32) : en_B K N 0 0 := ⟨Nat.le_refl _, fun _ h => absurd h (Nat.not_lt_zero _), fun _ h => absurd h (Nat.not_lt_zero _)⟩
theorem en_Bk {K N : Nat → Int32} {u p b : Nat} (hs : en_S K N u) (hp : p < u) (hu : u ≤ 32) (h : en_B K N p b) (e1 : K p = 0) (e2 : N p = nI (b + 1)) : en_B K N (p + 1) (b + 1) := by
  obtain ⟨h1, h2, h3⟩ := h
  refine ⟨by omega, fun m hm => ?_, ?_⟩
  · by_cases c : m = b
    · subst c; exact ⟨p, by omega, e1, e2⟩
    · obtain ⟨i, hi, a⟩ := h2 m (by omega)
      exact ⟨i, by omega, a⟩
  · rintro i hi ⟨a, c⟩
    by_cases z : i = p
    · subst z
      have := (nI_eq (by omega) (by omega)).mp (e2.symm.trans c)
      omega
    · have l := hs i p (by omega) hp
      rw [a, c, e1, e2, en_ltE, nI_ltI (by omega) (by omega)] at l
      omega
theorem en_Bd {K N : Nat → Int32} {p b : Nat} (h : en_B K N p b) (e : ¬ (K p = 0 ∧ N p = nI (b + 1))) : en_B K N (p + 1) b := by
  obtain ⟨h1, h2, h3⟩ := h
  refine ⟨by omega, fun m hm => ?_, ?_⟩
  · obtain ⟨i, hi, a⟩ := h2 m hm
    exact ⟨i, by omega, a⟩
  · intro i hi
    by_cases z : i = p
    · subst z; exact e
    · exact h3 i (by omega)
theorem en_By {u b : Nat} {K N V K' N' V' : Nat → Int32} (h : en_R u K N V K' N' V') (B : en_B K N u b) : (∀ m, m < b → ∃ i, i < u ∧ K' i = 0 ∧ N' i = nI (m + 1)) ∧ (∀ i, i < u → ¬ (K' i = 0 ∧ N' i = nI (b + 1))) := by
  refine ⟨fun m hm => ?_, ?_⟩
  · obtain ⟨i, hi, a, c⟩ := B.2.1 m hm
    obtain ⟨j, hj, e1, e2, _⟩ := en_Rx h hi
    exact ⟨j, hj, e1.trans a, e2.trans c⟩
  · rintro j hj ⟨a, c⟩
    obtain ⟨i, hi, e1, e2, _⟩ := en_Ry h hj
    exact B.2.2 i hi ⟨e1.trans a, e2.trans c⟩

/-- p is the place of the key (k, n) -/
def en_Pl (K N : Nat → Int32) (u : Nat) (k n : Int32) (p : Nat) : Prop := p ≤ u ∧ (∀ i, i < p → en_k (K i) (N i) < en_k k n) ∧ (∀ i, p ≤ i → i < u → en_k k n ≤ en_k (K i) (N i))
theorem en_PlI {K N : Nat → Int32} {u p : Nat} {k n : Int32} (hs : en_S K N u) (hp : p ≤ u) (lo : ∀ i, i < p → en_k (K i) (N i) < en_k k n) (hi : p < u → ¬ en_k (K p) (N p) < en_k k n) : en_Pl K N u k n p := by
  refine ⟨hp, lo, fun i a b => ?_⟩
  have h1 := hi (by omega)
  have h2 := en_Sle hs b a
  omega
/-- the key stands at its place -/
def en_At (K N : Nat → Int32) (u : Nat) (k n : Int32) (p : Nat) : Prop := p < u ∧ K p = k ∧ N p = n
theorem en_Nat {K N : Nat → Int32} {u p : Nat} {k n : Int32} (h : en_Pl K N u k n p) (z : ¬ en_At K N u k n p) (hs : en_S K N u) : ∀ i, p ≤ i → i < u → en_k k n < en_k (K i) (N i) := by
  intro i a b
  have h1 := h.2.2 i a b
  by_cases e : en_k k n = en_k (K i) (N i)
  · have h2 := h.2.2 p (Nat.le_refl _) (by omega)
    have h3 := en_Sle hs b a
    have e2 : en_k (K p) (N p) = en_k k n := by omega
    obtain ⟨x, y⟩ := en_inj e2
    exact absurd ⟨by omega, x, y⟩ z
  · omega
theorem en_NatX {K N : Nat → Int32} {u p : Nat} {k n : Int32} (h : en_Pl K N u k n p) (z : ¬ en_At K N u k n p) (hs : en_S K N u) : ∀ i, i < u → ¬ (K i = k ∧ N i = n) := by
  rintro i hi ⟨a, b⟩
  by_cases c : i < p
  · have := h.2.1 i c
    rw [a, b] at this
    omega
  · have := en_Nat h z hs i (by omega) hi
    rw [a, b] at this
    omega
theorem en_AtX {K N : Nat → Int32} {u p : Nat} {k n : Int32} (h : en_At K N u k n p) (hs : en_S K N u) : (∀ i, i < p + 1 → ¬ en_k k n < en_k (K i) (N i)) ∧ (∀ i, p + 1 ≤ i → i < u → en_k k n < en_k (K i) (N i)) := by
  obtain ⟨h1, rfl, rfl⟩ := h
  refine ⟨fun i hi => ?_, fun i a b => hs p i (by omega) b⟩
  have := en_Sle hs h1 (show i ≤ p by omega)
  omega
theorem en_NatL {K N : Nat → Int32} {u p : Nat} {k n : Int32} (h : en_Pl K N u k n p) : ∀ i, i < p → ¬ en_k k n < en_k (K i) (N i) := by
  intro i hi
  have := h.2.1 i hi
  omega
/-- what the search for the least key with Z has found among the first i -/
def en_M (Z : Int → Prop) (K N : Nat → Int32) (i : Nat) (r : Int32) : Prop := (r = -1 ∧ ∀ j, j < i → ¬ Z (en_k (K j) (N j))) ∨ ∃ b, b < i ∧ r = nI b ∧ Z (en_k (K b) (N b)) ∧ ∀ j, j < i → Z (en_k (K j) (N j)) → en_k (K b) (N b) ≤ en_k (K j) (N j)
theorem en_M0 (Z : Int → Prop) (K N : Nat → Int32) : en_M Z K N 0 (-1) := Or.inl ⟨rfl, fun _ h => absurd h (Nat.not_lt_zero _)⟩
theorem en_Mn {Z : Int → Prop} {K N : Nat → Int32} {i : Nat} {r : Int32} (h : en_M Z K N i r) (c : ¬ Z (en_k (K i) (N i))) : en_M Z K N (i + 1) r := by
  rcases h with ⟨e, h⟩ | ⟨b, hb, e, z, h⟩
  · refine Or.inl ⟨e, fun j hj => ?_⟩
    by_cases q : j = i
    · subst q; exact c
    · exact h j (by omega)
  · refine Or.inr ⟨b, by omega, e, z, fun j hj zj => ?_⟩
    by_cases q : j = i
    · subst q; exact absurd zj c
    · exact h j (by omega) zj
theorem en_Mf {Z : Int → Prop} {K N : Nat → Int32} {i : Nat} (h : en_M Z K N i (-1)) (hi : i ≤ 32) (c : Z (en_k (K i) (N i))) : en_M Z K N (i + 1) (nI i) := by
  rcases h with ⟨e, h⟩ | ⟨b, hb, e, z, h⟩
  · refine Or.inr ⟨i, by omega, rfl, c, fun j hj zj => ?_⟩
    by_cases q : j = i
    · subst q; omega
    · exact absurd zj (h j (by omega))
  · have := nI_pos (n := b) (by omega)
    rw [← e] at this
    exact absurd (by decide) this
theorem en_Mb {Z : Int → Prop} {K N : Nat → Int32} {i b : Nat} (h : en_M Z K N i (nI b)) (hi : i ≤ 32) (hb : b < i) (c : Z (en_k (K i) (N i))) (l : en_k (K i) (N i) < en_k (K b) (N b)) : en_M Z K N (i + 1) (nI i) := by
  rcases h with ⟨e, h⟩ | ⟨b', hb', e, z, h⟩
  · have := nI_pos (n := b) (by omega)
    rw [e] at this
    exact absurd (by decide) this
  · have : b = b' := (nI_eq (by omega) (by omega)).mp e
    subst this
    refine Or.inr ⟨i, by omega, rfl, c, fun j hj zj => ?_⟩
    by_cases q : j = i
    · subst q; omega
    · have := h j (by omega) zj
      omega
theorem en_Mk {Z : Int → Prop} {K N : Nat → Int32} {i b : Nat} (h : en_M Z K N i (nI b)) (hi : i ≤ 32) (hb : b < i) (l : ¬ en_k (K i) (N i) < en_k (K b) (N b)) : en_M Z K N (i + 1) (nI b) := by
  rcases h with ⟨e, h⟩ | ⟨b', hb', e, z, h⟩
  · have := nI_pos (n := b) (by omega)
    rw [e] at this
    exact absurd (by decide) this
  · have : b = b' := (nI_eq (by omega) (by omega)).mp e
    subst this
    refine Or.inr ⟨b, by omega, rfl, z, fun j hj zj => ?_⟩
    by_cases q : j = i
    · subst q; omega
    · exact h j (by omega) zj
/-- the least key after is the one at q -/
theorem en_nx {Z : Int → Prop} {u q : Nat} {K N V K' N' V' : Nat → Int32} {r : Int32} (h : en_R u K N V K' N' V') (hq : q ≤ u) (lo : ∀ i, i < q → ¬ Z (en_k (K i) (N i))) (hi : ∀ i, q ≤ i → i < u → Z (en_k (K i) (N i))) (m : en_M Z K' N' u r) : (q = u ∧ r = -1) ∨ (q < u ∧ ∃ b, b < u ∧ r = nI b ∧ K' b = K q ∧ N' b = N q ∧ V' b = V q) := by
  rcases m with ⟨e, m⟩ | ⟨b, hb, e, z, m⟩
  · refine Or.inl ⟨?_, e⟩
    by_cases c : q = u
    · exact c
    · have c' : q < u := by omega
      obtain ⟨j, hj, e1, e2, _⟩ := en_Rx h c'
      have := m j hj
      rw [e1, e2] at this
      exact absurd (hi q (Nat.le_refl _) c') this
  · obtain ⟨i, hi', e1, e2, e3⟩ := en_Ry h hb
    have c1 : ¬ i < q := fun l => lo i l (by rw [e1, e2]; exact z)
    have c' : q < u := by omega
    obtain ⟨j, hj, f1, f2, _⟩ := en_Rx h c'
    have l := m j hj (by rw [f1, f2]; exact hi q (Nat.le_refl _) c')
    rw [f1, f2, ← e1, ← e2] at l
    have c2 : ¬ q < i := fun l' => by
      have := h.1 q i l' hi'
      omega
    have : i = q := by omega
    subst this
    exact Or.inr ⟨c', b, hb, e, e1.symm, e2.symm, e3.symm⟩

/-- a step of a shift to the right, of one to the left -/
def en_Rs (A A' : Nat → Int32) (u t : Nat) : Prop := (∀ i, i ≤ t → A' i = A i) ∧ (∀ i, t ≤ i → i < u → A' (i + 1) = A i)
theorem en_Rs0 (A : Nat → Int32) (u : Nat) : en_Rs A A u u := ⟨fun _ _ => rfl, fun i a b => absurd b (by omega)⟩
theorem en_RsS {A A' : Nat → Int32} {u t : Nat} (h : en_Rs A A' u (t + 1)) : en_Rs A (upd A' (t + 1) (A' t)) u t := by
  refine ⟨fun i hi => ?_, fun i a b => ?_⟩
  · rw [pk_un (by omega)]
    exact h.1 i (by omega)
  · by_cases c : i = t
    · subst c
      rw [pk_us]
      exact h.1 i (by omega)
    · rw [pk_un (by omega)]
      exact h.2 i (by omega) b
theorem en_RsE {A A' : Nat → Int32} {u p : Nat} (h : en_Rs A A' u p) (x : Int32) : en_Ins p u A (upd A' p x) x :=
  ⟨fun i hi => by rw [pk_un (by omega)]; exact h.1 i (by omega), pk_us, fun i a b => by rw [pk_un (by omega)]; exact h.2 i a b⟩
theorem en_End (A : Nat → Int32) (u : Nat) (x : Int32) : en_Ins u u A (upd A u x) x := en_RsE (en_Rs0 A u) x
def en_Ls' (A A' : Nat → Int32) (p t : Nat) : Prop := (∀ i, i < p → A' i = A i) ∧ (∀ i, p ≤ i → i < t → A' i = A (i + 1)) ∧ (∀ i, t ≤ i → A' i = A i)
theorem en_Ls0 (A : Nat → Int32) (p : Nat) : en_Ls' A A p p := ⟨fun _ _ => rfl, fun i a b => absurd b (by omega), fun _ _ => rfl⟩
theorem en_LsS {A A' : Nat → Int32} {p t : Nat} (hp : p ≤ t) (h : en_Ls' A A' p t) : en_Ls' A (upd A' t (A' (t + 1))) p (t + 1) := by
  refine ⟨fun i hi => ?_, fun i a b => ?_, fun i a => ?_⟩
  · rw [pk_un (by omega)]
    exact h.1 i hi
  · by_cases c : i = t
    · subst c
      rw [pk_us]
      exact h.2.2 (i + 1) (by omega)
    · rw [pk_un (by omega)]
      exact h.2.1 i a (by omega)
  · rw [pk_un (by omega)]
    exact h.2.2 i (by omega)
theorem en_LsE {A A' : Nat → Int32} {p u : Nat} (h : en_Ls' A A' p (u - 1)) : en_Del p u A A' := ⟨h.1, fun i a b => h.2.1 i a (by omega)⟩
end
section
section
variable {cc u sn pn : Nat} {rk rv : Int32} {K N V nm nl pd : Nat → Int32}
theorem sy_ix (a i : Nat) : nI a * 8 + nI i = nI (a * 8 + i) := by
  rw [show (8 : Int32) = nI 8 from rfl, pk_mul, nI_add]
theorem en_Plx {K N : Nat → Int32} {k n : Int32} : ∀ {u : Nat}, en_S K N u → ∃ p, en_Pl K N u k n p := by
  intro u hs
  have : ∀ d i, i + d = u → (∀ j, j < i → en_k (K j) (N j) < en_k k n) → ∃ p, en_Pl K N u k n p := by
    intro d
    induction d with
    | zero => intro i hi h; exact ⟨i, en_PlI hs (by omega) h (fun z => absurd z (by omega))⟩
    | succ d ih =>
      intro i hi h
      by_cases c : en_k (K i) (N i) < en_k k n
      · refine ih (i + 1) (by omega) (fun j hj => ?_)
        by_cases e : j = i
        · subst e; exact c
        · exact h j (by omega)
      · exact ⟨i, en_PlI hs (by omega) h (fun _ => c)⟩
  exact this u 0 (by omega) (fun j hj => absurd hj (by omega))
theorem xb_isBefore {i : Nat} {k n : Int32} {post : Int32 → Prop} (hi : i < 32) (h1 : en_k (K i) (N i) < en_k k n → post 1) (h0 : ¬ en_k (K i) (N i) < en_k k n → post 0) : wpX_isBefore post (nI cc, nI u, nI sn, nI pn, rk, rv, K, N, V, nm, nl, pd) (nI i) k n := by
  unfold wpX_isBefore
  refine ⟨vp_in_nI hi (by omega), ?_⟩
  rw [nI_clamp (show i < 2 ^ 31 by omega)]
  refine br_c (fun a => ⟨vp_in_nI hi (by omega), ?_⟩) (fun a => ⟨vp_in_nI hi (by omega), ?_⟩)
  · have q : en_k (K i) (N i) < en_k k n ↔ ¬ n ≤ N i := by rw [a, en_ltE, Int32.not_le]
    exact br_c (fun b => h0 (fun z => q.mp z b)) (fun b => h1 (q.mpr b))
  · have q : en_k (K i) (N i) < en_k k n ↔ ¬ k ≤ K i := by rw [en_ltN _ _ a, Int32.not_le]
    exact br_c (fun b => h0 (fun z => q.mp z b)) (fun b => h1 (q.mpr b))
theorem xb_placeOf {k n : Int32} {p : Nat} {post : Int32 → Prop} (hu : u ≤ 32) (h : en_Pl K N u k n p) (H : post (nI p)) : wpX_placeOf post (nI cc, nI u, nI sn, nI pn, rk, rv, K, N, V, nm, nl, pd) k n := by
  obtain ⟨h1, h2, h3⟩ := h
  exact pk_loop (σ := Unit) (fun f i _ => wX_placeOf_2 post k n (nI cc) (nI u) (nI sn) (nI pn) rk rv K N V nm nl pd f (nI i)) (fun _ _ => True) p 0 () (Nat.zero_le _) trivial
    (fun f _ _ => pk_le u p (fun _ => H) (fun z => xb_isBefore (by omega) (fun q => absurd q (by have := h3 p (Nat.le_refl _) z; omega)) (fun _ => br_t rfl H)))
    (fun f i _ hi _ hw => pk_le u i (fun z => absurd z (by omega)) (fun z => xb_isBefore (by omega) (fun _ => br_f (by decide) (nm_r (nI_1 i) (hw () trivial))) (fun q => absurd (h2 i hi) q)))
theorem xb_isAt {k n : Int32} {p : Nat} {post : Int32 → Prop} (hp : p ≤ u) (hu : u ≤ 32) (h1 : en_At K N u k n p → post 1) (h0 : ¬ en_At K N u k n p → post 0) : wpX_isAt post (nI cc, nI u, nI sn, nI pn, rk, rv, K, N, V, nm, nl, pd) (nI p) k n := by
  unfold wpX_isAt
  rw [nI_clamp (show p < 2 ^ 31 by omega)]
  refine pk_le u p (fun z => h0 (fun a => absurd a.1 (by omega))) (fun z => ⟨vp_in_nI (by omega) (by omega), br_c (fun a => ⟨vp_in_nI (by omega) (by omega), br_c (fun b => h1 ⟨z, a, b⟩) (fun b => h0 (fun q => b q.2.2))⟩) (fun a => h0 (fun q => a q.2.1))⟩)
/-- a key that the calls take -/
def en_Va (sn : Nat) (k n : Int32) : Prop := k = 0 ∨ (k = 1 ∧ ∃ j, j < sn ∧ n = nI j)
theorem xb_isSymbol {n : Int32} {post : Int32 → Prop} (hs : sn ≤ 16) (h1 : (∃ j, j < sn ∧ n = nI j) → post 1) (h0 : ¬ (∃ j, j < sn ∧ n = nI j) → post 0) : wpX_isSymbol post (nI cc, nI u, nI sn, nI pn, rk, rv, K, N, V, nm, nl, pd) n := by
  unfold wpX_isSymbol
  refine br_c (fun a => h0 ?_) (fun a => ?_)
  · rintro ⟨j, hj, rfl⟩
    exact absurd a (nI_pos (by omega))
  · obtain ⟨j, hj, rfl⟩ := nI_of a
    refine pk_le sn j (fun z => h0 ?_) (fun z => h1 ⟨j, z, rfl⟩)
    rintro ⟨i, hi, e⟩
    have := (nI_eq hj (by omega)).mp e
    omega
theorem xb_isValid {k n : Int32} {post : Int32 → Prop} (hs : sn ≤ 16) (h1 : en_Va sn k n → post 1) (h0 : ¬ en_Va sn k n → post 0) : wpX_isValid post (nI cc, nI u, nI sn, nI pn, rk, rv, K, N, V, nm, nl, pd) k n := by
  unfold wpX_isValid
  refine br_c (fun a => xb_isSymbol hs (fun h => ⟨rfl, h1 (Or.inr ⟨a, h⟩)⟩) (fun h => ⟨rfl, h0 ?_⟩)) (fun a => br_c (fun b => h1 (Or.inl b)) (fun b => h0 ?_))
  · rintro (z | z)
    · rw [a] at z; exact absurd z (by decide)
    · exact h z.2
  · rintro (z | z)
    · exact b z
    · exact a z.1
theorem xb_move {a b : Nat} {x y : Int32} {post : SX → Prop} (hx : x = nI a) (hy : y = nI b) (ha : a < 32) (hb : b < 32) (H : post (nI cc, nI u, nI sn, nI pn, rk, rv, upd K b (K a), upd N b (N a), upd V b (V a), nm, nl, pd)) : wpX_moveEntry post (nI cc, nI u, nI sn, nI pn, rk, rv, K, N, V, nm, nl, pd) x y := by
  subst hx hy
  unfold wpX_moveEntry
  rw [nI_clamp (show a < 2 ^ 31 by omega), nI_clamp (show b < 2 ^ 31 by omega)]
  exact ⟨vp_in_nI ha (by omega), vp_in_nI hb (by omega), nm_e ⟨vp_in_nI ha (by omega), vp_in_nI hb (by omega), nm_e ⟨vp_in_nI ha (by omega), vp_in_nI hb (by omega), nm_e H⟩⟩⟩
theorem xb_removeL {p : Nat} (hu : u ≤ 32) (hu0 : 0 < u) : ∀ d t, p ≤ t → t + d + 1 = u → ∀ A B C : Nat → Int32, en_Ls' K A p t → en_Ls' N B p t → en_Ls' V C p t → ∃ A' B' C' : Nat → Int32, en_Del p u K A' ∧ en_Del p u N B' ∧ en_Del p u V C' ∧ ∀ post : SX → Prop, post (nI cc, nI (u - 1), nI sn, nI pn, rk, rv, A', B', C', nm, nl, pd) → wX_removeAt_2 post (d + 1) (nI t) (nI cc) (nI u) (nI sn) (nI pn) rk rv A B C nm nl pd := by
  have e1 : nI u - 1 = nI (u - 1) := by
    obtain ⟨w, rfl⟩ : ∃ w, u = w + 1 := ⟨u - 1, by omega⟩
    exact nI_pred w
  intro d
  induction d with
  | zero =>
    intro t hp ht A B C a b c
    have e : t = u - 1 := by omega
    subst e
    refine ⟨A, B, C, en_LsE a, en_LsE b, en_LsE c, fun post H => ?_⟩
    exact br_t (by rw [e1]; exact nI_le (Nat.le_refl _) (by omega)) (nm_r e1 H)
  | succ d ih =>
    intro t hp ht A B C a b c
    obtain ⟨A', B', C', a', b', c', h⟩ := ih (t + 1) (by omega) (by omega) _ _ _ (en_LsS hp a) (en_LsS hp b) (en_LsS hp c)
    refine ⟨A', B', C', a', b', c', fun post H => ?_⟩
    exact br_f (by rw [e1]; exact nI_ge (by omega) (by omega)) (xb_move (nI_1 t) rfl (by omega) (by omega) (nm_r (nI_1 t) (h post H)))
theorem xb_removeAt {p : Nat} (hp : p < u) (hu : u ≤ 32) : ∃ A B C : Nat → Int32, en_Del p u K A ∧ en_Del p u N B ∧ en_Del p u V C ∧ ∀ post : SX → Prop, post (nI cc, nI (u - 1), nI sn, nI pn, rk, rv, A, B, C, nm, nl, pd) → wpX_removeAt post (nI cc, nI u, nI sn, nI pn, rk, rv, K, N, V, nm, nl, pd) (nI p) := by
  obtain ⟨A, B, C, a, b, c, h⟩ := xb_removeL (cc := cc) (sn := sn) (pn := pn) (rk := rk) (rv := rv) (K := K) (N := N) (V := V) (nm := nm) (nl := nl) (pd := pd) hu (by omega) (u - 1 - p) p (Nat.le_refl _) (by omega) K N V (en_Ls0 K p) (en_Ls0 N p) (en_Ls0 V p)
  exact ⟨A, B, C, a, b, c, fun post H => ⟨_, h post H⟩⟩
theorem xb_insertL {p : Nat} (k n v : Int32) (hp : p ≤ u) (hu : u < 32) : ∀ d t, t = p + d → t ≤ u → ∀ A B C : Nat → Int32, en_Rs K A u t → en_Rs N B u t → en_Rs V C u t → ∃ A' B' C' : Nat → Int32, en_Ins p u K A' k ∧ en_Ins p u N B' n ∧ en_Ins p u V C' v ∧ ∀ post : SX → Prop, post (nI cc, nI (u + 1), nI sn, nI pn, rk, rv, A', B', C', nm, nl, pd) → wX_insertAt_6 post (nI p) k n v (d + 1) (nI t) (nI cc) (nI u) (nI sn) (nI pn) rk rv A B C nm nl pd := by
  intro d
  induction d with
  | zero =>
    intro t ht htu A B C a b c
    have e : t = p := by omega
    subst e
    refine ⟨_, _, _, en_RsE a k, en_RsE b n, en_RsE c v, fun post H => ?_⟩
    have i : vp_in (nI t) 32 := vp_in_nI (by omega) (by omega)
    refine br_t (nI_le (Nat.le_refl _) (by omega)) ⟨i, ?_⟩
    rw [nI_clamp (show t < 2 ^ 31 by omega)]
    exact nm_e ⟨i, nm_e ⟨i, nm_e (nm_r (nI_1 u) H)⟩⟩
  | succ d ih =>
    intro t ht htu A B C a b c
    obtain ⟨w, rfl⟩ : ∃ w, t = w + 1 := ⟨t - 1, by omega⟩
    obtain ⟨A', B', C', a', b', c', h⟩ := ih w (by omega) (by omega) _ _ _ (en_RsS a) (en_RsS b) (en_RsS c)
    refine ⟨A', B', C', a', b', c', fun post H => ?_⟩
    exact br_f (nI_ge (by omega) (by omega)) (xb_move (nI_pred w) rfl (by omega) (by omega) (nm_r (pk_m1 w) (h post H)))
theorem xb_insertAt {p : Nat} (k n v : Int32) (hp : p ≤ u) (hu : u < 32) : ∃ A B C : Nat → Int32, en_Ins p u K A k ∧ en_Ins p u N B n ∧ en_Ins p u V C v ∧ ∀ post : SX → Prop, post (nI cc, nI (u + 1), nI sn, nI pn, rk, rv, A, B, C, nm, nl, pd) → wpX_insertAt post (nI cc, nI u, nI sn, nI pn, rk, rv, K, N, V, nm, nl, pd) (nI p) k n v := by
  obtain ⟨A, B, C, a, b, c, h⟩ := xb_insertL (cc := cc) (sn := sn) (pn := pn) (rk := rk) (rv := rv) (K := K) (N := N) (V := V) (nm := nm) (nl := nl) (pd := pd) k n v hp hu (u - p) u (by omega) (Nat.le_refl _) K N V (en_Rs0 K u) (en_Rs0 N u) (en_Rs0 V u)
  exact ⟨A, B, C, a, b, c, fun post H => ⟨_, h post H⟩⟩
theorem xs_del {k n : Int32} {p : Nat} (hs : sn ≤ 16) (hu : u ≤ 32) (va : en_Va sn k n) (h : en_Pl K N u k n p) (a : en_At K N u k n p) : ∃ A B C : Nat → Int32, en_Del p u K A ∧ en_Del p u N B ∧ en_Del p u V C ∧ ∀ post : Int32 → SX → Prop, post 1 (nI cc, nI (u - 1), nI sn, nI pn, rk, rv, A, B, C, nm, nl, pd) → wpX_set post (nI cc, nI u, nI sn, nI pn, rk, rv, K, N, V, nm, nl, pd) k n 0 := by
  obtain ⟨A, B, C, q1, q2, q3, R⟩ := xb_removeAt (cc := cc) (sn := sn) (pn := pn) (rk := rk) (rv := rv) (K := K) (N := N) (V := V) (nm := nm) (nl := nl) (pd := pd) a.1 hu
  refine ⟨A, B, C, q1, q2, q3, fun post H => ?_⟩
  unfold wpX_set
  refine xb_isValid hs (fun _ => br_f (by decide) ?_) (fun z => absurd va z)
  refine xb_placeOf hu h ?_
  refine xb_isAt h.1 hu (fun _ => ?_) (fun z => absurd a z)
  exact br_t rfl (br_f (by decide) (R _ H))
theorem xs_upd {k n v : Int32} {p : Nat} {post : Int32 → SX → Prop} (hs : sn ≤ 16) (hu : u ≤ 32) (va : en_Va sn k n) (h : en_Pl K N u k n p) (a : en_At K N u k n p) (v0 : ¬ v = 0) (H : post 1 (nI cc, nI u, nI sn, nI pn, rk, rv, K, N, upd V p v, nm, nl, pd)) : wpX_set post (nI cc, nI u, nI sn, nI pn, rk, rv, K, N, V, nm, nl, pd) k n v := by
  have hp := a.1
  unfold wpX_set
  refine xb_isValid hs (fun _ => br_f (by decide) ?_) (fun z => absurd va z)
  refine xb_placeOf hu h ?_
  refine xb_isAt h.1 hu (fun _ => ?_) (fun z => absurd a z)
  exact br_f v0 (br_f (by decide) ⟨vp_in_nI (by omega) (by omega), nm_r (by rw [nI_clamp (by omega)]) H⟩)
theorem xs_keep {k n : Int32} {p : Nat} {post : Int32 → SX → Prop} (hs : sn ≤ 16) (hu : u ≤ 32) (va : en_Va sn k n) (h : en_Pl K N u k n p) (a : ¬ en_At K N u k n p) (H : post 1 (nI cc, nI u, nI sn, nI pn, rk, rv, K, N, V, nm, nl, pd)) : wpX_set post (nI cc, nI u, nI sn, nI pn, rk, rv, K, N, V, nm, nl, pd) k n 0 := by
  unfold wpX_set
  refine xb_isValid hs (fun _ => br_f (by decide) ?_) (fun z => absurd va z)
  refine xb_placeOf hu h ?_
  refine xb_isAt h.1 hu (fun z => absurd z a) (fun _ => ?_)
  exact br_t rfl (br_t rfl H)
theorem xs_full {k n v : Int32} {p : Nat} {post : Int32 → SX → Prop} (hs : sn ≤ 16) (hu : u ≤ 32) (va : en_Va sn k n) (h : en_Pl K N u k n p) (a : ¬ en_At K N u k n p) (v0 : ¬ v = 0) (f : cc ≤ u) (H : post 0 (nI cc, nI u, nI sn, nI pn, rk, rv, K, N, V, nm, nl, pd)) : wpX_set post (nI cc, nI u, nI sn, nI pn, rk, rv, K, N, V, nm, nl, pd) k n v := by
  unfold wpX_set
  refine xb_isValid hs (fun _ => br_f (by decide) ?_) (fun z => absurd va z)
  refine xb_placeOf hu h ?_
  refine xb_isAt h.1 hu (fun z => absurd z a) (fun _ => ?_)
  exact br_f v0 (br_t rfl (br_f (nI_nlt f (by omega)) H))
theorem xs_ins {k n v : Int32} {p : Nat} (hs : sn ≤ 16) (hu : u ≤ 32) (va : en_Va sn k n) (h : en_Pl K N u k n p) (a : ¬ en_At K N u k n p) (v0 : ¬ v = 0) (f : u < cc) (hc : cc ≤ 32) : ∃ A B C : Nat → Int32, en_Ins p u K A k ∧ en_Ins p u N B n ∧ en_Ins p u V C v ∧ ∀ post : Int32 → SX → Prop, post 1 (nI cc, nI (u + 1), nI sn, nI pn, rk, rv, A, B, C, nm, nl, pd) → wpX_set post (nI cc, nI u, nI sn, nI pn, rk, rv, K, N, V, nm, nl, pd) k n v := by
  obtain ⟨A, B, C, q1, q2, q3, R⟩ := xb_insertAt (cc := cc) (sn := sn) (pn := pn) (rk := rk) (rv := rv) (K := K) (N := N) (V := V) (nm := nm) (nl := nl) (pd := pd) k n v h.1 (by omega)
  refine ⟨A, B, C, q1, q2, q3, fun post H => ?_⟩
  unfold wpX_set
  refine xb_isValid hs (fun _ => br_f (by decide) ?_) (fun z => absurd va z)
  refine xb_placeOf hu h ?_
  refine xb_isAt h.1 hu (fun z => absurd z a) (fun _ => ?_)
  exact br_f v0 (br_t rfl (br_t (nI_lt f (by omega)) (R _ H)))
theorem xs_inv {k n v : Int32} {post : Int32 → SX → Prop} (hs : sn ≤ 16) (va : ¬ en_Va sn k n) (H : post 0 (nI cc, nI u, nI sn, nI pn, rk, rv, K, N, V, nm, nl, pd)) : wpX_set post (nI cc, nI u, nI sn, nI pn, rk, rv, K, N, V, nm, nl, pd) k n v := by
  unfold wpX_set
  exact xb_isValid hs (fun z => absurd z va) (fun _ => br_t rfl H)
theorem xg_get {k n : Int32} {post : Int32 → Prop} (hs : sn ≤ 16) (hu : u ≤ 32) (S : en_S K N u) (Hi : ¬ en_Va sn k n → post 0) (H1 : en_Va sn k n → ∀ i, i < u → K i = k → N i = n → post (V i)) (H0 : en_Va sn k n → (∀ i, i < u → ¬ (K i = k ∧ N i = n)) → post 0) : wpX_get post (nI cc, nI u, nI sn, nI pn, rk, rv, K, N, V, nm, nl, pd) k n := by
  obtain ⟨p, h⟩ := en_Plx (k := k) (n := n) S
  have hp := h.1
  unfold wpX_get
  refine xb_isValid hs (fun va => br_f (by decide) ?_) (fun z => br_t rfl (Hi z))
  refine xb_placeOf hu h ?_
  refine xb_isAt hp hu (fun a => br_f (by decide) ⟨vp_in_nI (by have := a.1; omega) (by omega), ?_⟩) (fun a => br_t rfl (H0 va (en_NatX h a S)))
  rw [nI_clamp (show p < 2 ^ 31 by omega)]
  exact H1 va p a.1 a.2.1 a.2.2
theorem xl_length (hu : u ≤ 32) (S : en_S K N u) : ∃ b, en_B K N u b ∧ ∀ post : Int32 → Prop, post (nI b) → wpX_length post (nI cc, nI u, nI sn, nI pn, rk, rv, K, N, V, nm, nl, pd) := by
  have L : ∀ d p b, p + d = u → en_B K N p b → ∃ b', en_B K N u b' ∧ ∀ post : Int32 → Prop, post (nI b') → wX_length_4 post (nI cc) (nI u) (nI sn) (nI pn) rk rv K N V nm nl pd (d + 1) (nI b) (nI p) := by
    intro d
    induction d with
    | zero =>
      intro p b hp B
      have e : p = u := by omega
      subst e
      exact ⟨b, B, fun post H => br_t (nI_le (Nat.le_refl _) (by omega)) H⟩
    | succ d ih =>
      intro p b hp B
      have hb := B.1
      have i : vp_in (nI p) 32 := vp_in_nI (by omega) (by omega)
      have g : ¬ nI u ≤ nI p := nI_ge (by omega) (by omega)
      have cl : (nI p).toNatClampNeg = p := nI_clamp (by omega)
      by_cases c1 : K p = 0
      · by_cases c2 : N p = nI (b + 1)
        · obtain ⟨b', B', h⟩ := ih (p + 1) (b + 1) (by omega) (en_Bk S (by omega) hu B c1 c2)
          exact ⟨b', B', fun post H => br_f g ⟨i, br_t (by rw [cl]; exact c1) ⟨i, br_t (by rw [cl, nI_1]; exact c2) (nm_r (nI_1 b) (nm_r (nI_1 p) (h post H)))⟩⟩⟩
        · obtain ⟨b', B', h⟩ := ih (p + 1) b (by omega) (en_Bd B (fun z => c2 z.2))
          exact ⟨b', B', fun post H => br_f g ⟨i, br_t (by rw [cl]; exact c1) ⟨i, br_f (by rw [cl, nI_1]; exact c2) (nm_r (nI_1 p) (h post H))⟩⟩⟩
      · obtain ⟨b', B', h⟩ := ih (p + 1) b (by omega) (en_Bd B (fun z => c1 z.1))
        exact ⟨b', B', fun post H => br_f g ⟨i, br_f (by rw [cl]; exact c1) (nm_r (nI_1 p) (h post H))⟩⟩
  obtain ⟨b, B, h⟩ := L u 0 0 (by omega) (en_B0 K N)
  exact ⟨b, B, fun post H => ⟨_, h post H⟩⟩
theorem xr_some {q : Nat} {x : Int32} {post : Int32 → SX → Prop} (hx : x = nI q) (hq : q < u) (hu : u ≤ 32) (H : post (K q) (nI cc, nI u, nI sn, nI pn, N q, V q, K, N, V, nm, nl, pd)) : wpX_recordAt post (nI cc, nI u, nI sn, nI pn, rk, rv, K, N, V, nm, nl, pd) x := by
  subst hx
  unfold wpX_recordAt
  have i : vp_in (nI q) 32 := vp_in_nI (by omega) (by omega)
  rw [nI_clamp (show q < 2 ^ 31 by omega)]
  exact br_t (nI_lt hq (by omega)) ⟨i, nm_e ⟨i, nm_e ⟨i, H⟩⟩⟩
theorem xr_none {x : Int32} {post : Int32 → SX → Prop} (hx : x = nI u) (hu : u ≤ 32) (H : post 2 (nI cc, nI u, nI sn, nI pn, 0, 0, K, N, V, nm, nl, pd)) : wpX_recordAt post (nI cc, nI u, nI sn, nI pn, rk, rv, K, N, V, nm, nl, pd) x := by
  subst hx
  unfold wpX_recordAt
  exact br_f (nI_nlt (Nat.le_refl _) (by omega)) H
/-- next: the row falls in two at q -/
theorem xn_next {k n : Int32} (hs : sn ≤ 16) (hu : u ≤ 32) (S : en_S K N u) (va : k = 2 ∨ en_Va sn k n) : ∃ q, q ≤ u ∧ (∀ i, i < q → ¬ (k = 2 ∨ en_k k n < en_k (K i) (N i))) ∧ (∀ i, q ≤ i → i < u → (k = 2 ∨ en_k k n < en_k (K i) (N i))) ∧ ∀ (r : Int32) (w : SX), (∀ P : Int32 → SX → Prop, P r w → wpX_recordAt P (nI cc, nI u, nI sn, nI pn, rk, rv, K, N, V, nm, nl, pd) (nI q)) → ∀ post : Int32 → SX → Prop, post r w → wpX_next post (nI cc, nI u, nI sn, nI pn, rk, rv, K, N, V, nm, nl, pd) k n := by
  by_cases k2 : k = 2
  · refine ⟨0, Nat.zero_le _, fun i h => absurd h (by omega), fun _ _ _ => Or.inl k2, ?_⟩
    rintro r ⟨w1, w2, w3, w4, w5, w6, w7, w8, w9, w10, w11, w12⟩ R post H
    unfold wpX_next
    exact br_t k2 (R _ H)
  · have va' : en_Va sn k n := va.resolve_left k2
    obtain ⟨p, h⟩ := en_Plx (k := k) (n := n) S
    have hp := h.1
    by_cases a : en_At K N u k n p
    · have q := en_AtX a S
      refine ⟨p + 1, a.1, fun i hi z => q.1 i hi (z.resolve_left k2), fun i h1 h2 => Or.inr (q.2 i h1 h2), ?_⟩
      rintro r ⟨w1, w2, w3, w4, w5, w6, w7, w8, w9, w10, w11, w12⟩ R post H
      unfold wpX_next
      refine br_f k2 (xb_isValid hs (fun _ => br_f (by decide) ?_) (fun z => absurd va' z))
      refine xb_placeOf hu h ?_
      exact xb_isAt hp hu (fun _ => br_f (by decide) (nm_r (nI_1 p) (R _ H))) (fun z => absurd a z)
    · have q := en_Nat h a S
      refine ⟨p, hp, fun i hi z => en_NatL h i hi (z.resolve_left k2), fun i h1 h2 => Or.inr (q i h1 h2), ?_⟩
      rintro r ⟨w1, w2, w3, w4, w5, w6, w7, w8, w9, w10, w11, w12⟩ R post H
      unfold wpX_next
      refine br_f k2 (xb_isValid hs (fun _ => br_f (by decide) ?_) (fun z => absurd va' z))
      refine xb_placeOf hu h ?_
      exact xb_isAt hp hu (fun z => absurd z a) (fun _ => br_t rfl (R _ H))
theorem xn_inv {k n : Int32} {post : Int32 → SX → Prop} (hs : sn ≤ 16) (va : ¬ (k = 2 ∨ en_Va sn k n)) (H : post (-1) (nI cc, nI u, nI sn, nI pn, rk, rv, K, N, V, nm, nl, pd)) : wpX_next post (nI cc, nI u, nI sn, nI pn, rk, rv, K, N, V, nm, nl, pd) k n := by
  unfold wpX_next
  exact br_f (fun z => va (Or.inl z)) (xb_isValid hs (fun z => absurd (Or.inr z) va) (fun _ => br_t rfl H))
theorem xp_purge (lim : Int32) (hu : u ≤ 32) : ∃ (w : Nat) (A B C : Nat → Int32), en_P lim K N V A B C u w ∧ ∀ post : Int32 → SX → Prop, post (nI (u - w)) (nI cc, nI w, nI sn, nI pn, rk, rv, A, B, C, nm, nl, pd) → wpX_purgeBelow post (nI cc, nI u, nI sn, nI pn, rk, rv, K, N, V, nm, nl, pd) lim := by
  have L : ∀ d i w, i + d = u → ∀ A B C : Nat → Int32, en_P lim K N V A B C i w → ∃ (w' : Nat) (A' B' C' : Nat → Int32), en_P lim K N V A' B' C' u w' ∧ ∀ post : Int32 → SX → Prop, post (nI (u - w')) (nI cc, nI w', nI sn, nI pn, rk, rv, A', B', C', nm, nl, pd) → wX_purgeBelow_10 post lim (nI u) (d + 1) (nI w) (nI i) (nI cc) (nI u) (nI sn) (nI pn) rk rv A B C nm nl pd := by
    intro d
    induction d with
    | zero =>
      intro i w hi A B C P
      have e : i = u := by omega
      subst e
      have hw := P.1
      exact ⟨w, A, B, C, P, fun post H => br_t (nI_le (Nat.le_refl _) (by omega)) (by rw [pk_sub hw]; exact H)⟩
    | succ d ih =>
      intro i w hi A B C P
      have hw := P.1
      have iv : vp_in (nI i) 32 := vp_in_nI (by omega) (by omega)
      have g : ¬ nI u ≤ nI i := nI_ge (by omega) (by omega)
      have cl : (nI i).toNatClampNeg = i := nI_clamp (by omega)
      by_cases c : lim ≤ C i
      · obtain ⟨w', A', B', C', P', h⟩ := ih (i + 1) (w + 1) (by omega) _ _ _ (en_Pk P c)
        exact ⟨w', A', B', C', P', fun post H => br_f g ⟨iv, br_f (by rw [cl, Int32.not_lt]; exact c) (xb_move rfl rfl (by omega) (by omega) (nm_r (nI_1 w) (nm_r (nI_1 i) (h post H))))⟩⟩
      · obtain ⟨w', A', B', C', P', h⟩ := ih (i + 1) w (by omega) _ _ _ (en_Pd P c)
        exact ⟨w', A', B', C', P', fun post H => br_f g ⟨iv, br_t (by rw [cl, ← Int32.not_le]; exact c) (nm_r (nI_1 i) (h post H))⟩⟩
  obtain ⟨w, A, B, C, P, h⟩ := L u 0 0 (by omega) K N V (en_P0 lim K N V)
  exact ⟨w, A, B, C, P, fun post H => ⟨_, h post H⟩⟩
end
end
section
section
variable {cc u sn pn : Nat} {rk rv : Int32} {K N V nm nl pd : Nat → Int32}
/-- the name of s is what is pending -/
def sy_E (nm nl pd : Nat → Int32) (pn s : Nat) : Prop := nl s = nI pn ∧ ∀ i, i < pn → nm (s * 8 + i) = pd i
theorem sy_ext {f : Nat → Prop} {i : Nat} (h : ∀ j, j < i → f j) (c : f i) : ∀ j, j < i + 1 → f j := by
  intro j hj
  by_cases e : j = i
  · subst e; exact c
  · exact h j (by omega)
theorem xy_isName {s : Nat} {post : Int32 → Prop} (hs : s < 16) (hp : pn ≤ 8) (h1 : sy_E nm nl pd pn s → post 1) (h0 : ¬ sy_E nm nl pd pn s → post 0) : wpX_isPendingName post (nI cc, nI u, nI sn, nI pn, rk, rv, K, N, V, nm, nl, pd) (nI s) := by
  unfold wpX_isPendingName
  refine ⟨vp_in_nI hs (by omega), ?_⟩
  rw [nI_clamp (show s < 2 ^ 31 by omega)]
  refine br_c (fun a => ?_) (fun a => h0 (fun z => a z.1))
  have L : ∀ d i, i + d = pn → (∀ j, j < i → nm (s * 8 + j) = pd j) → wX_isPendingName_17 post (nI s) (nI cc) (nI u) (nI sn) (nI pn) rk rv K N V nm nl pd (d + 1) (nI i) := by
    intro d
    induction d with
    | zero =>
      intro i hi h
      have e : i = pn := by omega
      subst e
      exact br_t (nI_le (Nat.le_refl _) (by omega)) (h1 ⟨a, h⟩)
    | succ d ih =>
      intro i hi h
      refine br_f (nI_ge (by omega) (by omega)) ?_
      rw [sy_ix, nI_clamp (show s * 8 + i < 2 ^ 31 by omega), nI_clamp (show i < 2 ^ 31 by omega)]
      refine ⟨vp_in_nI (by omega) (by omega), vp_in_nI (by omega) (by omega), br_c (fun c => nm_r (nI_1 i) (ih (i + 1) (by omega) (sy_ext (f := fun j => nm (s * 8 + j) = pd j) h c))) (fun c => h0 (fun z => c (z.2 i (by omega))))⟩
  exact ⟨_, L pn 0 (by omega) (fun j hj => absurd hj (by omega))⟩
theorem xy_some {s : Nat} {post : Int32 → Prop} (hn : sn ≤ 16) (hp : pn ≤ 8) (hs : s < sn) (E : sy_E nm nl pd pn s) (l : ∀ t, t < s → ¬ sy_E nm nl pd pn t) (H : post (nI s)) : wpX_findPending post (nI cc, nI u, nI sn, nI pn, rk, rv, K, N, V, nm, nl, pd) :=
  pk_loop (σ := Unit) (fun f i _ => wX_findPending_2 post (nI cc) (nI u) (nI sn) (nI pn) rk rv K N V nm nl pd f (nI i)) (fun _ _ => True) s 0 () (Nat.zero_le _) trivial
    (fun f _ _ => pk_le sn s (fun z => absurd z (by omega)) (fun _ => xy_isName (by omega) hp (fun _ => br_f (by decide) H) (fun z => absurd E z)))
    (fun f i _ hi _ hw => pk_le sn i (fun z => absurd z (by omega)) (fun _ => xy_isName (by omega) hp (fun z => absurd z (l i hi)) (fun _ => br_t rfl (nm_r (nI_1 i) (hw () trivial)))))
theorem xy_none {post : Int32 → Prop} (hn : sn ≤ 16) (hp : pn ≤ 8) (l : ∀ t, t < sn → ¬ sy_E nm nl pd pn t) (H : post (-1)) : wpX_findPending post (nI cc, nI u, nI sn, nI pn, rk, rv, K, N, V, nm, nl, pd) :=
  pk_loop (σ := Unit) (fun f i _ => wX_findPending_2 post (nI cc) (nI u) (nI sn) (nI pn) rk rv K N V nm nl pd f (nI i)) (fun _ _ => True) sn 0 () (Nat.zero_le _) trivial
    (fun f _ _ => pk_le sn sn (fun _ => H) (fun z => absurd z (by omega)))
    (fun f i _ hi _ hw => pk_le sn i (fun z => absurd z (by omega)) (fun _ => xy_isName (by omega) hp (fun z => absurd z (l i hi)) (fun _ => br_t rfl (nm_r (nI_1 i) (hw () trivial)))))
/-- the names with n characters of what is pending copied to b -/
def sy_cp (nm pd : Nat → Int32) (b : Nat) : Nat → (Nat → Int32)
  | 0 => nm
  | n + 1 => upd (sy_cp nm pd b n) (b + n) (vp_nar .char (pd n))
theorem xy_add {post : Int32 → SX → Prop} (hn : sn < 16) (hp : pn ≤ 8) (H : post (nI sn) (nI cc, nI u, nI (sn + 1), nI pn, rk, rv, K, N, V, sy_cp nm pd (sn * 8) pn, upd nl sn (nI pn), pd)) : wpX_addPending post (nI cc, nI u, nI sn, nI pn, rk, rv, K, N, V, nm, nl, pd) := by
  have L : ∀ d i, i + d = pn → wX_addPending_7 post (nI sn) (nI cc) (nI u) (nI sn) (nI pn) rk rv (d + 1) (nI i) K N V (sy_cp nm pd (sn * 8) i) nl pd := by
    intro d
    induction d with
    | zero =>
      intro i hi
      have e : i = pn := by omega
      subst e
      exact br_t (nI_le (Nat.le_refl _) (by omega)) ⟨vp_in_nI hn (by omega), nm_r (by rw [nI_clamp (by omega)]) (nm_r (nI_1 sn) H)⟩
    | succ d ih =>
      intro i hi
      refine br_f (nI_ge (by omega) (by omega)) ?_
      rw [sy_ix, nI_clamp (show sn * 8 + i < 2 ^ 31 by omega), nI_clamp (show i < 2 ^ 31 by omega)]
      exact ⟨vp_in_nI (by omega) (by omega), vp_in_nI (by omega) (by omega), nm_e (nm_r (nI_1 i) (ih (i + 1) (by omega)))⟩
  exact ⟨_, L pn 0 (by omega)⟩
theorem xy_len {n : Int32} {post : Int32 → Prop} (hs : sn ≤ 16) (h1 : n = -1 → post (nI pn)) (h2 : ∀ j, j < sn → n = nI j → post (nl j)) (h3 : ¬ n = -1 → ¬ (∃ j, j < sn ∧ n = nI j) → post (-1)) : wpX_symbolLength post (nI cc, nI u, nI sn, nI pn, rk, rv, K, N, V, nm, nl, pd) n := by
  unfold wpX_symbolLength
  refine br_c h1 (fun a => xb_isSymbol hs (fun h => br_f (by decide) ?_) (fun h => br_t rfl (h3 a h)))
  obtain ⟨j, hj, rfl⟩ := h
  refine ⟨vp_in_nI (by omega) (by omega), ?_⟩
  rw [nI_clamp (show j < 2 ^ 31 by omega)]
  exact h2 j hj rfl
end
end
section
section
variable {cc u sn pn : Nat} {rk rv : Int32} {K N V nm nl pd : Nat → Int32}
theorem en_least (P : Nat → Prop) : ∀ m, P m → ∃ k, k ≤ m ∧ P k ∧ ∀ j, j < k → ¬ P j := by
  intro m
  induction m using Nat.strongRecOn with
  | _ m ih =>
    intro h
    by_cases c : ∃ j, j < m ∧ P j
    · obtain ⟨j, hj, pj⟩ := c
      obtain ⟨k, hk, a, b⟩ := ih j hj pj
      exact ⟨k, by omega, a, b⟩
    · exact ⟨m, Nat.le_refl _, h, fun j hj pj => c ⟨j, hj, pj⟩⟩
theorem en_first {K N : Nat → Int32} {u q : Nat} {k n : Int32} (hq : q < u) (e1 : K q = k) (e2 : N q = n) : ∃ q, q < u ∧ K q = k ∧ N q = n ∧ ∀ i, i < q → ¬ (K i = k ∧ N i = n) := by
  obtain ⟨j, hj, a, b⟩ := en_least (fun i => K i = k ∧ N i = n) q ⟨e1, e2⟩
  exact ⟨j, by omega, a.1, a.2, b⟩
theorem yb_some {k n : Int32} {q : Nat} {post : Int32 → Prop} (hu : u ≤ 32) (hq : q < u) (e1 : K q = k) (e2 : N q = n) (l : ∀ i, i < q → ¬ (K i = k ∧ N i = n)) (H : post (nI q)) : wpY_find post (nI cc, nI u, nI sn, nI pn, rk, rv, K, N, V, nm, nl, pd) k n :=
  pk_loop (σ := Unit) (fun f i _ => wY_find_2 post k n (nI cc) (nI u) (nI sn) (nI pn) rk rv K N V nm nl pd f (nI i)) (fun _ _ => True) q 0 () (Nat.zero_le _) trivial
    (fun f _ _ => br_f (nI_ge hq (by omega)) ⟨vp_in_nI (by omega) (by omega), br_t (by rw [nI_clamp (by omega)]; exact e1) ⟨vp_in_nI (by omega) (by omega), br_t (by rw [nI_clamp (by omega)]; exact e2) H⟩⟩)
    (fun f i _ hi _ hw => br_f (nI_ge (by omega) (by omega)) ⟨vp_in_nI (by omega) (by omega), br_c (fun a => ⟨vp_in_nI (by omega) (by omega), br_f (fun b => l i hi (by rw [nI_clamp (by omega)] at a b; exact ⟨a, b⟩)) (nm_r (nI_1 i) (hw () trivial))⟩) (fun _ => nm_r (nI_1 i) (hw () trivial))⟩)
theorem yb_none {k n : Int32} {post : Int32 → Prop} (hu : u ≤ 32) (l : ∀ i, i < u → ¬ (K i = k ∧ N i = n)) (H : post (-1)) : wpY_find post (nI cc, nI u, nI sn, nI pn, rk, rv, K, N, V, nm, nl, pd) k n :=
  pk_loop (σ := Unit) (fun f i _ => wY_find_2 post k n (nI cc) (nI u) (nI sn) (nI pn) rk rv K N V nm nl pd f (nI i)) (fun _ _ => True) u 0 () (Nat.zero_le _) trivial
    (fun f _ _ => br_t (nI_le (Nat.le_refl _) (by omega)) H)
    (fun f i _ hi _ hw => br_f (nI_ge (by omega) (by omega)) ⟨vp_in_nI (by omega) (by omega), br_c (fun a => ⟨vp_in_nI (by omega) (by omega), br_f (fun b => l i hi (by rw [nI_clamp (by omega)] at a b; exact ⟨a, b⟩)) (nm_r (nI_1 i) (hw () trivial))⟩) (fun _ => nm_r (nI_1 i) (hw () trivial))⟩)
theorem yb_valid {k n : Int32} {post : Int32 → Prop} (hs : sn ≤ 16) (h1 : en_Va sn k n → post 1) (h0 : ¬ en_Va sn k n → post 0) : wpY_valid post (nI cc, nI u, nI sn, nI pn, rk, rv, K, N, V, nm, nl, pd) k n := by
  unfold wpY_valid
  refine br_c (fun a => h1 (Or.inl a)) (fun a => br_c (fun b => br_c (fun c => h0 ?_) (fun c => ?_)) (fun b => h0 ?_))
  · rintro (z | ⟨_, j, hj, rfl⟩)
    · exact a z
    · exact absurd c (nI_pos (by omega))
  · obtain ⟨j, hj, rfl⟩ := nI_of c
    refine pk_le sn j (fun z => h0 ?_) (fun z => h1 (Or.inr ⟨b, j, z, rfl⟩))
    rintro (z | ⟨_, i, hi, e⟩)
    · exact a z
    · have := (nI_eq hj (by omega)).mp e
      omega
  · rintro (z | z)
    · exact a z
    · exact b z.1
theorem yb_removeL {p : Nat} (hu : u ≤ 32) (hu0 : 0 < u) : ∀ d t, p ≤ t → t + d + 1 = u → ∀ A B C : Nat → Int32, en_Ls' K A p t → en_Ls' N B p t → en_Ls' V C p t → ∃ A' B' C' : Nat → Int32, en_Del p u K A' ∧ en_Del p u N B' ∧ en_Del p u V C' ∧ ∀ post : SY → Prop, post (nI cc, nI (u - 1), nI sn, nI pn, rk, rv, A', B', C', nm, nl, pd) → wY_removeAt_2 post (nI cc) (nI u) (nI sn) (nI pn) rk rv (d + 1) (nI t) A B C nm nl pd := by
  have e1 : nI u - 1 = nI (u - 1) := by
    obtain ⟨w, rfl⟩ : ∃ w, u = w + 1 := ⟨u - 1, by omega⟩
    exact nI_pred w
  intro d
  induction d with
  | zero =>
    intro t hp ht A B C a b c
    have e : t = u - 1 := by omega
    subst e
    refine ⟨A, B, C, en_LsE a, en_LsE b, en_LsE c, fun post H => ?_⟩
    exact br_t (by rw [nI_1]; exact nI_le (by omega) (by omega)) (nm_r e1 H)
  | succ d ih =>
    intro t hp ht A B C a b c
    obtain ⟨A', B', C', a', b', c', h⟩ := ih (t + 1) (by omega) (by omega) _ _ _ (en_LsS hp a) (en_LsS hp b) (en_LsS hp c)
    refine ⟨A', B', C', a', b', c', fun post H => ?_⟩
    have i0 : vp_in (nI t) 32 := vp_in_nI (by omega) (by omega)
    have i1 : vp_in (nI (t + 1)) 32 := vp_in_nI (by omega) (by omega)
    refine br_f (by rw [nI_1]; exact nI_ge (by omega) (by omega)) ?_
    have h' := h post H
    rw [nI_1 t, nI_clamp (show t < 2 ^ 31 by omega), nI_clamp (show t + 1 < 2 ^ 31 by omega)]
    exact ⟨i1, i0, nm_e ⟨i1, i0, nm_e ⟨i1, i0, nm_e (nm_e h')⟩⟩⟩
theorem yb_removeAt {p : Nat} (hp : p < u) (hu : u ≤ 32) : ∃ A B C : Nat → Int32, en_Del p u K A ∧ en_Del p u N B ∧ en_Del p u V C ∧ ∀ post : SY → Prop, post (nI cc, nI (u - 1), nI sn, nI pn, rk, rv, A, B, C, nm, nl, pd) → wpY_removeAt post (nI cc, nI u, nI sn, nI pn, rk, rv, K, N, V, nm, nl, pd) (nI p) := by
  obtain ⟨A, B, C, a, b, c, h⟩ := yb_removeL (cc := cc) (sn := sn) (pn := pn) (rk := rk) (rv := rv) (K := K) (N := N) (V := V) (nm := nm) (nl := nl) (pd := pd) hu (by omega) (u - 1 - p) p (Nat.le_refl _) (by omega) K N V (en_Ls0 K p) (en_Ls0 N p) (en_Ls0 V p)
  exact ⟨A, B, C, a, b, c, fun post H => ⟨_, h post H⟩⟩
theorem ys_inv {k n v : Int32} {post : Int32 → SY → Prop} (hs : sn ≤ 16) (va : ¬ en_Va sn k n) (H : post 0 (nI cc, nI u, nI sn, nI pn, rk, rv, K, N, V, nm, nl, pd)) : wpY_set post (nI cc, nI u, nI sn, nI pn, rk, rv, K, N, V, nm, nl, pd) k n v := by
  unfold wpY_set
  exact yb_valid hs (fun z => absurd z va) (fun _ => br_t rfl H)
theorem ys_del {k n : Int32} {q : Nat} (hs : sn ≤ 16) (hu : u ≤ 32) (va : en_Va sn k n) (hq : q < u) (e1 : K q = k) (e2 : N q = n) (l : ∀ i, i < q → ¬ (K i = k ∧ N i = n)) : ∃ A B C : Nat → Int32, en_Del q u K A ∧ en_Del q u N B ∧ en_Del q u V C ∧ ∀ post : Int32 → SY → Prop, post 1 (nI cc, nI (u - 1), nI sn, nI pn, rk, rv, A, B, C, nm, nl, pd) → wpY_set post (nI cc, nI u, nI sn, nI pn, rk, rv, K, N, V, nm, nl, pd) k n 0 := by
  obtain ⟨A, B, C, q1, q2, q3, R⟩ := yb_removeAt (cc := cc) (sn := sn) (pn := pn) (rk := rk) (rv := rv) (K := K) (N := N) (V := V) (nm := nm) (nl := nl) (pd := pd) hq hu
  refine ⟨A, B, C, q1, q2, q3, fun post H => ?_⟩
  unfold wpY_set
  refine yb_valid hs (fun _ => br_f (by decide) ?_) (fun z => absurd va z)
  refine yb_some hu hq e1 e2 l ?_
  exact br_t rfl (br_f (nI_pos (by omega)) (R _ H))
theorem ys_upd {k n v : Int32} {q : Nat} {post : Int32 → SY → Prop} (hs : sn ≤ 16) (hu : u ≤ 32) (va : en_Va sn k n) (hq : q < u) (e1 : K q = k) (e2 : N q = n) (l : ∀ i, i < q → ¬ (K i = k ∧ N i = n)) (v0 : ¬ v = 0) (H : post 1 (nI cc, nI u, nI sn, nI pn, rk, rv, K, N, upd V q v, nm, nl, pd)) : wpY_set post (nI cc, nI u, nI sn, nI pn, rk, rv, K, N, V, nm, nl, pd) k n v := by
  unfold wpY_set
  refine yb_valid hs (fun _ => br_f (by decide) ?_) (fun z => absurd va z)
  refine yb_some hu hq e1 e2 l ?_
  exact br_f v0 (br_f (nI_pos (by omega)) ⟨vp_in_nI (by omega) (by omega), nm_r (by rw [nI_clamp (by omega)]) H⟩)
theorem ys_keep {k n : Int32} {post : Int32 → SY → Prop} (hs : sn ≤ 16) (hu : u ≤ 32) (va : en_Va sn k n) (l : ∀ i, i < u → ¬ (K i = k ∧ N i = n)) (H : post 1 (nI cc, nI u, nI sn, nI pn, rk, rv, K, N, V, nm, nl, pd)) : wpY_set post (nI cc, nI u, nI sn, nI pn, rk, rv, K, N, V, nm, nl, pd) k n 0 := by
  unfold wpY_set
  refine yb_valid hs (fun _ => br_f (by decide) ?_) (fun z => absurd va z)
  refine yb_none hu l ?_
  exact br_t rfl (br_t (by decide) H)
theorem ys_full {k n v : Int32} {post : Int32 → SY → Prop} (hs : sn ≤ 16) (hu : u ≤ 32) (va : en_Va sn k n) (l : ∀ i, i < u → ¬ (K i = k ∧ N i = n)) (v0 : ¬ v = 0) (f : cc ≤ u) (H : post 0 (nI cc, nI u, nI sn, nI pn, rk, rv, K, N, V, nm, nl, pd)) : wpY_set post (nI cc, nI u, nI sn, nI pn, rk, rv, K, N, V, nm, nl, pd) k n v := by
  unfold wpY_set
  refine yb_valid hs (fun _ => br_f (by decide) ?_) (fun z => absurd va z)
  refine yb_none hu l ?_
  exact br_f v0 (br_t (by decide) (br_f (nI_nlt f (by omega)) H))
theorem ys_ins {k n v : Int32} {post : Int32 → SY → Prop} (hs : sn ≤ 16) (hu : u ≤ 32) (va : en_Va sn k n) (l : ∀ i, i < u → ¬ (K i = k ∧ N i = n)) (v0 : ¬ v = 0) (f : u < cc) (hc : cc ≤ 32) (H : post 1 (nI cc, nI (u + 1), nI sn, nI pn, rk, rv, upd K u k, upd N u n, upd V u v, nm, nl, pd)) : wpY_set post (nI cc, nI u, nI sn, nI pn, rk, rv, K, N, V, nm, nl, pd) k n v := by
  unfold wpY_set
  refine yb_valid hs (fun _ => br_f (by decide) ?_) (fun z => absurd va z)
  refine yb_none hu l ?_
  have i : vp_in (nI u) 32 := vp_in_nI (by omega) (by omega)
  refine br_f v0 (br_t (by decide) (br_t (nI_lt f (by omega)) ⟨i, ?_⟩))
  rw [nI_clamp (show u < 2 ^ 31 by omega)]
  exact nm_e ⟨i, nm_e ⟨i, nm_e (nm_r (nI_1 u) H)⟩⟩
theorem yg_inv {k n : Int32} {post : Int32 → Prop} (hs : sn ≤ 16) (va : ¬ en_Va sn k n) (H : post 0) : wpY_get post (nI cc, nI u, nI sn, nI pn, rk, rv, K, N, V, nm, nl, pd) k n := by
  unfold wpY_get
  exact yb_valid hs (fun z => absurd z va) (fun _ => br_t rfl H)
theorem yg_some {k n : Int32} {q : Nat} {post : Int32 → Prop} (hs : sn ≤ 16) (hu : u ≤ 32) (va : en_Va sn k n) (hq : q < u) (e1 : K q = k) (e2 : N q = n) (l : ∀ i, i < q → ¬ (K i = k ∧ N i = n)) (H : post (V q)) : wpY_get post (nI cc, nI u, nI sn, nI pn, rk, rv, K, N, V, nm, nl, pd) k n := by
  unfold wpY_get
  refine yb_valid hs (fun _ => br_f (by decide) ?_) (fun z => absurd va z)
  refine yb_some hu hq e1 e2 l ?_
  exact br_t (nI_pos' (by omega)) ⟨vp_in_nI (by omega) (by omega), by rw [nI_clamp (by omega)]; exact H⟩
theorem yg_none {k n : Int32} {post : Int32 → Prop} (hs : sn ≤ 16) (hu : u ≤ 32) (va : en_Va sn k n) (l : ∀ i, i < u → ¬ (K i = k ∧ N i = n)) (H : post 0) : wpY_get post (nI cc, nI u, nI sn, nI pn, rk, rv, K, N, V, nm, nl, pd) k n := by
  unfold wpY_get
  refine yb_valid hs (fun _ => br_f (by decide) ?_) (fun z => absurd va z)
  refine yb_none hu l ?_
  exact br_f (by decide) H
theorem yl_length {b : Nat} {post : Int32 → Prop} (hu : u ≤ 32) (hc : cc ≤ 32) (hb : b ≤ cc) (h1 : ∀ m, m < b → ∃ i, i < u ∧ K i = 0 ∧ N i = nI (m + 1)) (h0 : ∀ i, i < u → ¬ (K i = 0 ∧ N i = nI (b + 1))) (H : post (nI b)) : wpY_length post (nI cc, nI u, nI sn, nI pn, rk, rv, K, N, V, nm, nl, pd) := by
  refine pk_loop (σ := Unit) (fun f i _ => wY_length_2 post (nI cc) (nI u) (nI sn) (nI pn) rk rv K N V nm nl pd f (nI i)) (fun _ _ => True) b 0 () (Nat.zero_le _) trivial ?_ ?_
  · intro f _ _
    refine br_f (nI_nlt hb (by omega)) (yb_none hu ?_ (br_f (by decide) H))
    rw [nI_1]
    exact h0
  · intro f i _ hi _ hw
    obtain ⟨q, hq, a1, a2⟩ := h1 i hi
    obtain ⟨q, hq, a1, a2, l⟩ := en_first hq a1 a2
    refine br_f (nI_nlt (by omega) (by omega)) (yb_some hu hq a1 (by rw [a2, nI_1]) (by rw [nI_1]; exact l) (br_t (nI_pos' (by omega)) (nm_r (nI_1 i) (hw () trivial))))
theorem yb_before {k1 n1 k2 n2 : Int32} {post : Int32 → Prop} (h1 : en_k k1 n1 < en_k k2 n2 → post 1) (h0 : ¬ en_k k1 n1 < en_k k2 n2 → post 0) : wpY_before post (nI cc, nI u, nI sn, nI pn, rk, rv, K, N, V, nm, nl, pd) k1 n1 k2 n2 := by
  unfold wpY_before
  refine br_c (fun a => ?_) (fun a => ?_)
  · have q : en_k k1 n1 < en_k k2 n2 ↔ ¬ n2 ≤ n1 := by rw [a, en_ltE, Int32.not_le]
    exact br_c (fun b => h0 (fun z => q.mp z b)) (fun b => h1 (q.mpr b))
  · have q : en_k k1 n1 < en_k k2 n2 ↔ ¬ k2 ≤ k1 := by rw [en_ltN _ _ a, Int32.not_le]
    exact br_c (fun b => h0 (fun z => q.mp z b)) (fun b => h1 (q.mpr b))
theorem yn_0 {k n x : Int32} {i : Nat} {post : Int32 → SY → Prop} {J : Int32 → Int32 → Prop} (H : J x (nI (i + 1))) : wY_next_82 post J k n x (nI i) 0 (nI cc) (nI u) (nI sn) (nI pn) rk rv K N V nm nl pd := br_t rfl (nm_r (nI_1 i) H)
theorem yn_1 {k n : Int32} {i : Nat} {post : Int32 → SY → Prop} {J : Int32 → Int32 → Prop} (H : J (nI i) (nI (i + 1))) : wY_next_82 post J k n (-1) (nI i) 1 (nI cc) (nI u) (nI sn) (nI pn) rk rv K N V nm nl pd := br_f (by decide) (br_t (by decide) (nm_r (nI_1 i) H))
theorem yn_2 {k n : Int32} {i b : Nat} {post : Int32 → SY → Prop} {J : Int32 → Int32 → Prop} (hi : i < 32) (hb : b < 32) (h1 : en_k (K i) (N i) < en_k (K b) (N b) → J (nI i) (nI (i + 1))) (h0 : ¬ en_k (K i) (N i) < en_k (K b) (N b) → J (nI b) (nI (i + 1))) : wY_next_82 post J k n (nI b) (nI i) 1 (nI cc) (nI u) (nI sn) (nI pn) rk rv K N V nm nl pd := by
  refine br_f (by decide) (br_f (nI_pos (by omega)) ⟨vp_in_nI hi (by omega), vp_in_nI hi (by omega), vp_in_nI hb (by omega), vp_in_nI hb (by omega), ?_⟩)
  rw [nI_clamp (show i < 2 ^ 31 by omega), nI_clamp (show b < 2 ^ 31 by omega)]
  exact yb_before (fun z => br_f (by decide) (nm_r (nI_1 i) (h1 z))) (fun z => br_t rfl (nm_r (nI_1 i) (h0 z)))
/-- one turn of next's search: z says whether the i-th key is after -/
theorem yn_s {k n x : Int32} {i f : Nat} {post : Int32 → SY → Prop} (hi : i < u) (hu : u ≤ 32) (h1 : (k = 2 ∨ en_k k n < en_k (K i) (N i)) → wY_next_82 post (wY_next_40 post k n (nI cc) (nI u) (nI sn) (nI pn) rk rv K N V nm nl pd f) k n x (nI i) 1 (nI cc) (nI u) (nI sn) (nI pn) rk rv K N V nm nl pd) (h0 : ¬ (k = 2 ∨ en_k k n < en_k (K i) (N i)) → wY_next_82 post (wY_next_40 post k n (nI cc) (nI u) (nI sn) (nI pn) rk rv K N V nm nl pd f) k n x (nI i) 0 (nI cc) (nI u) (nI sn) (nI pn) rk rv K N V nm nl pd) : wY_next_40 post k n (nI cc) (nI u) (nI sn) (nI pn) rk rv K N V nm nl pd (f + 1) x (nI i) := by
  refine br_f (nI_ge hi (by omega)) (br_c (fun a => h1 (Or.inl a)) (fun a => ⟨vp_in_nI (by omega) (by omega), vp_in_nI (by omega) (by omega), ?_⟩))
  rw [nI_clamp (show i < 2 ^ 31 by omega)]
  exact yb_before (fun z => br_f (by decide) (h1 (Or.inr z))) (fun z => br_t rfl (h0 (fun q => q.elim a z)))
theorem yn_loop {k n : Int32} (hu : u ≤ 32) : ∃ r, en_M (fun z => k = 2 ∨ en_k k n < z) K N u r ∧ ∀ post : Int32 → SY → Prop, (r = -1 → post 2 (nI cc, nI u, nI sn, nI pn, 0, 0, K, N, V, nm, nl, pd)) → (∀ b, b < u → r = nI b → post (K b) (nI cc, nI u, nI sn, nI pn, N b, V b, K, N, V, nm, nl, pd)) → ∃ f, wY_next_40 post k n (nI cc) (nI u) (nI sn) (nI pn) rk rv K N V nm nl pd f (-1) 0 := by
  have L : ∀ d i x, i + d = u → en_M (fun z => k = 2 ∨ en_k k n < z) K N i x → ∃ r, en_M (fun z => k = 2 ∨ en_k k n < z) K N u r ∧ ∀ post : Int32 → SY → Prop, (r = -1 → post 2 (nI cc, nI u, nI sn, nI pn, 0, 0, K, N, V, nm, nl, pd)) → (∀ b, b < u → r = nI b → post (K b) (nI cc, nI u, nI sn, nI pn, N b, V b, K, N, V, nm, nl, pd)) → wY_next_40 post k n (nI cc) (nI u) (nI sn) (nI pn) rk rv K N V nm nl pd (d + 1) x (nI i) := by
    intro d
    induction d with
    | zero =>
      intro i x hi M
      have e : i = u := by omega
      subst e
      refine ⟨x, M, fun post H1 H2 => br_t (nI_le (Nat.le_refl _) (by omega)) ?_⟩
      rcases M with ⟨e, _⟩ | ⟨b, hb, e, _⟩
      · rw [e]
        exact br_f (by decide) (H1 e)
      · rw [e]
        have iv : vp_in (nI b) 32 := vp_in_nI (by omega) (by omega)
        have H := H2 b hb e
        refine br_t (nI_pos' (by omega)) ⟨iv, ?_⟩
        rw [nI_clamp (show b < 2 ^ 31 by omega)]
        exact nm_e ⟨iv, nm_e ⟨iv, H⟩⟩
    | succ d ih =>
      intro i x hi M
      have hi' : i < u := by omega
      by_cases Zi : k = 2 ∨ en_k k n < en_k (K i) (N i)
      · have M2 := M
        rcases M with ⟨e, _⟩ | ⟨b, hb, e, _⟩
        · rw [e] at M2 ⊢
          obtain ⟨r, Mr, h⟩ := ih (i + 1) (nI i) (by omega) (en_Mf M2 (by omega) Zi)
          exact ⟨r, Mr, fun post H1 H2 => yn_s hi' hu (fun _ => yn_1 (h post H1 H2)) (fun z => absurd Zi z)⟩
        · rw [e] at M2 ⊢
          by_cases l : en_k (K i) (N i) < en_k (K b) (N b)
          · obtain ⟨r, Mr, h⟩ := ih (i + 1) (nI i) (by omega) (en_Mb M2 (by omega) hb Zi l)
            exact ⟨r, Mr, fun post H1 H2 => yn_s hi' hu (fun _ => yn_2 (by omega) (by omega) (fun _ => h post H1 H2) (fun z => absurd l z)) (fun z => absurd Zi z)⟩
          · obtain ⟨r, Mr, h⟩ := ih (i + 1) (nI b) (by omega) (en_Mk M2 (by omega) hb l)
            exact ⟨r, Mr, fun post H1 H2 => yn_s hi' hu (fun _ => yn_2 (by omega) (by omega) (fun z => absurd z l) (fun _ => h post H1 H2)) (fun z => absurd Zi z)⟩
      · obtain ⟨r, Mr, h⟩ := ih (i + 1) x (by omega) (en_Mn M Zi)
        exact ⟨r, Mr, fun post H1 H2 => yn_s hi' hu (fun z => absurd z Zi) (fun _ => yn_0 (h post H1 H2))⟩
  obtain ⟨r, Mr, h⟩ := L u 0 (-1) (by omega) (en_M0 _ K N)
  exact ⟨r, Mr, fun post H1 H2 => ⟨_, h post H1 H2⟩⟩
theorem yn_16 {k n : Int32} {post : Int32 → SY → Prop} (hs : sn ≤ 16) (h1 : (k = 2 ∨ en_Va sn k n) → ∃ f, wY_next_40 post k n (nI cc) (nI u) (nI sn) (nI pn) rk rv K N V nm nl pd f (-1) 0) (h0 : ¬ (k = 2 ∨ en_Va sn k n) → post (-1) (nI cc, nI u, nI sn, nI pn, rk, rv, K, N, V, nm, nl, pd)) (g : k = 0 ∨ k = 1 ∨ k = 2) : wY_next_16 post k n (nI cc) (nI u) (nI sn) (nI pn) rk rv K N V nm nl pd := by
  unfold wY_next_16
  refine br_c (fun a => br_c (fun c => h0 ?_) (fun c => ?_)) (fun a => h1 ?_)
  · subst a
    rintro (z | z | ⟨_, j, hj, rfl⟩)
    · exact absurd z (by decide)
    · exact absurd z (by decide)
    · exact absurd c (nI_pos (by omega))
  · obtain ⟨j, hj, rfl⟩ := nI_of c
    refine pk_lt j sn (fun z => h1 (Or.inr (Or.inr ⟨a, j, z, rfl⟩))) (fun z => h0 ?_)
    subst a
    rintro (z | z | ⟨_, i, hi, e⟩)
    · exact absurd z (by decide)
    · exact absurd z (by decide)
    · have := (nI_eq hj (by omega)).mp e
      omega
  · rcases g with g | g | g
    · exact Or.inr (Or.inl g)
    · exact absurd g a
    · exact Or.inl g
theorem yn_next {k n : Int32} {post : Int32 → SY → Prop} (hs : sn ≤ 16) (h1 : (k = 2 ∨ en_Va sn k n) → ∃ f, wY_next_40 post k n (nI cc) (nI u) (nI sn) (nI pn) rk rv K N V nm nl pd f (-1) 0) (h0 : ¬ (k = 2 ∨ en_Va sn k n) → post (-1) (nI cc, nI u, nI sn, nI pn, rk, rv, K, N, V, nm, nl, pd)) : wpY_next post (nI cc, nI u, nI sn, nI pn, rk, rv, K, N, V, nm, nl, pd) k n := by
  unfold wpY_next
  refine br_c (fun a => yn_16 hs h1 h0 (Or.inl a)) (fun a => br_c (fun b => yn_16 hs h1 h0 (Or.inr (Or.inl b))) (fun b => br_c (fun c => yn_16 hs h1 h0 (Or.inr (Or.inr c))) (fun c => h0 ?_)))
  rintro (z | z | z)
  · exact c z
  · exact a z
  · exact b z.1
theorem yp_purge (lim : Int32) (hu : u ≤ 32) : ∃ (w : Nat) (A B C : Nat → Int32), en_P lim K N V A B C u w ∧ ∀ post : Int32 → SY → Prop, post (nI (u - w)) (nI cc, nI w, nI sn, nI pn, rk, rv, A, B, C, nm, nl, pd) → wpY_purgeBelow post (nI cc, nI u, nI sn, nI pn, rk, rv, K, N, V, nm, nl, pd) lim := by
  have L : ∀ d i w g, i + d = u → g + w = i → ∀ A B C : Nat → Int32, en_P lim K N V A B C i w → ∃ (w' : Nat) (A' B' C' : Nat → Int32), en_P lim K N V A' B' C' u w' ∧ ∀ post : Int32 → SY → Prop, post (nI (u - w')) (nI cc, nI w', nI sn, nI pn, rk, rv, A', B', C', nm, nl, pd) → wY_purgeBelow_13 post lim (nI u) (nI cc) (nI u) (nI sn) (nI pn) rk rv (d + 1) (nI w) (nI g) (nI i) A B C nm nl pd := by
    intro d
    induction d with
    | zero =>
      intro i w g hi hg A B C P
      have e : i = u := by omega
      subst e
      have e2 : g = i - w := by omega
      subst e2
      exact ⟨w, A, B, C, P, fun post H => br_t (nI_le (Nat.le_refl _) (by omega)) H⟩
    | succ d ih =>
      intro i w g hi hg A B C P
      have iv : vp_in (nI i) 32 := vp_in_nI (by omega) (by omega)
      have iw : vp_in (nI w) 32 := vp_in_nI (by omega) (by omega)
      have gg : ¬ nI u ≤ nI i := nI_ge (by omega) (by omega)
      have cl : (nI i).toNatClampNeg = i := nI_clamp (by omega)
      have cw : (nI w).toNatClampNeg = w := nI_clamp (by omega)
      by_cases c : lim ≤ C i
      · obtain ⟨w', A', B', C', P', h⟩ := ih (i + 1) (w + 1) g (by omega) (by omega) _ _ _ (en_Pk P c)
        refine ⟨w', A', B', C', P', fun post H => br_f gg ⟨iv, br_t (by rw [cl]; exact c) ?_⟩⟩
        have h' := h post H
        rw [cl, cw]
        exact ⟨iv, iw, nm_e ⟨iv, iw, nm_e ⟨iv, iw, nm_e (nm_r (nI_1 w) (nm_r (nI_1 i) h'))⟩⟩⟩
      · obtain ⟨w', A', B', C', P', h⟩ := ih (i + 1) w (g + 1) (by omega) (by omega) _ _ _ (en_Pd P c)
        exact ⟨w', A', B', C', P', fun post H => br_f gg ⟨iv, br_f (by rw [cl]; exact c) (nm_r (nI_1 g) (nm_r (nI_1 i) (h post H)))⟩⟩
  obtain ⟨w, A, B, C, P, h⟩ := L u 0 0 0 (by omega) rfl K N V (en_P0 lim K N V)
  exact ⟨w, A, B, C, P, fun post H => ⟨_, h post H⟩⟩
end
end
section
section
variable {cc u sn pn : Nat} {rk rv : Int32} {K N V nm nl pd : Nat → Int32}
theorem yy_0 {s : Nat} {post : Int32 → SY → Prop} {J : Int32 → Prop} (hs : s < 16) (hp : pn ≤ 8) (H : J (nI (s + 1))) : ∀ d i, i + d = pn → wY_symbolEnd_36 post J (nI s) (nI cc) (nI u) (nI sn) (nI pn) rk rv K N V nm nl pd (d + 1) 0 (nI i) := by
  intro d
  induction d with
  | zero =>
    intro i hi
    have e : i = pn := by omega
    subst e
    exact br_t (nI_le (Nat.le_refl _) (by omega)) (br_t rfl (nm_r (nI_1 s) H))
  | succ d ih =>
    intro i hi
    refine br_f (nI_ge (by omega) (by omega)) ?_
    rw [sy_ix, nI_clamp (show s * 8 + i < 2 ^ 31 by omega), nI_clamp (show i < 2 ^ 31 by omega)]
    exact ⟨vp_in_nI (by omega) (by omega), vp_in_nI (by omega) (by omega), br_c (fun _ => nm_r (nI_1 i) (ih (i + 1) (by omega))) (fun _ => nm_r (nI_1 i) (ih (i + 1) (by omega)))⟩
theorem yy_1 {s : Nat} {post : Int32 → SY → Prop} {J : Int32 → Prop} (hs : s < 16) (hp : pn ≤ 8) (h1 : (∀ i, i < pn → nm (s * 8 + i) = pd i) → post (nI s) (nI cc, nI u, nI sn, 0, rk, rv, K, N, V, nm, nl, pd)) (h0 : ¬ (∀ i, i < pn → nm (s * 8 + i) = pd i) → J (nI (s + 1))) : ∀ d i, i + d = pn → (∀ j, j < i → nm (s * 8 + j) = pd j) → wY_symbolEnd_36 post J (nI s) (nI cc) (nI u) (nI sn) (nI pn) rk rv K N V nm nl pd (d + 1) 1 (nI i) := by
  intro d
  induction d with
  | zero =>
    intro i hi h
    have e : i = pn := by omega
    subst e
    exact br_t (nI_le (Nat.le_refl _) (by omega)) (br_f (by decide) (h1 h))
  | succ d ih =>
    intro i hi h
    refine br_f (nI_ge (by omega) (by omega)) ?_
    rw [sy_ix, nI_clamp (show s * 8 + i < 2 ^ 31 by omega), nI_clamp (show i < 2 ^ 31 by omega)]
    exact ⟨vp_in_nI (by omega) (by omega), vp_in_nI (by omega) (by omega), br_c (fun c => nm_r (nI_1 i) (ih (i + 1) (by omega) (sy_ext (f := fun j => nm (s * 8 + j) = pd j) h c))) (fun c => nm_r (nI_1 i) (yy_0 hs hp (h0 (fun z => c (z i (by omega)))) d (i + 1) (by omega)))⟩
/-- one name held against what is pending -/
theorem yy_s {s f : Nat} {post : Int32 → SY → Prop} (hn : sn ≤ 16) (hs : s < sn) (hp : pn ≤ 8) (h1 : sy_E nm nl pd pn s → post (nI s) (nI cc, nI u, nI sn, 0, rk, rv, K, N, V, nm, nl, pd)) (h0 : ¬ sy_E nm nl pd pn s → wY_symbolEnd_11 post (nI cc) (nI u) (nI sn) (nI pn) rk rv K N V nm nl pd f (nI (s + 1))) : wY_symbolEnd_11 post (nI cc) (nI u) (nI sn) (nI pn) rk rv K N V nm nl pd (f + 1) (nI s) := by
  refine br_f (nI_ge hs (by omega)) ⟨vp_in_nI (by omega) (by omega), ?_⟩
  rw [nI_clamp (show s < 2 ^ 31 by omega)]
  refine br_c (fun a => ⟨pn + 1, ?_⟩) (fun a => nm_r (nI_1 s) (h0 (fun z => a z.1)))
  exact yy_1 (by omega) hp (fun z => h1 ⟨a, z⟩) (fun z => h0 (fun q => z q.2)) pn 0 (by omega) (fun j hj => absurd hj (by omega))
theorem yy_some {s : Nat} {post : Int32 → SY → Prop} (hn : sn ≤ 16) (hp : pn ≤ 8) (p0 : ¬ pn = 0) (hs : s < sn) (E : sy_E nm nl pd pn s) (l : ∀ t, t < s → ¬ sy_E nm nl pd pn t) (H : post (nI s) (nI cc, nI u, nI sn, 0, rk, rv, K, N, V, nm, nl, pd)) : wpY_symbolEnd post (nI cc, nI u, nI sn, nI pn, rk, rv, K, N, V, nm, nl, pd) := by
  unfold wpY_symbolEnd
  refine br_f (nI_ne0 (by omega) (by omega)) ?_
  exact pk_loop (σ := Unit) (fun f i _ => wY_symbolEnd_11 post (nI cc) (nI u) (nI sn) (nI pn) rk rv K N V nm nl pd f (nI i)) (fun _ _ => True) s 0 () (Nat.zero_le _) trivial
    (fun f _ _ => yy_s hn hs hp (fun _ => H) (fun z => absurd E z))
    (fun f i _ hi _ hw => yy_s hn (by omega) hp (fun z => absurd z (l i hi)) (fun _ => hw () trivial))
theorem yy_end {post : Int32 → SY → Prop} (hn : sn ≤ 16) (hp : pn ≤ 8) (p0 : ¬ pn = 0) (l : ∀ t, t < sn → ¬ sy_E nm nl pd pn t) (H : (nI sn < 16 → ∃ f, wY_symbolEnd_112 post (nI sn) (nI cc) (nI u) (nI sn) (nI pn) rk rv f 0 K N V nm nl pd) ∧ (¬ nI sn < 16 → post (-1) (nI cc, nI u, nI sn, 0, rk, rv, K, N, V, nm, nl, pd))) : wpY_symbolEnd post (nI cc, nI u, nI sn, nI pn, rk, rv, K, N, V, nm, nl, pd) := by
  unfold wpY_symbolEnd
  refine br_f (nI_ne0 (by omega) (by omega)) ?_
  exact pk_loop (σ := Unit) (fun f i _ => wY_symbolEnd_11 post (nI cc) (nI u) (nI sn) (nI pn) rk rv K N V nm nl pd f (nI i)) (fun _ _ => True) sn 0 () (Nat.zero_le _) trivial
    (fun f _ _ => br_t (nI_le (Nat.le_refl _) (by omega)) H)
    (fun f i _ hi _ hw => yy_s hn (by omega) hp (fun z => absurd z (l i hi)) (fun _ => hw () trivial))
theorem yy_full {post : Int32 → SY → Prop} (hn : sn = 16) (hp : pn ≤ 8) (p0 : ¬ pn = 0) (l : ∀ t, t < sn → ¬ sy_E nm nl pd pn t) (H : post (-1) (nI cc, nI u, nI sn, 0, rk, rv, K, N, V, nm, nl, pd)) : wpY_symbolEnd post (nI cc, nI u, nI sn, nI pn, rk, rv, K, N, V, nm, nl, pd) :=
  yy_end (by omega) hp p0 l (br_f (nI_nlt (b := 16) (by omega) (by omega)) H)
theorem yy_add {post : Int32 → SY → Prop} (hn : sn < 16) (hp : pn ≤ 8) (p0 : ¬ pn = 0) (l : ∀ t, t < sn → ¬ sy_E nm nl pd pn t) (H : post (nI sn) (nI cc, nI u, nI (sn + 1), 0, rk, rv, K, N, V, sy_cp nm pd (sn * 8) pn, upd nl sn (nI pn), pd)) : wpY_symbolEnd post (nI cc, nI u, nI sn, nI pn, rk, rv, K, N, V, nm, nl, pd) := by
  have L : ∀ d i, i + d = pn → wY_symbolEnd_112 post (nI sn) (nI cc) (nI u) (nI sn) (nI pn) rk rv (d + 1) (nI i) K N V (sy_cp nm pd (sn * 8) i) nl pd := by
    intro d
    induction d with
    | zero =>
      intro i hi
      have e : i = pn := by omega
      subst e
      exact br_t (nI_le (Nat.le_refl _) (by omega)) ⟨vp_in_nI hn (by omega), nm_r (by rw [nI_clamp (by omega)]) (nm_r (nI_1 sn) H)⟩
    | succ d ih =>
      intro i hi
      refine br_f (nI_ge (by omega) (by omega)) ?_
      rw [sy_ix, nI_clamp (show sn * 8 + i < 2 ^ 31 by omega), nI_clamp (show i < 2 ^ 31 by omega)]
      exact ⟨vp_in_nI (by omega) (by omega), vp_in_nI (by omega) (by omega), nm_e (nm_r (nI_1 i) (ih (i + 1) (by omega)))⟩
  exact yy_end (by omega) hp p0 l (br_t (nI_lt (b := 16) hn (by omega)) ⟨_, L pn 0 (by omega)⟩)
theorem yy_len {n : Int32} {post : Int32 → Prop} (hs : sn ≤ 16) (h1 : n = -1 → post (nI pn)) (h2 : ∀ j, j < sn → n = nI j → post (nl j)) (h3 : ¬ n = -1 → ¬ (∃ j, j < sn ∧ n = nI j) → post (-1)) : wpY_symbolLength post (nI cc, nI u, nI sn, nI pn, rk, rv, K, N, V, nm, nl, pd) n := by
  unfold wpY_symbolLength
  refine br_c h1 (fun a => br_c (fun c => h3 a ?_) (fun c => ?_))
  · rintro ⟨j, hj, rfl⟩
    exact absurd c (nI_pos (by omega))
  · obtain ⟨j, hj, rfl⟩ := nI_of c
    refine pk_le sn j (fun z => h3 a ?_) (fun z => ⟨vp_in_nI (by omega) (by omega), ?_⟩)
    · rintro ⟨i, hi, e⟩
      have := (nI_eq hj (by omega)).mp e
      omega
    · rw [nI_clamp hj]
      exact h2 j z rfl
end
end
section
/-- the two states: alike but for the order of the entries -/
def ht_R (x : SX) (y : SY) : Prop := ∃ (cc u sn pn : Nat) (rk rv : Int32) (K N V K' N' V' nm nl pd : Nat → Int32), x = (nI cc, nI u, nI sn, nI pn, rk, rv, K, N, V, nm, nl, pd) ∧ y = (nI cc, nI u, nI sn, nI pn, rk, rv, K', N', V', nm, nl, pd) ∧ cc ≤ 32 ∧ u ≤ cc ∧ sn ≤ 16 ∧ pn ≤ 8 ∧ (∀ j, j < sn → ∃ q, q ≤ 8 ∧ nl j = nI q) ∧ (∀ j, narrow .char (.int (nm j)) = .int (nm j)) ∧ (∀ j, narrow .char (.int (pd j)) = .int (pd j)) ∧ en_R u K N V K' N' V'
theorem ht_set {x : SX} {y : SY} (I : ht_R x y) (k n v : Int32) : ∃ (r : Int32) (x' : SX) (y' : SY), ht_R x' y' ∧ (∀ post : Int32 → SX → Prop, post r x' → wpX_set post x k n v) ∧ (∀ post : Int32 → SY → Prop, post r y' → wpY_set post y k n v) := by
  have I0 := I
  obtain ⟨cc, u, sn, pn, rk, rv, K, N, V, K', N', V', nm, nl, pd, rfl, rfl, hc, hu, hs, hp, q1, q2, q3, R⟩ := I
  have hu' : u ≤ 32 := by omega
  by_cases va : en_Va sn k n
  · obtain ⟨p, h⟩ := en_Plx (k := k) (n := n) R.1
    by_cases a : en_At K N u k n p
    · obtain ⟨j, hj, e1, e2, _⟩ := en_Rx R a.1
      obtain ⟨q, hq, f1, f2, l⟩ := en_first hj (e1.trans a.2.1) (e2.trans a.2.2)
      have g1 : K p = K' q := a.2.1.trans f1.symm
      have g2 : N p = N' q := a.2.2.trans f2.symm
      by_cases v0 : v = 0
      · subst v0
        obtain ⟨A, B, C, d1, d2, d3, hX⟩ := xs_del (cc := cc) (pn := pn) (rk := rk) (rv := rv) (V := V) (nm := nm) (nl := nl) (pd := pd) hs hu' va h a
        obtain ⟨A', B', C', d1', d2', d3', hY⟩ := ys_del (cc := cc) (pn := pn) (rk := rk) (rv := rv) (V := V') (nm := nm) (nl := nl) (pd := pd) hs hu' va hq f1 f2 l
        exact ⟨1, _, _, ⟨cc, u - 1, sn, pn, rk, rv, A, B, C, A', B', C', nm, nl, pd, rfl, rfl, hc, by omega, hs, hp, q1, q2, q3, en_Rdel R a.1 hq g1 g2 d1 d2 d3 d1' d2' d3'⟩, hX, hY⟩
      · exact ⟨1, _, _, ⟨cc, u, sn, pn, rk, rv, K, N, upd V p v, K', N', upd V' q v, nm, nl, pd, rfl, rfl, hc, hu, hs, hp, q1, q2, q3, en_Rupd R v a.1 hq g1 g2⟩, fun post H => xs_upd hs hu' va h a v0 H, fun post H => ys_upd hs hu' va hq f1 f2 l v0 H⟩
    · have l : ∀ i, i < u → ¬ (K' i = k ∧ N' i = n) := by
        rintro i hi ⟨z1, z2⟩
        obtain ⟨j, hj, e1, e2, _⟩ := en_Ry R hi
        exact en_NatX h a R.1 j hj ⟨e1.trans z1, e2.trans z2⟩
      by_cases v0 : v = 0
      · subst v0
        exact ⟨1, _, _, I0, fun post H => xs_keep hs hu' va h a H, fun post H => ys_keep hs hu' va l H⟩
      · by_cases f : u < cc
        · obtain ⟨A, B, C, d1, d2, d3, hX⟩ := xs_ins (cc := cc) (pn := pn) (rk := rk) (rv := rv) (V := V) (nm := nm) (nl := nl) (pd := pd) hs hu' va h a v0 f hc
          exact ⟨1, _, _, ⟨cc, u + 1, sn, pn, rk, rv, A, B, C, upd K' u k, upd N' u n, upd V' u v, nm, nl, pd, rfl, rfl, hc, by omega, hs, hp, q1, q2, q3, en_Rins R h.1 d1 d2 d3 (en_End K' u k) (en_End N' u n) (en_End V' u v) h.2.1 (en_Nat h a R.1)⟩, hX, fun post H => ys_ins hs hu' va l v0 f hc H⟩
        · exact ⟨0, _, _, I0, fun post H => xs_full hs hu' va h a v0 (by omega) H, fun post H => ys_full hs hu' va l v0 (by omega) H⟩
  · exact ⟨0, _, _, I0, fun post H => xs_inv hs va H, fun post H => ys_inv hs va H⟩
theorem ht_get {x : SX} {y : SY} (I : ht_R x y) (k n : Int32) : ∃ r : Int32, (∀ post : Int32 → Prop, post r → wpX_get post x k n) ∧ (∀ post : Int32 → Prop, post r → wpY_get post y k n) := by
  obtain ⟨cc, u, sn, pn, rk, rv, K, N, V, K', N', V', nm, nl, pd, rfl, rfl, hc, hu, hs, hp, q1, q2, q3, R⟩ := I
  have hu' : u ≤ 32 := by omega
  by_cases va : en_Va sn k n
  · by_cases c : ∃ q, q < u ∧ K' q = k ∧ N' q = n
    · obtain ⟨q, hq, f1, f2⟩ := c
      obtain ⟨q, hq, f1, f2, l⟩ := en_first hq f1 f2
      obtain ⟨i, hi, e1, e2, e3⟩ := en_Ry R hq
      refine ⟨V' q, fun post H => xg_get hs hu' R.1 (fun z => absurd va z) (fun _ j hj a1 a2 => ?_) (fun _ z => absurd ⟨e1.trans f1, e2.trans f2⟩ (z i hi)), fun post H => yg_some hs hu' va hq f1 f2 l H⟩
      rw [en_Rv R hj hq (a1.trans f1.symm) (a2.trans f2.symm)]
      exact H
    · have l : ∀ i, i < u → ¬ (K' i = k ∧ N' i = n) := fun i hi z => c ⟨i, hi, z⟩
      refine ⟨0, fun post H => xg_get hs hu' R.1 (fun z => absurd va z) (fun _ j hj a1 a2 => ?_) (fun _ _ => H), fun post H => yg_none hs hu' va l H⟩
      obtain ⟨i, hi, e1, e2, _⟩ := en_Rx R hj
      exact absurd ⟨e1.trans a1, e2.trans a2⟩ (l i hi)
  · exact ⟨0, fun post H => xg_get hs hu' R.1 (fun _ => H) (fun z => absurd z va) (fun z => absurd z va), fun post H => yg_inv hs va H⟩
theorem ht_length {x : SX} {y : SY} (I : ht_R x y) : ∃ b : Nat, (∀ post : Int32 → Prop, post (nI b) → wpX_length post x) ∧ (∀ post : Int32 → Prop, post (nI b) → wpY_length post y) := by
  obtain ⟨cc, u, sn, pn, rk, rv, K, N, V, K', N', V', nm, nl, pd, rfl, rfl, hc, hu, hs, hp, q1, q2, q3, R⟩ := I
  obtain ⟨b, B, hX⟩ := xl_length (cc := cc) (sn := sn) (pn := pn) (rk := rk) (rv := rv) (V := V) (nm := nm) (nl := nl) (pd := pd) (show u ≤ 32 by omega) R.1
  have hb := B.1
  have w := en_By R B
  exact ⟨b, hX, fun post H => yl_length (by omega) hc (by omega) w.1 w.2 H⟩
theorem ht_next {x : SX} {y : SY} (I : ht_R x y) (k n : Int32) : ∃ (r : Int32) (x' : SX) (y' : SY), ht_R x' y' ∧ (∀ post : Int32 → SX → Prop, post r x' → wpX_next post x k n) ∧ (∀ post : Int32 → SY → Prop, post r y' → wpY_next post y k n) := by
  have I0 := I
  obtain ⟨cc, u, sn, pn, rk, rv, K, N, V, K', N', V', nm, nl, pd, rfl, rfl, hc, hu, hs, hp, q1, q2, q3, R⟩ := I
  have hu' : u ≤ 32 := by omega
  by_cases va : k = 2 ∨ en_Va sn k n
  · obtain ⟨q, hq, lo, hi, hX⟩ := xn_next (cc := cc) (pn := pn) (rk := rk) (rv := rv) (V := V) (nm := nm) (nl := nl) (pd := pd) hs hu' R.1 va
    obtain ⟨r, M, hY⟩ := yn_loop (cc := cc) (sn := sn) (pn := pn) (rk := rk) (rv := rv) (K := K') (N := N') (V := V') (nm := nm) (nl := nl) (pd := pd) (k := k) (n := n) hu'
    rcases en_nx R hq lo hi M with ⟨e, er⟩ | ⟨hq', b, hb, er, g1, g2, g3⟩
    · refine ⟨2, _, _, ⟨cc, u, sn, pn, 0, 0, K, N, V, K', N', V', nm, nl, pd, rfl, rfl, hc, hu, hs, hp, q1, q2, q3, R⟩, fun post H => hX 2 _ (fun P HP => xr_none (by rw [e]) hu' HP) post H, fun post H => yn_next hs (fun _ => hY post (fun _ => H) (fun b hb z => ?_)) (fun z => absurd va z)⟩
      rw [er] at z
      exact absurd (z ▸ (by decide : (-1 : Int32) < 0)) (nI_pos (n := b) (by omega))
    · refine ⟨K q, _, _, ⟨cc, u, sn, pn, N q, V q, K, N, V, K', N', V', nm, nl, pd, rfl, rfl, hc, hu, hs, hp, q1, q2, q3, R⟩, fun post H => hX (K q) _ (fun P HP => xr_some rfl hq' hu' HP) post H, fun post H => yn_next hs (fun _ => hY post (fun z => ?_) (fun b' hb' z => ?_)) (fun z => absurd va z)⟩
      · rw [er] at z
        exact absurd (z ▸ (by decide : (-1 : Int32) < 0)) (nI_pos (n := b) (by omega))
      · rw [er] at z
        have e : b = b' := (nI_eq (by omega) (by omega)).mp z
        subst e
        rw [g1, g2, g3]
        exact H
  · exact ⟨-1, _, _, I0, fun post H => xn_inv hs va H, fun post H => yn_next hs (fun z => absurd z va) (fun _ => H)⟩
theorem ht_purge {x : SX} {y : SY} (I : ht_R x y) (lim : Int32) : ∃ (r : Int32) (x' : SX) (y' : SY), ht_R x' y' ∧ (∀ post : Int32 → SX → Prop, post r x' → wpX_purgeBelow post x lim) ∧ (∀ post : Int32 → SY → Prop, post r y' → wpY_purgeBelow post y lim) := by
  obtain ⟨cc, u, sn, pn, rk, rv, K, N, V, K', N', V', nm, nl, pd, rfl, rfl, hc, hu, hs, hp, q1, q2, q3, R⟩ := I
  have hu' : u ≤ 32 := by omega
  obtain ⟨w, A, B, C, P, hX⟩ := xp_purge (cc := cc) (sn := sn) (pn := pn) (rk := rk) (rv := rv) (K := K) (N := N) (V := V) (nm := nm) (nl := nl) (pd := pd) lim hu'
  obtain ⟨w', A', B', C', P', hY⟩ := yp_purge (cc := cc) (sn := sn) (pn := pn) (rk := rk) (rv := rv) (K := K') (N := N') (V := V') (nm := nm) (nl := nl) (pd := pd) lim hu'
  obtain ⟨e, R'⟩ := en_RP R P P'
  subst e
  have hw := P.1
  exact ⟨_, _, _, ⟨cc, w', sn, pn, rk, rv, A, B, C, A', B', C', nm, nl, pd, rfl, rfl, hc, by omega, hs, hp, q1, q2, q3, R'⟩, hX, hY⟩
theorem ht_fill (first x3 : Int32) {n : Nat} (hn : n ≤ 64) : ∀ d i, i + d = n → ∀ (x : SX) (y : SY), ht_R x y → ∃ (r : Int32) (x' : SX) (y' : SY), ht_R x' y' ∧ (∀ post : Int32 → SX → Prop, post r x' → wX_fill_15 post first (nI n) x3 (d + 1) (nI i) x.1 x.2.1 x.2.2.1 x.2.2.2.1 x.2.2.2.2.1 x.2.2.2.2.2.1 x.2.2.2.2.2.2.1 x.2.2.2.2.2.2.2.1 x.2.2.2.2.2.2.2.2.1 x.2.2.2.2.2.2.2.2.2.1 x.2.2.2.2.2.2.2.2.2.2.1 x.2.2.2.2.2.2.2.2.2.2.2) ∧ (∀ post : Int32 → SY → Prop, post r y' → wY_fill_15 post first (nI n) x3 (d + 1) (nI i) y.1 y.2.1 y.2.2.1 y.2.2.2.1 y.2.2.2.2.1 y.2.2.2.2.2.1 y.2.2.2.2.2.2.1 y.2.2.2.2.2.2.2.1 y.2.2.2.2.2.2.2.2.1 y.2.2.2.2.2.2.2.2.2.1 y.2.2.2.2.2.2.2.2.2.2.1 y.2.2.2.2.2.2.2.2.2.2.2) := by
  intro d
  induction d with
  | zero =>
    intro i hi x y I
    have e : i = n := by omega
    subst e
    obtain ⟨a1, a2, a3, a4, a5, a6, a7, a8, a9, a10, a11, a12⟩ := x
    obtain ⟨b1, b2, b3, b4, b5, b6, b7, b8, b9, b10, b11, b12⟩ := y
    exact ⟨nI i, _, _, I, fun post H => br_t (nI_le (Nat.le_refl _) (by omega)) H, fun post H => br_t (nI_le (Nat.le_refl _) (by omega)) H⟩
  | succ d ih =>
    intro i hi x y I
    have g : ¬ nI n ≤ nI i := nI_ge (by omega) (by omega)
    obtain ⟨r, x1, y1, I1, hX, hY⟩ := ht_set I 0 (first + nI i) x3
    obtain ⟨a1, a2, a3, a4, a5, a6, a7, a8, a9, a10, a11, a12⟩ := x
    obtain ⟨b1, b2, b3, b4, b5, b6, b7, b8, b9, b10, b11, b12⟩ := y
    obtain ⟨r', x2, y2, I2, gX, gY⟩ := ih (i + 1) (by omega) x1 y1 I1
    obtain ⟨c1, c2, c3, c4, c5, c6, c7, c8, c9, c10, c11, c12⟩ := x1
    obtain ⟨d1, d2, d3, d4, d5, d6, d7, d8, d9, d10, d11, d12⟩ := y1
    by_cases r0 : r = 0
    · exact ⟨nI i, _, _, I1, fun post H => br_f g (hX _ (br_t r0 H)), fun post H => br_f g (hY _ (br_t r0 H))⟩
    · exact ⟨r', x2, y2, I2, fun post H => br_f g (hX _ (br_f r0 (nm_r (nI_1 i) (gX post H)))), fun post H => br_f g (hY _ (br_f r0 (nm_r (nI_1 i) (gY post H))))⟩
end
section
section
variable {cc u sn pn : Nat} {rk rv : Int32} {K N V K' N' V' nm nl pd : Nat → Int32}
theorem ht_m1 {j : Nat} (hj : j < 2 ^ 31) : ¬ nI j = -1 := by
  intro z
  have := nI_pos hj
  rw [z] at this
  exact absurd (by decide) this
theorem ht_len (hs : sn ≤ 16) (n : Int32) : ∃ r : Int32, ((n = -1 ∧ r = nI pn) ∨ (∃ j, j < sn ∧ n = nI j ∧ r = nl j) ∨ (¬ n = -1 ∧ r = -1)) ∧ (∀ post : Int32 → Prop, post r → wpX_symbolLength post (nI cc, nI u, nI sn, nI pn, rk, rv, K, N, V, nm, nl, pd) n) ∧ (∀ post : Int32 → Prop, post r → wpY_symbolLength post (nI cc, nI u, nI sn, nI pn, rk, rv, K', N', V', nm, nl, pd) n) := by
  by_cases a : n = -1
  · refine ⟨nI pn, Or.inl ⟨a, rfl⟩, fun post H => xy_len hs (fun _ => H) (fun j hj e => ?_) (fun z => absurd a z), fun post H => yy_len hs (fun _ => H) (fun j hj e => ?_) (fun z => absurd a z)⟩
    · exact absurd (e.symm.trans a) (ht_m1 (by omega))
    · exact absurd (e.symm.trans a) (ht_m1 (by omega))
  · by_cases c : ∃ j, j < sn ∧ n = nI j
    · obtain ⟨j, hj, rfl⟩ := c
      refine ⟨nl j, Or.inr (Or.inl ⟨j, hj, rfl, rfl⟩), fun post H => xy_len hs (fun z => absurd z a) (fun i hi e => ?_) (fun _ z => absurd ⟨j, hj, rfl⟩ z), fun post H => yy_len hs (fun z => absurd z a) (fun i hi e => ?_) (fun _ z => absurd ⟨j, hj, rfl⟩ z)⟩
      · have : j = i := (nI_eq (by omega) (by omega)).mp e
        subst this
        exact H
      · have : j = i := (nI_eq (by omega) (by omega)).mp e
        subst this
        exact H
    · exact ⟨-1, Or.inr (Or.inr ⟨a, rfl⟩), fun post H => xy_len hs (fun z => absurd z a) (fun i hi e => absurd ⟨i, hi, e⟩ c) (fun _ _ => H), fun post H => yy_len hs (fun z => absurd z a) (fun i hi e => absurd ⟨i, hi, e⟩ c) (fun _ _ => H)⟩
theorem ht_charAt (hs : sn ≤ 16) (hp : pn ≤ 8) (q1 : ∀ j, j < sn → ∃ q, q ≤ 8 ∧ nl j = nI q) (q2 : ∀ j, narrow .char (.int (nm j)) = .int (nm j)) (q3 : ∀ j, narrow .char (.int (pd j)) = .int (pd j)) (n m : Int32) : ∃ r : Int32, (∀ post : Int32 → Prop, post r → wpX_symbolCharAt post (nI cc, nI u, nI sn, nI pn, rk, rv, K, N, V, nm, nl, pd) n m) ∧ (∀ post : Int32 → Prop, post r → wpY_symbolCharAt post (nI cc, nI u, nI sn, nI pn, rk, rv, K', N', V', nm, nl, pd) n m) := by
  obtain ⟨r, c, hX, hY⟩ := ht_len (cc := cc) (u := u) (pn := pn) (rk := rk) (rv := rv) (K := K) (N := N) (V := V) (K' := K') (N' := N') (V' := V') (nm := nm) (nl := nl) (pd := pd) hs n
  by_cases m0 : m < 0
  · refine ⟨0, fun post H => ?_, fun post H => ?_⟩
    · unfold wpX_symbolCharAt
      exact hX _ (br_t m0 H)
    · unfold wpY_symbolCharAt
      exact hY _ (br_c (fun _ => br_t m0 H) (fun _ => H))
  · by_cases g : m < r
    · have r0 : 0 ≤ r := Int32.le_trans (Int32.not_lt.mp m0) (Int32.le_of_lt g)
      obtain ⟨i, hi, rfl⟩ := nI_of m0
      rcases c with ⟨e, er⟩ | ⟨j, hj, e, er⟩ | ⟨e, er⟩
      · subst er
        have g' : i < pn := (nI_ltI hi (by omega)).mp g
        have iv : vp_in (nI i) 8 := vp_in_nI (by omega) (by omega)
        have cl : (nI i).toNatClampNeg = i := nI_clamp hi
        refine ⟨pd i, fun post H => ?_, fun post H => ?_⟩
        · unfold wpX_symbolCharAt
          refine hX _ (br_f m0 (br_t g (br_t e ⟨iv, ?_⟩)))
          rw [cl]
          exact ⟨q3 i, H⟩
        · unfold wpY_symbolCharAt
          refine hY _ (br_t r0 (br_f m0 (br_t g (br_t e ⟨iv, ?_⟩))))
          rw [cl]
          exact ⟨q3 i, H⟩
      · obtain ⟨q, hq, eq⟩ := q1 j hj
        have g' : i < q := by
          rw [er, eq] at g
          exact (nI_ltI hi (by omega)).mp g
        have e' : ¬ n = -1 := by
          rw [e]
          exact ht_m1 (by omega)
        have ix : n * 8 + nI i = nI (j * 8 + i) := by
          rw [e]
          exact sy_ix j i
        have iv : vp_in (nI (j * 8 + i)) 128 := vp_in_nI (by omega) (by omega)
        have cl : (nI (j * 8 + i)).toNatClampNeg = j * 8 + i := nI_clamp (by omega)
        refine ⟨nm (j * 8 + i), fun post H => ?_, fun post H => ?_⟩
        · unfold wpX_symbolCharAt
          refine hX _ (br_f m0 (br_t g (br_f e' ?_)))
          rw [ix, cl]
          exact ⟨iv, q2 _, H⟩
        · unfold wpY_symbolCharAt
          refine hY _ (br_t r0 (br_f m0 (br_t g (br_f e' ?_))))
          rw [ix, cl]
          exact ⟨iv, q2 _, H⟩
      · rw [er] at r0
        exact absurd r0 (by decide)
    · refine ⟨0, fun post H => ?_, fun post H => ?_⟩
      · unfold wpX_symbolCharAt
        exact hX _ (br_f m0 (br_f g H))
      · unfold wpY_symbolCharAt
        exact hY _ (br_c (fun _ => br_f m0 (br_f g H)) (fun _ => H))
theorem sy_cpN {nm pd : Nat → Int32} {b : Nat} (q2 : ∀ j, narrow .char (.int (nm j)) = .int (nm j)) (q3 : ∀ j, narrow .char (.int (pd j)) = .int (pd j)) : ∀ n j, narrow .char (.int (sy_cp nm pd b n j)) = .int (sy_cp nm pd b n j) := by
  intro n
  induction n with
  | zero => exact q2
  | succ n ih =>
    intro j
    show narrow .char (.int (upd (sy_cp nm pd b n) (b + n) (vp_nar .char (pd n)) j)) = .int (upd (sy_cp nm pd b n) (b + n) (vp_nar .char (pd n)) j)
    have e : vp_nar .char (pd n) = pd n := Value.int.inj (q3 n)
    by_cases c : j = b + n
    · subst c
      rw [pk_us, e]
      exact q3 n
    · rw [pk_un c]
      exact ih j
theorem ht_end {x : SX} {y : SY} (I : ht_R x y) : ∃ (r : Int32) (x' : SX) (y' : SY), ht_R x' y' ∧ (∀ post : Int32 → SX → Prop, post r x' → wpX_symbolEnd post x) ∧ (∀ post : Int32 → SY → Prop, post r y' → wpY_symbolEnd post y) := by
  have I0 := I
  obtain ⟨cc, u, sn, pn, rk, rv, K, N, V, K', N', V', nm, nl, pd, rfl, rfl, hc, hu, hs, hp, q1, q2, q3, R⟩ := I
  by_cases p0 : pn = 0
  · subst p0
    exact ⟨-1, _, _, I0, fun post H => br_t rfl H, fun post H => br_t rfl H⟩
  · have pz : ¬ nI pn = 0 := nI_ne0 (by omega) (by omega)
    have I1 : ht_R (nI cc, nI u, nI sn, 0, rk, rv, K, N, V, nm, nl, pd) (nI cc, nI u, nI sn, 0, rk, rv, K', N', V', nm, nl, pd) := ⟨cc, u, sn, 0, rk, rv, K, N, V, K', N', V', nm, nl, pd, rfl, rfl, hc, hu, hs, by omega, q1, q2, q3, R⟩
    by_cases c : ∃ s, s < sn ∧ sy_E nm nl pd pn s
    · obtain ⟨s, hs', E⟩ := c
      obtain ⟨t, ht, E, l⟩ := en_least (sy_E nm nl pd pn) s E
      refine ⟨nI t, _, _, I1, fun post H => ?_, fun post H => yy_some hs hp p0 (by omega) E l H⟩
      unfold wpX_symbolEnd
      exact br_f pz (xy_some hs hp (by omega) E l (br_f (ht_m1 (by omega)) H))
    · have l : ∀ t, t < sn → ¬ sy_E nm nl pd pn t := fun t ht z => c ⟨t, ht, z⟩
      by_cases f : sn = 16
      · refine ⟨-1, _, _, I1, fun post H => ?_, fun post H => yy_full f hp p0 l H⟩
        unfold wpX_symbolEnd
        exact br_f pz (xy_none hs hp l (br_t rfl (br_t (nI_le (a := 16) (by omega) (by omega)) H)))
      · refine ⟨nI sn, _, _, ⟨cc, u, sn + 1, 0, rk, rv, K, N, V, K', N', V', sy_cp nm pd (sn * 8) pn, upd nl sn (nI pn), pd, rfl, rfl, hc, hu, by omega, by omega, fun j hj => ?_, sy_cpN q2 q3 pn, q3, R⟩, fun post H => ?_, fun post H => yy_add (by omega) hp p0 l H⟩
        · by_cases e : j = sn
          · subst e
            exact ⟨pn, hp, pk_us⟩
          · rw [pk_un e]
            exact q1 j (by omega)
        · unfold wpX_symbolEnd
          exact br_f pz (xy_none hs hp l (br_t rfl (br_f (nI_ge (b := 16) (by omega) (by omega)) (xy_add (by omega) hp H))))
theorem ht_char {x : SX} {y : SY} (I : ht_R x y) (v : Int32) : ∃ (r : Int32) (x' : SX) (y' : SY), ht_R x' y' ∧ (∀ post : Int32 → SX → Prop, post r x' → wpX_symbolChar post x (lw_u16 v)) ∧ (∀ post : Int32 → SY → Prop, post r y' → wpY_symbolChar post y (lw_u16 v)) := by
  have I0 := I
  obtain ⟨cc, u, sn, pn, rk, rv, K, N, V, K', N', V', nm, nl, pd, rfl, rfl, hc, hu, hs, hp, q1, q2, q3, R⟩ := I
  by_cases a : lw_u16 v < 97
  · exact ⟨0, _, _, I0, fun post H => br_t a H, fun post H => br_t a H⟩
  · by_cases b : lw_u16 v ≤ 122
    · by_cases c : pn < 8
      · have g : nI pn < 8 := nI_lt (b := 8) c (by omega)
        have iv : vp_in (nI pn) 8 := vp_in_nI c (by omega)
        have cl : (nI pn).toNatClampNeg = pn := nI_clamp (by omega)
        have e : vp_nar .char (lw_u16 v) = lw_u16 v := pk_vc v
        refine ⟨1, _, _, ⟨cc, u, sn, pn + 1, rk, rv, K, N, V, K', N', V', nm, nl, upd pd pn (lw_u16 v), rfl, rfl, hc, hu, hs, by omega, q1, q2, fun j => ?_, R⟩, fun post H => ?_, fun post H => ?_⟩
        · by_cases z : j = pn
          · subst z
            rw [pk_us]
            exact pk_nc v
          · rw [pk_un z]
            exact q3 j
        · exact br_f a (br_t b (br_t g ⟨iv, nm_r (by rw [cl, e]) (nm_r (nI_1 pn) H)⟩))
        · exact br_f a (br_t b (br_t g ⟨iv, nm_r (by rw [cl, e]) (nm_r (nI_1 pn) H)⟩))
      · have g : ¬ nI pn < 8 := nI_nlt (b := 8) (by omega) (by omega)
        exact ⟨0, _, _, I0, fun post H => br_f a (br_t b (br_f g H)), fun post H => br_f a (br_t b (br_f g H))⟩
    · exact ⟨0, _, _, I0, fun post H => br_f a (br_f b H), fun post H => br_f a (br_f b H)⟩
end
end
section
def i_Rel (k : Nat) (u : SX) (v : SY) : Prop := ht_R u v
theorem i_up {k : Nat} {u : SX} {v : SY} (h : i_Rel k u v) : i_Rel (k + 4) u v := h
theorem i_vc0 (k0 : Int32) : wpX_init (fun u => wpY_init (fun v => i_Rel 1 u v) k0) k0 := by
  have Z : ∀ j, j ≤ 32 → ht_R (nI j, 0, 0, 0, 0, 0, (fun _ => 0), (fun _ => 0), (fun _ => 0), (fun _ => 0), (fun _ => 0), (fun _ => 0)) (nI j, 0, 0, 0, 0, 0, (fun _ => 0), (fun _ => 0), (fun _ => 0), (fun _ => 0), (fun _ => 0), (fun _ => 0)) := fun j hj => ⟨j, 0, 0, 0, 0, 0, (fun _ => 0), (fun _ => 0), (fun _ => 0), (fun _ => 0), (fun _ => 0), (fun _ => 0), (fun _ => 0), (fun _ => 0), (fun _ => 0), rfl, rfl, hj, Nat.zero_le _, by omega, by omega, fun j h => absurd h (by omega), fun _ => rfl, fun _ => rfl, en_R0 _ _ _ _ _ _⟩
  by_cases a : 4 ≤ k0
  · by_cases b : k0 ≤ 32
    · have n0 : ¬ k0 < 0 := Int32.not_lt.mpr (Int32.le_trans (by decide) a)
      obtain ⟨j, hj, rfl⟩ := nI_of2 (n := 32) (by decide) n0 b
      exact br_t a (br_t b (br_t a (br_t b (Z j hj))))
    · exact br_t a (br_f b (br_t a (br_f b (Z 32 (by omega)))))
  · exact br_f a (br_f a (br_t (by decide) (Z 4 (by omega))))
theorem i_vc_symbolChar {k : Nat} {u : SX} {v : SY} (I : i_Rel k u v) (hk : k + 4 ≤ 2049) (v1 : Int32) : wpX_symbolChar (fun r u' => wpY_symbolChar (fun r' v' => r' = r ∧ i_Rel (k + 4) u' v') v (lw_u16 v1)) u (lw_u16 v1) := by
  obtain ⟨r, x', y', R, hX, hY⟩ := ht_char I v1
  exact hX _ (hY _ ⟨rfl, R⟩)
theorem i_vc_symbolEnd {k : Nat} {u : SX} {v : SY} (I : i_Rel k u v) (hk : k + 4 ≤ 2049) : wpX_symbolEnd (fun r u' => wpY_symbolEnd (fun r' v' => r' = r ∧ i_Rel (k + 4) u' v') v) u := by
  obtain ⟨r, x', y', R, hX, hY⟩ := ht_end I
  exact hX _ (hY _ ⟨rfl, R⟩)
theorem i_vc_symbolCount {k : Nat} {u : SX} {v : SY} (I : i_Rel k u v) (hk : k + 4 ≤ 2049) : wpX_symbolCount (fun r => wpY_symbolCount (fun r' => r' = r ∧ i_Rel (k + 4) u v) v) u := by
  have I0 := I
  obtain ⟨cc, us, sn, pn, rk, rv, K, N, V, K', N', V', nm, nl, pd, rfl, rfl, _⟩ := I
  exact ⟨rfl, I0⟩
theorem i_vc_symbolLength {k : Nat} {u : SX} {v : SY} (I : i_Rel k u v) (hk : k + 4 ≤ 2049) (v1 : Int32) : wpX_symbolLength (fun r => wpY_symbolLength (fun r' => r' = r ∧ i_Rel (k + 4) u v) v v1) u v1 := by
  have I0 := I
  obtain ⟨cc, us, sn, pn, rk, rv, K, N, V, K', N', V', nm, nl, pd, rfl, rfl, hc, hu, hs, _⟩ := I
  obtain ⟨r, _, hX, hY⟩ := ht_len (cc := cc) (u := us) (pn := pn) (rk := rk) (rv := rv) (K := K) (N := N) (V := V) (K' := K') (N' := N') (V' := V') (nm := nm) (nl := nl) (pd := pd) hs v1
  exact hX _ (hY _ ⟨rfl, I0⟩)
theorem i_vc_symbolCharAt {k : Nat} {u : SX} {v : SY} (I : i_Rel k u v) (hk : k + 4 ≤ 2049) (v1 : Int32) (v2 : Int32) : wpX_symbolCharAt (fun r => wpY_symbolCharAt (fun r' => r' = r ∧ i_Rel (k + 4) u v) v v1 v2) u v1 v2 := by
  have I0 := I
  obtain ⟨cc, us, sn, pn, rk, rv, K, N, V, K', N', V', nm, nl, pd, rfl, rfl, hc, hu, hs, hp, q1, q2, q3, _⟩ := I
  obtain ⟨r, hX, hY⟩ := ht_charAt (cc := cc) (u := us) (rk := rk) (rv := rv) (K := K) (N := N) (V := V) (K' := K') (N' := N') (V' := V') (nm := nm) (nl := nl) (pd := pd) hs hp q1 q2 q3 v1 v2
  exact hX _ (hY _ ⟨rfl, I0⟩)
theorem i_vc_set {k : Nat} {u : SX} {v : SY} (I : i_Rel k u v) (hk : k + 4 ≤ 2049) (v1 : Int32) (v2 : Int32) (v3 : Int32) : wpX_set (fun r u' => wpY_set (fun r' v' => r' = r ∧ i_Rel (k + 4) u' v') v v1 v2 v3) u v1 v2 v3 := by
  obtain ⟨r, x', y', R, hX, hY⟩ := ht_set I v1 v2 v3
  exact hX _ (hY _ ⟨rfl, R⟩)
theorem i_vc_get {k : Nat} {u : SX} {v : SY} (I : i_Rel k u v) (hk : k + 4 ≤ 2049) (v1 : Int32) (v2 : Int32) : wpX_get (fun r => wpY_get (fun r' => r' = r ∧ i_Rel (k + 4) u v) v v1 v2) u v1 v2 := by
  obtain ⟨r, hX, hY⟩ := ht_get I v1 v2
  exact hX _ (hY _ ⟨rfl, I⟩)
theorem i_vc_count {k : Nat} {u : SX} {v : SY} (I : i_Rel k u v) (hk : k + 4 ≤ 2049) : wpX_count (fun r => wpY_count (fun r' => r' = r ∧ i_Rel (k + 4) u v) v) u := by
  have I0 := I
  obtain ⟨cc, us, sn, pn, rk, rv, K, N, V, K', N', V', nm, nl, pd, rfl, rfl, _⟩ := I
  exact ⟨rfl, I0⟩
theorem i_vc_length {k : Nat} {u : SX} {v : SY} (I : i_Rel k u v) (hk : k + 4 ≤ 2049) : wpX_length (fun r => wpY_length (fun r' => r' = r ∧ i_Rel (k + 4) u v) v) u := by
  obtain ⟨b, hX, hY⟩ := ht_length I
  exact hX _ (hY _ ⟨rfl, I⟩)
theorem i_vc_next {k : Nat} {u : SX} {v : SY} (I : i_Rel k u v) (hk : k + 4 ≤ 2049) (v1 : Int32) (v2 : Int32) : wpX_next (fun r u' => wpY_next (fun r' v' => r' = r ∧ i_Rel (k + 4) u' v') v v1 v2) u v1 v2 := by
  obtain ⟨r, x', y', R, hX, hY⟩ := ht_next I v1 v2
  exact hX _ (hY _ ⟨rfl, R⟩)
theorem i_vc_lastKey {k : Nat} {u : SX} {v : SY} (I : i_Rel k u v) (hk : k + 4 ≤ 2049) : wpX_lastKey (fun r => wpY_lastKey (fun r' => r' = r ∧ i_Rel (k + 4) u v) v) u := by
  have I0 := I
  obtain ⟨cc, us, sn, pn, rk, rv, K, N, V, K', N', V', nm, nl, pd, rfl, rfl, _⟩ := I
  exact ⟨rfl, I0⟩
theorem i_vc_lastValue {k : Nat} {u : SX} {v : SY} (I : i_Rel k u v) (hk : k + 4 ≤ 2049) : wpX_lastValue (fun r => wpY_lastValue (fun r' => r' = r ∧ i_Rel (k + 4) u v) v) u := by
  have I0 := I
  obtain ⟨cc, us, sn, pn, rk, rv, K, N, V, K', N', V', nm, nl, pd, rfl, rfl, _⟩ := I
  exact ⟨rfl, I0⟩
theorem i_vc_fill {k : Nat} {u : SX} {v : SY} (I : i_Rel k u v) (hk : k + 4 ≤ 2049) (v1 : Int32) (v2 : Int32) (v3 : Int32) : wpX_fill (fun r u' => wpY_fill (fun r' v' => r' = r ∧ i_Rel (k + 4) u' v') v v1 v2 v3) u v1 v2 v3 := by
  by_cases a : v2 < 0
  · obtain ⟨a1, a2, a3, a4, a5, a6, a7, a8, a9, a10, a11, a12⟩ := u
    obtain ⟨b1, b2, b3, b4, b5, b6, b7, b8, b9, b10, b11, b12⟩ := v
    exact br_t a (br_t a ⟨rfl, I⟩)
  · by_cases b : v2 ≤ 64
    · obtain ⟨n, hn, rfl⟩ := nI_of2 (n := 64) (by decide) a b
      obtain ⟨r, x', y', R, hX, hY⟩ := ht_fill v1 v3 hn n 0 (by omega) u v I
      obtain ⟨a1, a2, a3, a4, a5, a6, a7, a8, a9, a10, a11, a12⟩ := u
      obtain ⟨b1, b2, b3, b4, b5, b6, b7, b8, b9, b10, b11, b12⟩ := v
      exact br_f a (br_t b ⟨_, hX _ (br_f a (br_t b ⟨_, hY _ ⟨rfl, R⟩⟩))⟩)
    · obtain ⟨a1, a2, a3, a4, a5, a6, a7, a8, a9, a10, a11, a12⟩ := u
      obtain ⟨b1, b2, b3, b4, b5, b6, b7, b8, b9, b10, b11, b12⟩ := v
      exact br_f a (br_f b (br_f a (br_f b ⟨rfl, I⟩)))
theorem i_vc_append {k : Nat} {u : SX} {v : SY} (I : i_Rel k u v) (hk : k + 4 ≤ 2049) (v1 : Int32) : wpX_append (fun r u' => wpY_append (fun r' v' => r' = r ∧ i_Rel (k + 4) u' v') v v1) u v1 := by
  by_cases a : v1 = 0
  · obtain ⟨a1, a2, a3, a4, a5, a6, a7, a8, a9, a10, a11, a12⟩ := u
    obtain ⟨b1, b2, b3, b4, b5, b6, b7, b8, b9, b10, b11, b12⟩ := v
    exact br_t a (br_t a ⟨rfl, I⟩)
  · obtain ⟨b, lX, lY⟩ := ht_length I
    obtain ⟨r, x', y', R, hX, hY⟩ := ht_set I 0 (nI b + 1) v1
    obtain ⟨a1, a2, a3, a4, a5, a6, a7, a8, a9, a10, a11, a12⟩ := u
    obtain ⟨b1, b2, b3, b4, b5, b6, b7, b8, b9, b10, b11, b12⟩ := v
    obtain ⟨c1, c2, c3, c4, c5, c6, c7, c8, c9, c10, c11, c12⟩ := x'
    obtain ⟨d1, d2, d3, d4, d5, d6, d7, d8, d9, d10, d11, d12⟩ := y'
    by_cases r0 : r = 0
    · exact br_f a (lX _ (nm_e (hX _ (br_t r0 (br_f a (lY _ (hY _ (br_t r0 ⟨rfl, R⟩))))))))
    · exact br_f a (lX _ (nm_e (hX _ (br_f r0 (br_f a (lY _ (hY _ (br_f r0 ⟨rfl, R⟩))))))))
theorem i_vc_purgeBelow {k : Nat} {u : SX} {v : SY} (I : i_Rel k u v) (hk : k + 4 ≤ 2049) (v1 : Int32) : wpX_purgeBelow (fun r u' => wpY_purgeBelow (fun r' v' => r' = r ∧ i_Rel (k + 4) u' v') v v1) u v1 := by
  obtain ⟨r, x', y', R, hX, hY⟩ := ht_purge I v1
  exact hX _ (hY _ ⟨rfl, R⟩)
theorem i_vc_clear {k : Nat} {u : SX} {v : SY} (I : i_Rel k u v) (hk : k + 4 ≤ 2049) : wpX_clear (fun u' => wpY_clear (fun v' => i_Rel (k + 4) u' v') v) u := by
  obtain ⟨cc, us, sn, pn, rk, rv, K, N, V, K', N', V', nm, nl, pd, rfl, rfl, hc, hu, hs, hp, q1, q2, q3, R⟩ := I
  exact ⟨cc, 0, sn, pn, rk, rv, K, N, V, K', N', V', nm, nl, pd, rfl, rfl, hc, Nat.zero_le _, hs, hp, q1, q2, q3, en_R0 _ _ _ _ _ _⟩
end
