/-! the machine's numbers as images of the integers -/
def fd_l (z : Int) : Int64 := Int64.ofInt z
def fd_i (z : Int) : Int32 := Int32.ofInt z
def fd_s (z : Int) : Prop := -4611686018427387904 ≤ z ∧ z ≤ 4611686018427387904
def fd_k (z : Int) : Prop := -1073741824 ≤ z ∧ z ≤ 1073741824
theorem fd_l_add (a b : Int) : fd_l a + fd_l b = fd_l (a + b) := (Int64.ofInt_add a b).symm
theorem fd_l_sub (a b : Int) : fd_l a - fd_l b = fd_l (a - b) := (Int64.ofInt_sub a b).symm
theorem fd_l_mul (a b : Int) : fd_l a * fd_l b = fd_l (a * b) := (Int64.ofInt_mul a b).symm
theorem fd_l_neg (a : Int) : -fd_l a = fd_l (-a) := (Int64.ofInt_neg a).symm
theorem fd_i_add (a b : Int) : fd_i a + fd_i b = fd_i (a + b) := (Int32.ofInt_add a b).symm
theorem fd_i_sub (a b : Int) : fd_i a - fd_i b = fd_i (a - b) := (Int32.ofInt_sub a b).symm
theorem fd_i_mul (a b : Int) : fd_i a * fd_i b = fd_i (a * b) := (Int32.ofInt_mul a b).symm
theorem fd_i_neg (a : Int) : -fd_i a = fd_i (-a) := (Int32.ofInt_neg a).symm
theorem fd_l_toInt {z : Int} (h : fd_s z) : (fd_l z).toInt = z := Int64.toInt_ofInt_of_le (by have := h.1; omega) (by have := h.2; omega)
theorem fd_i_toInt {z : Int} (h : fd_k z) : (fd_i z).toInt = z := Int32.toInt_ofInt_of_le (by have := h.1; omega) (by have := h.2; omega)
theorem fd_l_eq {a b : Int} (ha : fd_s a) (hb : fd_s b) : fd_l a = fd_l b ↔ a = b := by
  constructor
  · intro h; rw [← fd_l_toInt ha, h, fd_l_toInt hb]
  · intro h; rw [h]
theorem fd_l_le {a b : Int} (ha : fd_s a) (hb : fd_s b) : fd_l a ≤ fd_l b ↔ a ≤ b := by
  rw [Int64.le_iff_toInt_le, fd_l_toInt ha, fd_l_toInt hb]
theorem fd_l_lt {a b : Int} (ha : fd_s a) (hb : fd_s b) : fd_l a < fd_l b ↔ a < b := by
  rw [Int64.lt_iff_toInt_lt, fd_l_toInt ha, fd_l_toInt hb]
theorem fd_i_eq {a b : Int} (ha : fd_k a) (hb : fd_k b) : fd_i a = fd_i b ↔ a = b := by
  constructor
  · intro h; rw [← fd_i_toInt ha, h, fd_i_toInt hb]
  · intro h; rw [h]
theorem fd_i_le {a b : Int} (ha : fd_k a) (hb : fd_k b) : fd_i a ≤ fd_i b ↔ a ≤ b := by
  rw [Int32.le_iff_toInt_le, fd_i_toInt ha, fd_i_toInt hb]
theorem fd_i_lt {a b : Int} (ha : fd_k a) (hb : fd_k b) : fd_i a < fd_i b ↔ a < b := by
  rw [Int32.lt_iff_toInt_lt, fd_i_toInt ha, fd_i_toInt hb]
theorem fd_i_nat (n : Nat) : fd_i (n : Int) = nI n := Int32.ofInt_eq_ofNat
theorem fd_l_nat (n : Nat) : fd_l (n : Int) = lN n := Int64.ofInt_eq_ofNat
theorem fd_s_k {z : Int} (h : fd_k z) : fd_s z := ⟨by have := h.1; omega, by have := h.2; omega⟩
theorem fd_i_l {z : Int} (h : fd_k z) : (fd_i z).toInt64 = fd_l z :=
  Int64.toInt_inj.mp (by rw [Int32.toInt_toInt64, fd_i_toInt h, fd_l_toInt (fd_s_k h)])
theorem fd_l_i (z : Int) : (fd_l z).toInt32 = fd_i z := by
  apply Int32.toInt_inj.mp
  rw [Int64.toInt_toInt32]
  show (Int64.ofInt z).toInt.bmod (2 ^ 32) = (Int32.ofInt z).toInt
  rw [Int64.toInt_ofInt, Int32.toInt_ofInt]
  exact Int.bmod_bmod_of_dvd (by decide)
theorem fd_of32 (x : Int32) : x.toInt64 = fd_l x.toInt := rfl
theorem fd_i_of (x : Int32) : fd_i x.toInt = x := Int32.ofInt_toInt x
theorem fd_l_0 : fd_l 0 = 0 := by decide
theorem fd_l_1 : fd_l 1 = 1 := by decide
theorem fd_s_of {z : Int} {M : Nat} (h : z.natAbs ≤ M) (hM : M ≤ 4611686018427387904) : fd_s z := ⟨by omega, by omega⟩
theorem fd_s_lit {z : Int} (h : z.natAbs ≤ 1000000) : fd_s z := ⟨by omega, by omega⟩
theorem fd_k_lit {z : Int} (h : z.natAbs ≤ 1000000) : fd_k z := ⟨by omega, by omega⟩
theorem fd_l_z {a : Int} (ha : fd_s a) : fd_l a = 0 ↔ a = 0 := by
  rw [← fd_l_0]; exact fd_l_eq ha (fd_s_lit (by decide))
theorem fd_l_div {a b : Int} (ha : fd_s a) (hb : fd_s b) : fd_l a / fd_l b = fd_l (a.tdiv b) := by
  apply Int64.toInt_inj.mp
  have hm : fd_l a ≠ Int64.minValue := by
    intro e
    have h1 := congrArg Int64.toInt e
    rw [fd_l_toInt ha] at h1
    have h2 : Int64.minValue.toInt = -9223372036854775808 := by decide
    have := ha.1
    omega
  rw [Int64.toInt_div_of_ne_left _ _ hm, fd_l_toInt ha, fd_l_toInt hb]
  have h3 := Int.natAbs_tdiv_le_natAbs a b
  have h4 := ha.1
  have h5 := ha.2
  rw [fd_l_toInt ⟨by omega, by omega⟩]
theorem fd_l_rem {a b : Int} (ha : fd_s a) (hb : fd_s b) : fd_l a - fd_l a / fd_l b * fd_l b = fd_l (a.tmod b) := by
  rw [fd_l_div ha hb, fd_l_mul, fd_l_sub, Int.tmod_def, Int.mul_comm b]
theorem fd_s_tmod {a b : Int} (ha : fd_s a) : fd_s (a.tmod b) := by
  have h1 : (a.tmod b).natAbs ≤ a.natAbs := by
    rw [Int.natAbs_tmod]; exact Nat.mod_le _ _
  have h4 := ha.1
  have h5 := ha.2
  exact ⟨by omega, by omega⟩
theorem fd_l_rem0 {a b : Int} (ha : fd_s a) (hb : fd_s b) : fd_l a - fd_l a / fd_l b * fd_l b = 0 ↔ b ∣ a := by
  rw [fd_l_rem ha hb, fd_l_z (fd_s_tmod ha), ← Int.dvd_iff_tmod_eq_zero]
theorem fd_l_divx {a b : Int} (ha : fd_s a) (hb : fd_s b) (h : b ∣ a) : fd_l a / fd_l b = fd_l (a / b) := by
  rw [fd_l_div ha hb, Int.tdiv_eq_ediv_of_dvd h]
/-! indices -/
theorem fd_ixX (r i : Nat) : nI r * 6 + nI i = nI (r * 6 + i) := by
  show nI r * nI 6 + nI i = _
  rw [← nI_add]; congr 1; exact (Int32.ofNat_mul r 6).symm
theorem fd_ixY (r i : Nat) : 6 * nI r + nI i = nI (6 * r + i) := by
  show nI 6 * nI r + nI i = _
  rw [← nI_add]; congr 1; exact (Int32.ofNat_mul 6 r).symm
theorem fd_m1 (n : Nat) : nI (n + 1) + (-1) = nI n := nI_pred n ▸ Int32.sub_eq_add_neg (nI (n + 1)) 1 ▸ rfl
theorem fd_uLs {f : Nat → Int64} {k : Nat} {x : Int64} : vp_updL f k x k = x := if_pos rfl
theorem fd_uLn {f : Nat → Int64} {k j : Nat} {x : Int64} (h : j ≠ k) : vp_updL f k x j = f j := if_neg h
theorem fd_us {f : Nat → Int32} {k : Nat} {x : Int32} : upd f k x k = x := if_pos rfl
theorem fd_un {f : Nat → Int32} {k j : Nat} {x : Int32} (h : j ≠ k) : upd f k x j = f j := if_neg h
/-- a loop that writes g 0, g 1, .. at o, o + 1, .. -/
theorem fd_fill (W : Nat → Int32 → (Nat → Int64) → Prop) (N o : Nat) (g a0 : Nat → Int64)
    (hx : ∀ n a, (∀ j, j < N → a (o + j) = g j) → (∀ j, (j < o ∨ o + N ≤ j) → a j = a0 j) → W (n + 1) (nI N) a)
    (hs : ∀ n i a, i < N → (∀ j, (j < o ∨ o + i ≤ j) → a j = a0 j) → W n (nI (i + 1)) (vp_updL a (o + i) (g i)) → W (n + 1) (nI i) a) : ∃ n, W n (nI 0) a0 := by
  have key : ∀ k i a, i + k = N → (∀ j, j < i → a (o + j) = g j) → (∀ j, (j < o ∨ o + i ≤ j) → a j = a0 j) → W (k + 1) (nI i) a := by
    intro k
    induction k with
    | zero =>
      intro i a hi h1 h2
      have e : i = N := by omega
      subst e
      exact hx 0 a h1 h2
    | succ k ih =>
      intro i a hi h1 h2
      refine hs (k + 1) i a (by omega) h2 (ih (i + 1) _ (by omega) (fun j hj => ?_) (fun j hj => ?_))
      · by_cases e : j = i
        · subst e; exact fd_uLs
        · rw [fd_uLn (by omega)]; exact h1 j (by omega)
      · rw [fd_uLn (by omega)]; exact h2 j (by omega)
  exact ⟨N + 1, key N 0 a0 (by omega) (fun j hj => absurd hj (Nat.not_lt_zero j)) (fun j _ => rfl)⟩
/-- a loop that only looks, down from e - 1 -/
theorem fd_down (W : Nat → Int32 → Prop) (p : Nat → Prop) (e : Nat)
    (hx : (∀ j, j < e → p j) → ∀ n, W (n + 1) (-1))
    (hs : ∀ n i, i < e → (∀ j, i < j → j < e → p j) → (p i → W n (nI i + (-1))) → W (n + 1) (nI i)) : ∃ n, W n (nI e + (-1)) := by
  have key : ∀ i, i ≤ e → (∀ j, i ≤ j → j < e → p j) → W (i + 1) (nI i + (-1)) := by
    intro i
    induction i with
    | zero => intro _ h; exact hx (fun j hj => h j (Nat.zero_le j) hj) 0
    | succ i ih =>
      intro hi h
      rw [fd_m1]
      refine hs (i + 1) i (by omega) (fun j h1 h2 => h j h1 h2) (fun hp => ih (by omega) (fun j h1 h2 => ?_))
      by_cases ej : j = i
      · rw [ej]; exact hp
      · exact h j (by omega) h2
  exact ⟨_, key e (Nat.le_refl e) (fun j h1 h2 => absurd h1 (by omega))⟩
/-- a loop that only looks, up from 0 to N -/
theorem fd_upl (W : Nat → Int32 → Prop) (p : Nat → Prop) (N : Nat)
    (hx : (∀ j, j < N → p j) → ∀ n, W (n + 1) (nI N))
    (hs : ∀ n i, i < N → (∀ j, j < i → p j) → (p i → W n (nI (i + 1))) → W (n + 1) (nI i)) : ∃ n, W n (nI 0) := by
  have key : ∀ k i, i + k = N → (∀ j, j < i → p j) → W (k + 1) (nI i) := by
    intro k
    induction k with
    | zero => intro i hi h; have e : i = N := by omega
              subst e; exact hx h 0
    | succ k ih =>
      intro i hi h
      refine hs (k + 1) i (by omega) h (fun hp => ih (i + 1) (by omega) (fun j hj => ?_))
      by_cases ej : j = i
      · rw [ej]; exact hp
      · exact h j (by omega)
  exact ⟨_, key N 0 (by omega) (fun j hj => absurd hj (Nat.not_lt_zero j))⟩
def fd_R (a : Nat → Int64) (f : Nat → Int) : Prop := ∀ i, i < 6 → a i = fd_l (f i)
def fd_B (f : Nat → Int) (M : Nat) : Prop := ∀ i, (f i).natAbs ≤ M
theorem fd_R0 {a : Nat → Int64} {f : Nat → Int} {M : Nat} (h : fd_R a f) (hB : fd_B f M) (hM : M ≤ 4611686018427387904) {i : Nat} (hi : i < 6) : a i = 0 ↔ f i = 0 := by
  rw [h i hi]; exact fd_l_z (fd_s_of (hB i) hM)
