/-! the order of factors; a sorted list of irreducibles is unique -/
def fd_lt (p q : Nat → Int) : Prop := ∃ i, p i < q i ∧ ∀ j, i < j → p j = q j
def fd_le (p q : Nat → Int) : Prop := p = q ∨ fd_lt p q
theorem fd_lt_as {p q : Nat → Int} (h : fd_lt p q) (h' : fd_lt q p) : False := by
  obtain ⟨i, h1, h2⟩ := h
  obtain ⟨j, h3, h4⟩ := h'
  rcases Nat.lt_trichotomy i j with h5 | h5 | h5
  · have := h2 j h5; omega
  · subst h5; omega
  · have := h4 i h5; omega
theorem fd_le_as {p q : Nat → Int} (h : fd_le p q) (h' : fd_le q p) : p = q := by
  rcases h with h | h
  · exact h
  · rcases h' with h' | h'
    · exact h'.symm
    · exact (fd_lt_as h h').elim
theorem fd_lt_deg {p q : Nat → Int} {a b : Nat} (hp : fd_L p a) (hq : fd_D q b) (hpos : 0 < q b) (h : a < b) : fd_lt p q :=
  ⟨b, by rw [hp b h]; exact hpos, fun j hj => by rw [hp j (by omega), hq.2 j hj]⟩
theorem fd_sm_c1 (c : Int) : fd_sm c (fd_c 1) = fd_c c := by
  funext i; simp only [fd_sm, fd_c]; by_cases h : i = 0 <;> simp [h]
theorem fd_uniq : ∀ (L L' : List (Nat → Int)) (c c' : Int), c ≠ 0 → c' ≠ 0 → (∀ p ∈ L, fd_Irr p) → (∀ p ∈ L', fd_Irr p) → List.Pairwise fd_le L → List.Pairwise fd_le L' → fd_sm c (fd_prod L) = fd_sm c' (fd_prod L') → L = L' := by
  intro L
  induction L with
  | nil =>
    intro L' c c' hc hc' _ hI' _ _ h
    cases L' with
    | nil => rfl
    | cons q L'' =>
      refine absurd ?_ (fd_irr_nc (hI' q (List.mem_cons_self ..)) c hc)
      have e : fd_c c = fd_sm c' (fd_mul q (fd_prod L'')) := by
        have := h; rw [fd_prod, fd_sm_c1] at this; exact this
      rw [e, ← fd_mul_sm]
      exact ⟨_, fd_F_sm _ (fd_F_prod L'' fun r hr => fd_irr_F (hI' r (List.mem_cons_of_mem _ hr))), rfl⟩
  | cons p L ih =>
    intro L' c c' hc hc' hI hI' hs hs' h
    have hFL : fd_F (fd_prod L) := fd_F_prod L fun r hr => fd_irr_F (hI r (List.mem_cons_of_mem _ hr))
    have hp := hI p (List.mem_cons_self ..)
    have hpd : fd_dv p (fd_sm c (fd_prod (p :: L))) := by
      rw [fd_prod, ← fd_mul_sm]; exact ⟨_, fd_F_sm _ hFL, rfl⟩
    cases L' with
    | nil =>
      refine absurd ?_ (fd_irr_nc hp c' hc')
      have e : fd_c c' = fd_sm c (fd_prod (p :: L)) := by
        rw [h, fd_prod, fd_sm_c1]
      rw [e]; exact hpd
    | cons q L'' =>
      have hFL' : fd_F (fd_prod L'') := fd_F_prod L'' fun r hr => fd_irr_F (hI' r (List.mem_cons_of_mem _ hr))
      have hq := hI' q (List.mem_cons_self ..)
      have hqd : fd_dv q (fd_sm c' (fd_prod (q :: L''))) := by
        rw [fd_prod, ← fd_mul_sm]; exact ⟨_, fd_F_sm _ hFL', rfl⟩
      have m1 : p ∈ q :: L'' := fd_mem hp c' hc' _ hI' (by rw [← h]; exact hpd)
      have m2 : q ∈ p :: L := fd_mem hq c hc _ hI (by rw [h]; exact hqd)
      have e : p = q := by
        rcases List.mem_cons.mp m1 with e | e
        · exact e
        · rcases List.mem_cons.mp m2 with e' | e'
          · exact e'.symm
          · exact fd_le_as ((List.pairwise_cons.mp hs).1 q e') ((List.pairwise_cons.mp hs').1 p e)
      subst e
      have e2 : fd_sm c (fd_prod L) = fd_sm c' (fd_prod L'') := by
        apply fd_cancel (fd_irr_F hp) (fd_irr_nz hp) (fd_F_sm _ hFL) (fd_F_sm _ hFL')
        rw [fd_mul_sm, fd_mul_sm]; exact h
      rw [ih L'' c c' hc hc' (fun r hr => hI r (List.mem_cons_of_mem _ hr)) (fun r hr => hI' r (List.mem_cons_of_mem _ hr)) (List.pairwise_cons.mp hs).2 (List.pairwise_cons.mp hs').2 e2]
theorem fd_prod_app (L L' : List (Nat → Int)) : fd_prod (L ++ L') = fd_mul (fd_prod L) (fd_prod L') := by
  induction L with
  | nil => rw [List.nil_append, fd_prod, fd_1_mul]
  | cons p L ih => rw [List.cons_append, fd_prod, ih, fd_prod, fd_mul_assoc]
theorem fd_prod_snoc (L : List (Nat → Int)) (p : Nat → Int) : fd_prod (L ++ [p]) = fd_mul (fd_prod L) p := by
  rw [fd_prod_app, fd_prod, fd_prod, fd_mul_1]
theorem fd_prod_D (L : List (Nat → Int)) (h : ∀ p ∈ L, fd_Irr p) : ∃ s, fd_D (fd_prod L) s ∧ 0 < fd_prod L s ∧ L.length ≤ s := by
  induction L with
  | nil => exact ⟨0, fd_D_c (by decide), by decide, Nat.le_refl 0⟩
  | cons p L ih =>
    obtain ⟨s, h1, h2, h3⟩ := ih fun q hq => h q (List.mem_cons_of_mem _ hq)
    obtain ⟨_, ⟨d, hd1, hD, hpos⟩, _⟩ := h p (List.mem_cons_self ..)
    refine ⟨d + s, fd_D_mul hD h1, ?_, by rw [List.length_cons]; omega⟩
    rw [fd_prod, (fd_top d s p (fd_prod L) hD.2 h1.2).1]
    exact Int.mul_pos hpos h2
/-! small polynomials -/
def fd_q (t m l : Int) : Nat → Int := fun i => if i = 0 then l else if i = 1 then m else if i = 2 then t else 0
theorem fd_q_0 (t m l : Int) : fd_q t m l 0 = l := rfl
theorem fd_q_1 (t m l : Int) : fd_q t m l 1 = m := rfl
theorem fd_q_2 (t m l : Int) : fd_q t m l 2 = t := rfl
theorem fd_q_L (t m l : Int) : fd_L (fd_q t m l) 2 := fun j hj => by
  simp only [fd_q]; rw [if_neg (by omega), if_neg (by omega), if_neg (by omega)]
theorem fd_q_L1 (m l : Int) : fd_L (fd_q 0 m l) 1 := fun j hj => by
  simp only [fd_q]; rw [if_neg (by omega), if_neg (by omega)]; split <;> rfl
theorem fd_q_D2 {t : Int} (m l : Int) (h : t ≠ 0) : fd_D (fd_q t m l) 2 := ⟨h, fd_q_L t m l⟩
theorem fd_q_D1 {m : Int} (l : Int) (h : m ≠ 0) : fd_D (fd_q 0 m l) 1 := ⟨h, fd_q_L1 m l⟩
theorem fd_q_F (t m l : Int) : fd_F (fd_q t m l) := fd_L_F (fd_q_L t m l)
theorem fd_is_q {u : Nat → Int} (h : fd_L u 2) : u = fd_q (u 2) (u 1) (u 0) := by
  funext i
  by_cases h0 : i = 0
  · subst h0; rfl
  · by_cases h1 : i = 1
    · subst h1; rfl
    · by_cases h2 : i = 2
      · subst h2; rfl
      · rw [h i (by omega)]; simp only [fd_q]; rw [if_neg h0, if_neg h1, if_neg h2]
theorem fd_is_l {u : Nat → Int} (h : fd_L u 1) : u = fd_q 0 (u 1) (u 0) := by
  have := fd_is_q (fd_L_mono h (by omega : 1 ≤ 2)); rw [h 2 (by omega)] at this; exact this
theorem fd_q_mul0 (t m l : Int) (h : Nat → Int) : fd_mul (fd_q t m l) h 0 = l * h 0 := rfl
theorem fd_q_mul1 (t m l : Int) (h : Nat → Int) : fd_mul (fd_q t m l) h 1 = l * h 1 + m * h 0 := rfl
theorem fd_q_mul2 (t m l : Int) (h : Nat → Int) (k : Nat) : fd_mul (fd_q t m l) h (k + 2) = l * h (k + 2) + m * h (k + 1) + t * h k := by
  have e : (fun i => (fun j => fd_q t m l (j + 1)) (i + 1)) = fd_c t := by
    funext i
    cases i with
    | zero => rfl
    | succ i => simp [fd_q, fd_c]
  rw [fd_mul, fd_mul, e, fd_c_mul]
  simp only [fd_sm, fd_q_0]
  show l * h (k + 2) + (m * h (k + 1) + t * h k) = _
  omega
/-- lowest coefficients -/
theorem fd_low {f : Nat → Int} (h : f ≠ fd_z) : ∃ k, f k ≠ 0 ∧ ∀ j, j < k → f j = 0 := by
  have : ∃ i, f i ≠ 0 := Classical.byContradiction fun hn => h (funext fun i => Classical.byContradiction fun hi => hn ⟨i, hi⟩)
  obtain ⟨i, hi⟩ := this
  obtain ⟨k, hk, hm⟩ := fd_least (fun k => f k ≠ 0) i hi
  exact ⟨k, hk, fun j hj => Classical.not_not.mp (hm j hj)⟩
theorem fd_low_mul {f g : Nat → Int} {a b : Nat} (hf : ∀ j, j < a → f j = 0) (hg : ∀ j, j < b → g j = 0) : fd_mul f g (a + b) = f a * g b := by
  have h := fd_mod_ab 0 g b (fun i hi => by rw [hg i hi]; exact ⟨0, by simp⟩) a f (fun i hi => by rw [hf i hi]; exact ⟨0, by simp⟩)
  have := Int.zero_dvd.mp h
  omega
/-- what a register may hold, but 0 -/
def fd_H (F : Nat → Int) : Prop := (∀ i, -20 ≤ F i ∧ F i ≤ 20) ∧ fd_L F 5 ∧ F ≠ fd_z
theorem fd_n1 {x y z : Int} (h : x * y = z) (hy : y ≠ 0) (hz : -20 ≤ z ∧ z ≤ 20) : -20 ≤ x ∧ x ≤ 20 := by
  have h1 : x.natAbs * y.natAbs = z.natAbs := by rw [← Int.natAbs_mul, h]
  have h2 : 1 ≤ y.natAbs := by omega
  have h3 : x.natAbs * 1 ≤ x.natAbs * y.natAbs := Nat.mul_le_mul_left _ h2
  omega
theorem fd_b_lead {F g h : Nat → Int} {a : Nat} (hF : fd_H F) (hg : fd_D g a) (hh : fd_F h) (e : fd_mul g h = F) : -20 ≤ g a ∧ g a ≤ 20 := by
  have hz : h ≠ fd_z := fun z => hF.2.2 (by rw [← e, z, fd_mul_z])
  obtain ⟨b, hb⟩ := fd_D_ex hh hz
  have h1 := (fd_top a b g h hg.2 hb.2).1
  rw [e] at h1
  exact fd_n1 h1.symm hb.1 (hF.1 _)
theorem fd_b_low {F g h : Nat → Int} {a : Nat} (hF : fd_H F) (hg : ∀ j, j < a → g j = 0) (e : fd_mul g h = F) : -20 ≤ g a ∧ g a ≤ 20 := by
  have hz : h ≠ fd_z := fun z => hF.2.2 (by rw [← e, z, fd_mul_z])
  obtain ⟨b, hb, hb'⟩ := fd_low hz
  have h1 := fd_low_mul hg hb'
  rw [e] at h1
  exact fd_n1 h1.symm hb (hF.1 _)
theorem fd_max (n : Nat) : ∀ h : Nat → Int, (∀ j, n ≤ j → h j = 0) → ∃ k, ∀ j, (h j).natAbs ≤ (h k).natAbs := by
  induction n with
  | zero => intro h hh; exact ⟨0, fun j => by rw [hh j (Nat.zero_le _), hh 0 (Nat.zero_le _)]; exact Nat.le_refl _⟩
  | succ n ih =>
    intro h hh
    obtain ⟨k, hk⟩ := ih (fun i => if i < n then h i else 0) (fun j hj => if_neg (by omega))
    by_cases hc : (h n).natAbs ≤ ((fun i => if i < n then h i else 0) k).natAbs
    · by_cases hkn : k < n
      · refine ⟨k, fun j => ?_⟩
        have h1 : ((if j < n then h j else 0) : Int).natAbs ≤ ((if k < n then h k else 0) : Int).natAbs := hk j
        simp only at hc
        rw [if_pos hkn] at h1 hc
        by_cases hj : j < n
        · rw [if_pos hj] at h1; exact h1
        · by_cases hj2 : j = n
          · rw [hj2]; exact hc
          · rw [hh j (by omega)]; simp
      · refine ⟨n, fun j => ?_⟩
        have h1 : ((if j < n then h j else 0) : Int).natAbs ≤ ((if k < n then h k else 0) : Int).natAbs := hk j
        rw [if_neg hkn] at h1
        by_cases hj : j < n
        · rw [if_pos hj] at h1; simp at h1; rw [h1]; simp
        · by_cases hj2 : j = n
          · rw [hj2]; exact Nat.le_refl _
          · rw [hh j (by omega)]; simp
    · refine ⟨n, fun j => ?_⟩
      have h1 : ((if j < n then h j else 0) : Int).natAbs ≤ ((if k < n then h k else 0) : Int).natAbs := hk j
      simp only at hc
      by_cases hj : j < n
      · rw [if_pos hj] at h1; omega
      · by_cases hj2 : j = n
        · rw [hj2]; exact Nat.le_refl _
        · rw [hh j (by omega)]; simp
theorem fd_n2 {m t l x y z v : Int} (hv : -20 ≤ v ∧ v ≤ 20) (ht : -20 ≤ t ∧ t ≤ 20) (hl : -20 ≤ l ∧ l ≤ 20) (hx : x.natAbs ≤ y.natAbs) (hz : z.natAbs ≤ y.natAbs) (hy : y ≠ 0) (e : l * x + m * y + t * z = v) : -60 ≤ m ∧ m ≤ 60 := by
  have h1 : (m * y).natAbs ≤ 20 + 20 * y.natAbs + 20 * y.natAbs := by
    have e1 : m * y = v - l * x - t * z := by omega
    have h2 : (l * x).natAbs ≤ 20 * y.natAbs := by rw [Int.natAbs_mul]; exact Nat.mul_le_mul (by omega) hx
    have h3 : (t * z).natAbs ≤ 20 * y.natAbs := by rw [Int.natAbs_mul]; exact Nat.mul_le_mul (by omega) hz
    omega
  rw [Int.natAbs_mul] at h1
  have h4 : 1 ≤ y.natAbs := by omega
  have h5 : m.natAbs * y.natAbs ≤ 60 * y.natAbs := by omega
  have h6 := Nat.le_of_mul_le_mul_right h5 h4
  omega
theorem fd_bq {F h : Nat → Int} {t m l : Int} (hF : fd_H F) (hh : fd_F h) (e : fd_mul (fd_q t m l) h = F) (ht : -20 ≤ t ∧ t ≤ 20) (hl : -20 ≤ l ∧ l ≤ 20) : -60 ≤ m ∧ m ≤ 60 := by
  obtain ⟨n, hn⟩ := hh
  obtain ⟨k, hk⟩ := fd_max n h hn
  have hz : h ≠ fd_z := fun z => hF.2.2 (by rw [← e, z, fd_mul_z])
  have hk0 : h k ≠ 0 := by
    intro e0
    refine hz (funext fun j => ?_)
    have := hk j
    rw [e0] at this
    simp only [fd_z]
    omega
  cases k with
  | zero =>
    have h1 := fd_q_mul1 t m l h
    rw [e] at h1
    exact fd_n2 (x := h 1) (z := 0) (hF.1 1) ht hl (hk 1) (by simp) hk0 (by rw [h1]; simp)
  | succ k =>
    have h1 := fd_q_mul2 t m l h k
    rw [e] at h1
    exact fd_n2 (hF.1 (k + 2)) ht hl (hk (k + 2)) (hk k) hk0 h1.symm
/-- divisors of degree 1 and 2 -/
theorem fd_b1 {F g h : Nat → Int} (hF : fd_H F) (hg : fd_D g 1) (hh : fd_F h) (e : fd_mul g h = F) : (-20 ≤ g 1 ∧ g 1 ≤ 20) ∧ (-20 ≤ g 0 ∧ g 0 ≤ 20) :=
  ⟨fd_b_lead hF hg hh e, fd_b_low hF (fun j hj => by omega) e⟩
theorem fd_b2 {F g h : Nat → Int} (hF : fd_H F) (hg : fd_D g 2) (hh : fd_F h) (e : fd_mul g h = F) : (-20 ≤ g 2 ∧ g 2 ≤ 20) ∧ (-60 ≤ g 1 ∧ g 1 ≤ 60) ∧ (-20 ≤ g 0 ∧ g 0 ≤ 20) := by
  have h2 := fd_b_lead hF hg hh e
  have h0 : -20 ≤ g 0 ∧ g 0 ≤ 20 := fd_b_low hF (fun j hj => by omega) e
  refine ⟨h2, ?_, h0⟩
  rw [fd_is_q hg.2] at e
  exact fd_bq hF hh e h2 h0
