/-! polynomials modulo p -/
def fd_rd (p : Int) (f : Nat → Int) : Prop := ∀ i, 0 ≤ f i ∧ f i < p
def fd_cg (p : Int) (f g : Nat → Int) : Prop := ∀ i, p ∣ f i - g i
def fd_MQ (p : Int) (u f q : Nat → Int) : Prop := fd_rd p q ∧ fd_L q 5 ∧ fd_cg p (fd_mul u q) f
def fd_mdv (p : Int) (u f : Nat → Int) : Prop := ∃ q, fd_MQ p u f q
def fd_red (p : Int) (f : Nat → Int) : Nat → Int := fun i => f i % p
theorem fd_red_rd {p : Int} (hp : 0 < p) (f : Nat → Int) : fd_rd p (fd_red p f) := fun i => ⟨Int.emod_nonneg _ (by omega), Int.emod_lt_of_pos _ hp⟩
theorem fd_red_cg (p : Int) (f : Nat → Int) : fd_cg p (fd_red p f) f := fun i => Int.dvd_sub_self_of_emod_eq rfl
theorem fd_red_L {p : Int} {f : Nat → Int} {n : Nat} (h : fd_L f n) : fd_L (fd_red p f) n := fun j hj => by simp only [fd_red]; rw [h j hj]; simp
theorem fd_cg_sym {p : Int} {f g : Nat → Int} (h : fd_cg p f g) : fd_cg p g f := fun i => by
  have := Int.dvd_neg.mpr (h i)
  have e : -(f i - g i) = g i - f i := by omega
  rw [e] at this; exact this
theorem fd_cg_tr {p : Int} {f g h : Nat → Int} (h1 : fd_cg p f g) (h2 : fd_cg p g h) : fd_cg p f h := fun i => by
  have := Int.dvd_add (h1 i) (h2 i)
  have e : f i - g i + (g i - h i) = f i - h i := by omega
  rw [e] at this; exact this
theorem fd_cg_mul {p : Int} (u : Nat → Int) {f g : Nat → Int} (h : fd_cg p f g) : fd_cg p (fd_mul u f) (fd_mul u g) := fun i => by
  have h1 := fd_dvd_mul_le p (fd_sub f g) i u (fun j _ => h j)
  rw [fd_mul_sub] at h1
  exact h1
theorem fd_rd_eq {p : Int} {f g : Nat → Int} (hf : fd_rd p f) (hg : fd_rd p g) (h : fd_cg p f g) : f = g := by
  funext i
  have h1 := hf i
  have h2 := hg i
  obtain ⟨c, hc⟩ := h i
  have hc0 : c = 0 := by
    rcases Int.lt_trichotomy c 0 with hn | hn | hn
    · exfalso
      have : p * c ≤ p * (-1) := Int.mul_le_mul_of_nonneg_left (by omega) (by omega)
      omega
    · exact hn
    · exfalso
      have : p * 1 ≤ p * c := Int.mul_le_mul_of_nonneg_left (by omega) (by omega)
      omega
  rw [hc0] at hc
  omega
/-- a monic u: what it divides above its degree modulo p vanishes modulo p -/
theorem fd_monic {p : Int} {u h : Nat → Int} {d : Nat} (hu : fd_L u d) (hu1 : u d = 1) (hh : fd_F h) (H : ∀ j, d ≤ j → p ∣ fd_mul u h j) (j : Nat) : p ∣ h j := by
  obtain ⟨n, hn⟩ := hh
  have key : ∀ k j, n ≤ j + k → p ∣ h j := by
    intro k
    induction k with
    | zero => intro j hj; rw [hn j (by omega)]; exact ⟨0, by simp⟩
    | succ k ih =>
      intro j hj
      by_cases hj2 : n ≤ j + k
      · exact ih j hj2
      · have hhi : ∀ i, p ∣ fd_sub h (fd_tr (j + 1) h) i := fun i => by
          simp only [fd_sub, fd_tr]
          by_cases hi : i < j + 1
          · rw [if_pos hi]; exact ⟨0, by simp⟩
          · rw [if_neg hi]
            have := ih i (by omega)
            rw [Int.sub_zero]; exact this
        have hL : fd_L (fd_tr (j + 1) h) j := fun i hi => by simp only [fd_tr]; rw [if_neg (by omega)]
        have h1 := (fd_top d j u (fd_tr (j + 1) h) hu hL).1
        have e1 : fd_tr (j + 1) h j = h j := by simp only [fd_tr]; rw [if_pos (by omega)]
        rw [hu1, e1, Int.one_mul] at h1
        have h2 := fd_dvd_mul_le p (fd_sub h (fd_tr (j + 1) h)) (d + j) u (fun i _ => hhi i)
        rw [fd_mul_sub] at h2
        simp only [fd_sub] at h2
        rw [h1] at h2
        have h3 := Int.dvd_sub (H (d + j) (by omega)) h2
        have e2 : fd_mul u h (d + j) - (fd_mul u h (d + j) - h j) = h j := by omega
        rw [e2] at h3
        exact h3
  exact key n j (by omega)
theorem fd_MQ_u {p : Int} {u f q q' : Nat → Int} {d : Nat} (hu : fd_L u d) (hu1 : u d = 1) (h : fd_MQ p u f q) (h' : fd_MQ p u f q') : q = q' := by
  refine fd_rd_eq h.1 h'.1 (fun i => ?_)
  refine fd_monic (h := fd_sub q q') hu hu1 (fd_F_sub (fd_L_F h.2.1) (fd_L_F h'.2.1)) (fun j _ => ?_) i
  rw [fd_mul_sub]
  exact fd_cg_tr h.2.2 (fd_cg_sym h'.2.2) j
noncomputable def fd_itg {α : Type} (c : Prop) (a b : α) : α := @ite α c (Classical.propDecidable c) a b
theorem fd_itg_t {α : Type} {c : Prop} {a b : α} (h : c) : fd_itg c a b = a := if_pos h
theorem fd_itg_f {α : Type} {c : Prop} {a b : α} (h : ¬ c) : fd_itg c a b = b := if_neg h
noncomputable def fd_mq (p : Int) (u f : Nat → Int) : Nat → Int := Classical.epsilon fun q => fd_MQ p u f q
abbrev fd_MS : Type := (Nat → Int) × List (Nat → Int)
noncomputable def fd_ms (p : Int) (u : Nat → Int) (s : fd_MS) : fd_MS := fd_itg (fd_mdv p u s.1) (fd_mq p u s.1, s.2 ++ [u]) s
theorem fd_ms_yes {p : Int} {u q : Nat → Int} {d : Nat} {s : fd_MS} (hu : fd_L u d) (hu1 : u d = 1) (h : fd_MQ p u s.1 q) : fd_ms p u s = (q, s.2 ++ [u]) := by
  have h1 : fd_MQ p u s.1 (fd_mq p u s.1) := Classical.epsilon_spec (p := fun q => fd_MQ p u s.1 q) ⟨q, h⟩
  rw [fd_ms, fd_itg_t ⟨q, h⟩, fd_MQ_u hu hu1 h1 h]
theorem fd_ms_no {p : Int} {u : Nat → Int} {s : fd_MS} (h : ¬ fd_mdv p u s.1) : fd_ms p u s = s := by rw [fd_ms, fd_itg_f h]
noncomputable def fd_mi (p : Int) (u : Nat → Int) : Nat → fd_MS → fd_MS
  | 0, s => s
  | n + 1, s => fd_mi p u n (fd_ms p u s)
theorem fd_mi_no {p : Int} {u : Nat → Int} {s : fd_MS} (h : ¬ fd_mdv p u s.1) (n : Nat) : fd_mi p u n s = s := by
  induction n with
  | zero => rfl
  | succ n ih => rw [fd_mi, fd_ms_no h, ih]
def fd_mu (p bc : Nat) : Nat → Int := if bc < p then fd_q 0 1 ((bc : Nat) : Int) else fd_q 1 (((bc - p) / p : Nat) : Int) ((bc % p : Nat) : Int)
def fd_md (p bc : Nat) : Nat := if bc < p then 1 else 2
noncomputable def fd_mz (p : Nat) (s0 : fd_MS) : Nat → fd_MS
  | 0 => s0
  | n + 1 => fd_mi p (fd_mu p n) 5 (fd_mz p s0 n)
/-- what the states have -/
def fd_MI (p : Int) (s : fd_MS) : Prop := fd_rd p s.1 ∧ fd_L s.1 5 ∧ (∃ e, fd_D s.1 e ∧ s.2.length + e ≤ 5) ∧ ∀ g ∈ s.2, ∃ d, fd_D g d ∧ d ≤ 5 ∧ fd_B g 6
theorem fd_MQ_deg {p : Int} {u f q : Nat → Int} {d : Nat} (hp : 0 < p) (hu : fd_L u d) (hu1 : u d = 1) (hf : fd_rd p f) (hz : f ≠ fd_z) (h : fd_MQ p u f q) : ∃ e, fd_D q e ∧ fd_D f (d + e) := by
  obtain ⟨h1, h2, h3⟩ := h
  have hq : q ≠ fd_z := by
    intro e
    rw [e, fd_mul_z] at h3
    exact hz (fd_rd_eq hf (fun i => ⟨Int.le_refl 0, hp⟩) (fd_cg_sym h3))
  obtain ⟨e, he⟩ := fd_D_ex (fd_L_F h2) hq
  obtain ⟨t1, t2⟩ := fd_top d e u q hu he.2
  refine ⟨e, he, ?_, fun j hj => ?_⟩
  · intro hf0
    have h4 := h3 (d + e)
    rw [t1, hu1, hf0, Int.one_mul, Int.sub_zero] at h4
    have h5 := h1 e
    have h6 := Int.le_of_dvd (by have := he.1; omega) h4
    omega
  · have h4 := h3 j
    rw [t2 j hj, Int.zero_sub, Int.dvd_neg] at h4
    have h5 := hf j
    rcases Int.lt_or_eq_of_le h5.1 with h6 | h6
    · have h7 := Int.le_of_dvd h6 h4
      omega
    · exact h6.symm
theorem fd_MI_ms {p : Int} {u : Nat → Int} {d : Nat} {s : fd_MS} (hp : 0 < p) (hd1 : 1 ≤ d) (hd5 : d ≤ 5) (hu : fd_L u d) (hu1 : u d = 1) (huB : fd_B u 6) (h : fd_MI p s) : fd_MI p (fd_ms p u s) := by
  by_cases hm : fd_mdv p u s.1
  · obtain ⟨q, hq⟩ := hm
    obtain ⟨h1, h2, ⟨e, he, hle⟩, h4⟩ := h
    rw [fd_ms_yes hu hu1 hq]
    obtain ⟨e', he', hf⟩ := fd_MQ_deg hp hu hu1 h1 (fd_D_nz he) hq
    have ee := fd_D_u he hf
    refine ⟨hq.1, hq.2.1, ⟨e', he', ?_⟩, fun g hg => ?_⟩
    · show (s.2 ++ [u]).length + e' ≤ 5
      rw [List.length_append, List.length_singleton]; omega
    · rcases List.mem_append.mp hg with h | h
      · exact h4 g h
      · rw [List.mem_singleton.mp h]
        exact ⟨d, ⟨by rw [hu1]; decide, hu⟩, hd5, huB⟩
  · rw [fd_ms_no hm]; exact h
theorem fd_mu_ok {p bc : Nat} (hp2 : 2 ≤ p) (hp7 : p ≤ 7) (hbc : bc < p * p + p) : fd_L (fd_mu p bc) (fd_md p bc) ∧ fd_mu p bc (fd_md p bc) = 1 ∧ fd_B (fd_mu p bc) 6 := by
  unfold fd_mu fd_md
  by_cases h : bc < p
  · rw [if_pos h, if_pos h]
    exact ⟨fd_q_L1 _ _, rfl, fd_q_B (by decide) (by decide) (by omega)⟩
  · rw [if_neg h, if_neg h]
    have h1 : (bc - p) / p < p := by rw [Nat.div_lt_iff_lt_mul (by omega)]; omega
    have h2 : bc % p < p := Nat.mod_lt _ (by omega)
    exact ⟨fd_q_L _ _ _, rfl, fd_q_B (by decide) (by rw [Int.natAbs_natCast]; omega) (by rw [Int.natAbs_natCast]; omega)⟩
theorem fd_md_12 (p bc : Nat) : fd_md p bc = 1 ∨ fd_md p bc = 2 := by
  unfold fd_md
  by_cases h : bc < p
  · rw [if_pos h]; exact Or.inl rfl
  · rw [if_neg h]; exact Or.inr rfl
/-- the list in the end -/
def fd_ML (p : Nat) (f : Nat → Int) (L : List (Nat → Int)) : Prop := ∃ e, fd_D (fd_mz p (f, []) (p * p + p)).1 e ∧ (e = 0 → L = (fd_mz p (f, []) (p * p + p)).2) ∧ (1 ≤ e → L = (fd_mz p (f, []) (p * p + p)).2 ++ [(fd_mz p (f, []) (p * p + p)).1])
theorem fd_ML_u {p : Nat} {f : Nat → Int} {L L' : List (Nat → Int)} (h : fd_ML p f L) (h' : fd_ML p f L') : L = L' := by
  obtain ⟨e, h1, h2, h3⟩ := h
  obtain ⟨e', k1, k2, k3⟩ := h'
  have ee := fd_D_u h1 k1
  subst ee
  by_cases h0 : e = 0
  · rw [h2 h0, k2 h0]
  · rw [h3 (by omega), k3 (by omega)]
/-- what the list has -/
def fd_MB (L : List (Nat → Int)) : Prop := L.length ≤ 5 ∧ ∀ g ∈ L, ∃ d, fd_D g d ∧ d ≤ 5 ∧ fd_B g 6
theorem fd_tmod_red {z p : Int} (hp : 0 < p) : (z.tmod p + p).tmod p = z % p := by
  have h1 := Int.tmod_lt_of_pos z hp
  have h2 := Int.lt_tmod_of_pos z hp
  rw [Int.tmod_eq_emod_of_nonneg (by omega), Int.add_emod_right]
  have h3 := Int.tmod_add_tdiv_mul z p
  conv => rhs; rw [← h3]
  rw [Int.add_mul_emod_self_right]
theorem fd_i_div {a b : Int} (ha : fd_k a) (hb : fd_k b) : fd_i a / fd_i b = fd_i (a.tdiv b) := by
  apply Int32.toInt_inj.mp
  have hm : fd_i a ≠ Int32.minValue := by
    intro e
    have h1 := congrArg Int32.toInt e
    rw [fd_i_toInt ha] at h1
    have h2 : Int32.minValue.toInt = -2147483648 := by decide
    have := ha.1
    omega
  rw [Int32.toInt_div_of_ne_left _ _ hm, fd_i_toInt ha, fd_i_toInt hb]
  have h3 := Int.natAbs_tdiv_le_natAbs a b
  have h4 := ha.1
  have h5 := ha.2
  rw [fd_i_toInt ⟨by omega, by omega⟩]
theorem fd_i_rem {a b : Int} (ha : fd_k a) (hb : fd_k b) : fd_i a - fd_i a / fd_i b * fd_i b = fd_i (a.tmod b) := by
  rw [fd_i_div ha hb, fd_i_mul, fd_i_sub, Int.tmod_def, Int.mul_comm b]
theorem fd_ndiv {a p : Nat} (ha : a ≤ 1000) (hp : p ≤ 7) : nI a / nI p = nI (a / p) := by
  rw [← fd_i_nat, ← fd_i_nat, ← fd_i_nat, fd_i_div (fd_k_lit (by omega)) (fd_k_lit (by omega))]; rfl
theorem fd_nrem {a p : Nat} (ha : a ≤ 1000) (hp : p ≤ 7) : nI a - nI a / nI p * nI p = nI (a % p) := by
  rw [← fd_i_nat, ← fd_i_nat, ← fd_i_nat, fd_i_rem (fd_k_lit (by omega)) (fd_k_lit (by omega))]; rfl
