/-! common divisors -/
theorem fd_pr_nz {a : Nat → Int} (h : fd_pr a) : a ≠ fd_z := by
  intro e
  have := h 0 (fun i => by rw [e]; exact ⟨0, by simp [fd_z]⟩)
  omega
theorem fd_pr_mul {a b : Nat → Int} (ha : fd_pr a) (hb : fd_pr b) (hFa : fd_F a) (hFb : fd_F b) : fd_pr (fd_mul a b) := by
  intro m hm
  rcases Nat.lt_trichotomy m 1 with h | h | h
  · have e : m = 0 := by omega
    subst e
    rcases fd_dom hFa hFb (funext fun i => Int.zero_dvd.mp (hm i)) with h1 | h1
    · exact absurd h1 (fd_pr_nz ha)
    · exact absurd h1 (fd_pr_nz hb)
  · exact h
  · obtain ⟨q, hq, hqm⟩ := fd_prime_ex m h
    have hall : ∀ i, (q : Int) ∣ fd_mul a b i := fun i => Int.dvd_trans (Int.ofNat_dvd.mpr hqm) (hm i)
    rcases fd_gauss hq a b hall with h1 | h1
    · have := ha q h1
      have := hq.1
      omega
    · have := hb q h1
      have := hq.1
      omega
theorem fd_pr_prod {L : List (Nat → Int)} (hI : ∀ p ∈ L, fd_Irr p) : fd_pr (fd_prod L) := by
  induction L with
  | nil =>
    intro m hm
    have h1 := hm 0
    rw [fd_prod, Int.ofNat_dvd_left] at h1
    exact Nat.dvd_one.mp h1
  | cons p L ih =>
    exact fd_pr_mul (hI p (List.mem_cons_self ..)).1 (ih fun q hq => hI q (List.mem_cons_of_mem _ hq)) (fd_irr_F (hI p (List.mem_cons_self ..))) (fd_F_prod L fun q hq => fd_irr_F (hI q (List.mem_cons_of_mem _ hq)))
theorem fd_prim_dvd {P Q : Nat → Int} {c k : Int} (hP : fd_pr P) (hk : k ≠ 0) (e : fd_sm c P = fd_sm k Q) : k ∣ c := by
  obtain ⟨w', h1, _⟩ := fd_cancel_int _ k P Q (fd_c c) rfl hk hP (by rw [fd_mul_c]; exact e.symm)
  have h2 := congrFun h1 0
  simp only [fd_c, fd_sm] at h2
  exact ⟨w' 0, by simpa using h2⟩
theorem fd_prim_u {P Q : Nat → Int} {c k : Int} {d e : Nat} (hP : fd_pr P) (hQ : fd_pr Q) (hc : c ≠ 0) (hk : k ≠ 0) (h : fd_sm c P = fd_sm k Q) (hD : fd_D P d) (hD' : fd_D Q e) (h1 : 0 < P d) (h2 : 0 < Q e) : P = Q := by
  have a1 := fd_prim_dvd hP hk h
  have a2 := fd_prim_dvd hQ hc h.symm
  have a3 : c.natAbs = k.natAbs := Nat.dvd_antisymm (Int.natAbs_dvd_natAbs.mpr a2) (Int.natAbs_dvd_natAbs.mpr a1)
  have hde : d = e := fd_D_u (fd_D_sm hc hD) (by rw [h]; exact fd_D_sm hk hD')
  subst hde
  have h3 := congrFun h d
  simp only [fd_sm] at h3
  have a4 : c = k := by
    rcases Int.natAbs_eq_natAbs_iff.mp a3 with e | e
    · exact e
    · exfalso
      rw [e] at h3
      rcases Int.lt_or_gt_of_ne hk with hn | hp
      · have b1 : 0 < -k * P d := Int.mul_pos (by omega) h1
        have b2 : k * Q d < 0 := Int.mul_neg_of_neg_of_pos hn h2
        omega
      · have b1 : -k * P d < 0 := Int.mul_neg_of_neg_of_pos (by omega) h1
        have b2 : 0 < k * Q d := Int.mul_pos hp h2
        omega
  rw [a4] at h
  exact fd_sm_inj hk h
/-- the exact quotient -/
noncomputable def fd_xq (p f : Nat → Int) : Nat → Int := Classical.epsilon fun q => fd_F q ∧ fd_mul p q = f
theorem fd_xq_eq {p f q : Nat → Int} (hp : fd_F p) (hz : p ≠ fd_z) (hq : fd_F q) (e : fd_mul p q = f) : fd_xq p f = q := by
  have h : fd_F (fd_xq p f) ∧ fd_mul p (fd_xq p f) = f := Classical.epsilon_spec (p := fun q => fd_F q ∧ fd_mul p q = f) ⟨q, hq, e⟩
  exact fd_cancel hp hz h.1 hq (by rw [h.2, e])
noncomputable def fd_gs (L : List (Nat → Int)) (g : Nat → Int) : Nat → (Nat → Int) × (Nat → Int)
  | 0 => (g, fd_c 1)
  | k + 1 => (fd_ite (fd_dv (L.getD k fd_z) (fd_gs L g k).1) (fd_xq (L.getD k fd_z) (fd_gs L g k).1) (fd_gs L g k).1, fd_ite (fd_dv (L.getD k fd_z) (fd_gs L g k).1) (fd_mul (fd_gs L g k).2 (L.getD k fd_z)) (fd_gs L g k).2)
theorem fd_gs_yes {L : List (Nat → Int)} {g q : Nat → Int} {k : Nat} (hI : ∀ p ∈ L, fd_Irr p) (hk : k < L.length) (hq : fd_F q) (e : fd_mul (L.getD k fd_z) q = (fd_gs L g k).1) : fd_gs L g (k + 1) = (q, fd_mul (fd_gs L g k).2 (L.getD k fd_z)) := by
  have hp := hI _ (fd_getD_mem hk)
  have hdv : fd_dv (L.getD k fd_z) (fd_gs L g k).1 := ⟨q, hq, e⟩
  rw [fd_gs, fd_ite_t hdv, fd_ite_t hdv, fd_xq_eq (fd_irr_F hp) (fd_irr_nz hp) hq e]
theorem fd_gs_no {L : List (Nat → Int)} {g : Nat → Int} {k : Nat} (h : ¬ fd_dv (L.getD k fd_z) (fd_gs L g k).1) : fd_gs L g (k + 1) = fd_gs L g k := by
  rw [fd_gs, fd_ite_f h, fd_ite_f h]
/-- G so far divides the product of the factors looked at; the rest divides g -/
theorem fd_gs_inv {L : List (Nat → Int)} {g : Nat → Int} (hI : ∀ p ∈ L, fd_Irr p) (hg : fd_F g) : ∀ k, k ≤ L.length → fd_F (fd_gs L g k).1 ∧ fd_F (fd_gs L g k).2 ∧ fd_dv (fd_gs L g k).2 (fd_prod (L.take k)) ∧ fd_mul (fd_gs L g k).2 (fd_gs L g k).1 = g := by
  intro k
  induction k with
  | zero => intro _; exact ⟨hg, fd_F_c 1, by rw [List.take_zero, fd_prod]; exact fd_dv_refl _, fd_1_mul g⟩
  | succ k ih =>
    intro hk
    obtain ⟨h1, h2, h3, h4⟩ := ih (by omega)
    have hF : fd_F (L.getD k fd_z) := fd_irr_F (hI _ (fd_getD_mem (by omega)))
    rw [fd_take_succ (by omega)]
    by_cases hd : fd_dv (L.getD k fd_z) (fd_gs L g k).1
    · obtain ⟨q, hq, e⟩ := hd
      rw [fd_gs_yes hI (by omega) hq e]
      refine ⟨hq, fd_F_mul h2 hF, ?_, ?_⟩
      · obtain ⟨r, hr, e'⟩ := h3
        refine ⟨r, hr, ?_⟩
        show fd_mul (fd_mul (fd_gs L g k).2 (L.getD k fd_z)) r = _
        rw [← e', fd_mul_assoc, fd_mul_comm _ r, ← fd_mul_assoc]
      · show fd_mul (fd_mul (fd_gs L g k).2 (L.getD k fd_z)) q = g
        rw [fd_mul_assoc, e, h4]
    · rw [fd_gs_no hd]
      exact ⟨h1, h2, fd_dv_mul_r _ hF h3, h4⟩
theorem fd_gs_z {L : List (Nat → Int)} (hI : ∀ p ∈ L, fd_Irr p) : ∀ k, k ≤ L.length → fd_gs L fd_z k = (fd_z, fd_prod (L.take k)) := by
  intro k
  induction k with
  | zero => intro _; rw [fd_gs, List.take_zero, fd_prod]
  | succ k ih =>
    intro hk
    have h := ih (by omega)
    have h1 : fd_mul (L.getD k fd_z) fd_z = (fd_gs L fd_z k).1 := by rw [h, fd_mul_z]
    rw [fd_gs_yes hI (by omega) fd_F_z h1, h, fd_take_succ (by omega)]
theorem fd_drop_prod {L : List (Nat → Int)} {k : Nat} (hk : k < L.length) : fd_prod (L.drop k) = fd_mul (L.getD k fd_z) (fd_prod (L.drop (k + 1))) := by
  rw [fd_getD_eq hk, List.drop_eq_getElem_cons hk, fd_prod]
theorem fd_gs_self {L : List (Nat → Int)} (hI : ∀ p ∈ L, fd_Irr p) : ∀ k, k ≤ L.length → fd_gs L (fd_prod L) k = (fd_prod (L.drop k), fd_prod (L.take k)) := by
  intro k
  induction k with
  | zero => intro _; rw [fd_gs, List.take_zero, fd_prod, List.drop_zero]
  | succ k ih =>
    intro hk
    have h := ih (by omega)
    have h1 : fd_mul (L.getD k fd_z) (fd_prod (L.drop (k + 1))) = (fd_gs L (fd_prod L) k).1 := by rw [h, ← fd_drop_prod (by omega)]
    rw [fd_gs_yes hI (by omega) (fd_F_prod _ fun p hp => fd_irr_F (hI p (List.mem_of_mem_drop hp))) h1, h, fd_take_succ (by omega)]
/-! the reference's marks -/
def fd_ul : List (Nat → Int) → Nat → List (Nat → Int)
  | [], _ => []
  | p :: L, u => if u % 2 = 0 then p :: fd_ul L (u / 2) else fd_ul L (u / 2)
theorem fd_ul_0 (L : List (Nat → Int)) : fd_ul L 0 = L := by
  induction L with
  | nil => rfl
  | cons p L ih => rw [fd_ul, if_pos rfl, show 0 / 2 = 0 from rfl, ih]
theorem fd_ul_sub {L : List (Nat → Int)} : ∀ (u : Nat) (p : Nat → Int), p ∈ fd_ul L u → p ∈ L := by
  induction L with
  | nil => intro u p h; exact h
  | cons q L ih =>
    intro u p h
    rw [fd_ul] at h
    by_cases hu : u % 2 = 0
    · rw [if_pos hu] at h
      rcases List.mem_cons.mp h with e | e
      · rw [e]; exact List.mem_cons_self ..
      · exact List.mem_cons_of_mem _ (ih _ p e)
    · rw [if_neg hu] at h
      exact List.mem_cons_of_mem _ (ih _ p h)
theorem fd_ul_mem {L : List (Nat → Int)} : ∀ (u : Nat) (p : Nat → Int), p ∈ fd_ul L u → ∃ m, m < L.length ∧ u / 2 ^ m % 2 = 0 ∧ L.getD m fd_z = p := by
  induction L with
  | nil => intro u p h; exact absurd h List.not_mem_nil
  | cons q L ih =>
    intro u p h
    rw [fd_ul] at h
    have rest : p ∈ fd_ul L (u / 2) → ∃ m, m < (q :: L).length ∧ u / 2 ^ m % 2 = 0 ∧ (q :: L).getD m fd_z = p := by
      intro h
      obtain ⟨m, h1, h2, h3⟩ := ih _ p h
      refine ⟨m + 1, by rw [List.length_cons]; omega, ?_, ?_⟩
      · rw [Nat.pow_succ, Nat.mul_comm, ← Nat.div_div_eq_div_mul]; exact h2
      · rw [List.getD_cons_succ]; exact h3
    by_cases hu : u % 2 = 0
    · rw [if_pos hu] at h
      rcases List.mem_cons.mp h with e | e
      · exact ⟨0, by rw [List.length_cons]; omega, by simpa using hu, by rw [List.getD_cons_zero]; exact e.symm⟩
      · exact rest e
    · rw [if_neg hu] at h
      exact rest h
theorem fd_ul_take {L : List (Nat → Int)} : ∀ (u m : Nat), m < L.length → u / 2 ^ m % 2 = 0 → fd_prod (fd_ul L u) = fd_mul (L.getD m fd_z) (fd_prod (fd_ul L (u + 2 ^ m))) := by
  induction L with
  | nil => intro u m h; exact absurd h (Nat.not_lt_zero m)
  | cons q L ih =>
    intro u m hm h
    cases m with
    | zero =>
      have hu : u % 2 = 0 := by simpa using h
      have h1 : ¬ (u + 2 ^ 0) % 2 = 0 := by rw [Nat.pow_zero]; omega
      have h2 : (u + 2 ^ 0) / 2 = u / 2 := by rw [Nat.pow_zero]; omega
      rw [fd_ul, fd_ul, if_pos hu, if_neg h1, h2, fd_prod, List.getD_cons_zero]
    | succ m =>
      rw [List.length_cons] at hm
      have h' : u / 2 / 2 ^ m % 2 = 0 := by
        rw [Nat.div_div_eq_div_mul, Nat.mul_comm, ← Nat.pow_succ]; exact h
      have h1 : (u + 2 ^ (m + 1)) % 2 = u % 2 := by rw [Nat.pow_succ]; omega
      have h2 : (u + 2 ^ (m + 1)) / 2 = u / 2 + 2 ^ m := by rw [Nat.pow_succ]; omega
      have h3 := ih (u / 2) m (by omega) h'
      rw [fd_ul, fd_ul, h1, h2, List.getD_cons_succ]
      by_cases hu : u % 2 = 0
      · rw [if_pos hu, if_pos hu, fd_prod, fd_prod, h3, fd_mul_left]
      · rw [if_neg hu, if_neg hu, h3]
theorem fd_mask {u m : Nat} (hu : u < 32) (hm : m < 5) : (((nI u >>> (nI m &&& 31)) &&& 1) = 0 ↔ u / 2 ^ m % 2 = 0) ∧ (u / 2 ^ m % 2 = 0 → nI u ||| ((1 : Int32) <<< (nI m &&& 31)) = nI (u + 2 ^ m)) := by
  have hk : ∀ (u : Fin 32) (m : Fin 5), (((nI u.val >>> (nI m.val &&& 31)) &&& 1) = 0 ↔ u.val / 2 ^ m.val % 2 = 0) ∧ (u.val / 2 ^ m.val % 2 = 0 → nI u.val ||| ((1 : Int32) <<< (nI m.val &&& 31)) = nI (u.val + 2 ^ m.val)) := by decide +kernel
  exact hk ⟨u, hu⟩ ⟨m, hm⟩
theorem fd_mask_lt {u m n : Nat} (hu : u < 2 ^ n) (hm : m < n) (h : u / 2 ^ m % 2 = 0) : u + 2 ^ m < 2 ^ n := by
  have e : n = m + 1 + (n - m - 1) := by omega
  have e1 : 2 ^ n = 2 ^ m * (2 * 2 ^ (n - m - 1)) := by
    rw [← Nat.mul_assoc, ← Nat.pow_succ, ← Nat.pow_add]; exact congrArg _ e
  have h1 : u / 2 ^ m < 2 * 2 ^ (n - m - 1) := by
    rw [Nat.div_lt_iff_lt_mul (Nat.pow_pos (by decide)), Nat.mul_comm, ← e1]; exact hu
  have h2 : u / 2 ^ m + 1 < 2 * 2 ^ (n - m - 1) := by omega
  have h3 : u < 2 ^ m * (u / 2 ^ m + 1) := by
    have := Nat.lt_mul_div_succ u (Nat.pow_pos (a := 2) (n := m) (by decide))
    exact this
  have h4 : 2 ^ m * (u / 2 ^ m + 1 + 1) ≤ 2 ^ m * (2 * 2 ^ (n - m - 1)) := Nat.mul_le_mul_left _ h2
  rw [e1]
  rw [Nat.mul_add, Nat.mul_one] at h4
  omega
