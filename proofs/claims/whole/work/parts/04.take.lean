/-! a bound for all divisors -/
theorem fd_n3 {h x y v l : Int} {Y : Nat} (hh : h ≠ 0) (hv : -20 ≤ v ∧ v ≤ 20) (hl : -20 ≤ l ∧ l ≤ 20) (hy : y.natAbs ≤ Y) (e : l * y + h * x = v) : x.natAbs ≤ 20 + 20 * Y := by
  have h1 : (l * y).natAbs ≤ 20 * Y := by rw [Int.natAbs_mul]; exact Nat.mul_le_mul (by omega) hy
  have h2 : (h * x).natAbs ≤ 20 + 20 * Y := by omega
  rw [Int.natAbs_mul] at h2
  have h3 : 1 ≤ h.natAbs := by omega
  have h4 : 1 * x.natAbs ≤ h.natAbs * x.natAbs := Nat.mul_le_mul_right _ h3
  omega
theorem fd_n4 {h x y z v l m : Int} {Y Z : Nat} (hh : h ≠ 0) (hv : -20 ≤ v ∧ v ≤ 20) (hl : -20 ≤ l ∧ l ≤ 20) (hm : -60 ≤ m ∧ m ≤ 60) (hy : y.natAbs ≤ Y) (hz : z.natAbs ≤ Z) (e : l * z + m * y + h * x = v) : x.natAbs ≤ 20 + 60 * Y + 20 * Z := by
  have h1 : (l * z).natAbs ≤ 20 * Z := by rw [Int.natAbs_mul]; exact Nat.mul_le_mul (by omega) hz
  have h1' : (m * y).natAbs ≤ 60 * Y := by rw [Int.natAbs_mul]; exact Nat.mul_le_mul (by omega) hy
  have h2 : (h * x).natAbs ≤ 20 + 60 * Y + 20 * Z := by omega
  rw [Int.natAbs_mul] at h2
  have h3 : 1 ≤ h.natAbs := by omega
  have h4 : 1 * x.natAbs ≤ h.natAbs * x.natAbs := Nat.mul_le_mul_right _ h3
  omega
theorem fd_bB_lin {F g : Nat → Int} {a c : Int} (hF : fd_H F) (ha : a ≠ 0) (hg : fd_L g 4) (e : fd_mul (fd_q 0 a c) g = F) (hc : -20 ≤ c ∧ c ≤ 20) (i : Nat) : (g i).natAbs ≤ 170000 := by
  have r : ∀ k, c * g (k + 1) + a * g k = F (k + 1) := by
    intro k
    cases k with
    | zero => rw [← e, fd_q_mul1]
    | succ k => rw [← e, fd_q_mul2]; simp
  have g5 : g 5 = 0 := hg 5 (by omega)
  have h4 := fd_n3 (Y := 0) ha (hF.1 5) hc (by rw [g5]; simp) (r 4)
  have h3 := fd_n3 (Y := 20) ha (hF.1 4) hc (by omega) (r 3)
  have h2 := fd_n3 (Y := 420) ha (hF.1 3) hc (by omega) (r 2)
  have h1 := fd_n3 (Y := 8420) ha (hF.1 2) hc (by omega) (r 1)
  have h0 : (g 0).natAbs ≤ 20 := by
    by_cases hc0 : c = 0
    · have := fd_n3 (y := 0) (Y := 0) ha (hF.1 1) hc (by simp) (by have := r 0; rw [hc0] at this ⊢; simpa using this)
      omega
    · have h5 : fd_mul (fd_q 0 a c) g 0 = F 0 := by rw [e]
      rw [fd_q_mul0] at h5
      have := fd_n1 (x := g 0) (y := c) (by rw [Int.mul_comm]; exact h5) hc0 (hF.1 0)
      omega
  match i with
  | 0 => omega
  | 1 => omega
  | 2 => omega
  | 3 => omega
  | 4 => omega
  | (n + 5) => rw [hg (n + 5) (by omega)]; simp
theorem fd_bB_quad {F g : Nat → Int} {t m l : Int} (hF : fd_H F) (ht0 : t ≠ 0) (hg : fd_L g 3) (hgF : fd_F g) (e : fd_mul (fd_q t m l) g = F) (hl : -20 ≤ l ∧ l ≤ 20) (hm : -60 ≤ m ∧ m ≤ 60) (i : Nat) : (g i).natAbs ≤ 170000 := by
  have r : ∀ k, l * g (k + 2) + m * g (k + 1) + t * g k = F (k + 2) := by
    intro k; rw [← e, fd_q_mul2]
  have g5 : g 5 = 0 := hg 5 (by omega)
  have g4 : g 4 = 0 := hg 4 (by omega)
  have hi : (g 0).natAbs ≤ 170000 ∧ (g 1).natAbs ≤ 170000 ∧ (g 2).natAbs ≤ 170000 ∧ (g 3).natAbs ≤ 170000 := by
    by_cases hl0 : l = 0
    · have hm' : -20 ≤ m ∧ m ≤ 20 := by
        have hz0 : ∀ j, j < 1 → fd_q t m l j = 0 := by
          intro j hj
          have hj0 : j = 0 := by omega
          rw [hj0, fd_q_0]; exact hl0
        exact fd_b_low (a := 1) hF hz0 e
      have r' : ∀ k, m * g (k + 1) + t * g k = F (k + 2) := by
        intro k; have := r k; rw [hl0] at this; simpa using this
      have h3 := fd_n3 (Y := 0) ht0 (hF.1 5) hm' (by rw [g4]; simp) (r' 3)
      have h2 := fd_n3 (Y := 20) ht0 (hF.1 4) hm' (by omega) (r' 2)
      have h1 := fd_n3 (Y := 420) ht0 (hF.1 3) hm' (by omega) (r' 1)
      have h0 := fd_n3 (Y := 8420) ht0 (hF.1 2) hm' (by omega) (r' 0)
      omega
    · have h3 := fd_n4 (Y := 0) (Z := 0) ht0 (hF.1 5) hl hm (by rw [g4]; simp) (by rw [g5]; simp) (r 3)
      have h2 := fd_n4 (Y := 20) (Z := 0) ht0 (hF.1 4) hl hm (by omega) (by rw [g4]; simp) (r 2)
      have h1 := fd_n4 (Y := 1220) (Z := 20) ht0 (hF.1 3) hl hm (by omega) (by omega) (r 1)
      have h5 : fd_mul (fd_q t m l) g 0 = F 0 := by rw [e]
      rw [fd_q_mul0] at h5
      have := fd_n1 (x := g 0) (y := l) (by rw [Int.mul_comm]; exact h5) hl0 (hF.1 0)
      omega
  match i with
  | 0 => omega
  | 1 => omega
  | 2 => omega
  | 3 => omega
  | (n + 4) => rw [hg (n + 4) (by omega)]; simp
theorem fd_bB {F g h : Nat → Int} (hF : fd_H F) (hg : fd_F g) (hh : fd_F h) (e : fd_mul g h = F) (i : Nat) : (g i).natAbs ≤ 170000 := by
  have hz : g ≠ fd_z := fun z => hF.2.2 (by rw [← e, z, fd_z_mul])
  have hz' : h ≠ fd_z := fun z => hF.2.2 (by rw [← e, z, fd_mul_z])
  obtain ⟨a, ha⟩ := fd_D_ex hg hz
  obtain ⟨b, hb⟩ := fd_D_ex hh hz'
  have hab : a + b ≤ 5 := by
    have := fd_D_mul ha hb
    rw [e] at this
    exact fd_D_le this hF.2.1
  have e' : fd_mul h g = F := by rw [fd_mul_comm]; exact e
  match b, hb, hab with
  | 0, hb, hab =>
    rw [fd_L0_c hb.2, fd_mul_c] at e
    have h1 : h 0 * g i = F i := congrFun e i
    have := fd_n1 (x := g i) (y := h 0) (by rw [Int.mul_comm]; exact h1) hb.1 (hF.1 i)
    omega
  | 1, hb, hab =>
    obtain ⟨_, h0⟩ := fd_b1 hF hb hg e'
    rw [fd_is_l hb.2] at e'
    exact fd_bB_lin hF hb.1 (fd_L_mono ha.2 (by omega)) e' h0 i
  | 2, hb, hab =>
    obtain ⟨_, h1, h0⟩ := fd_b2 hF hb hg e'
    rw [fd_is_q hb.2] at e'
    exact fd_bB_quad hF hb.1 (fd_L_mono ha.2 (by omega)) hg e' h0 h1 i
  | (k + 3), hb, hab =>
    match a, ha, hab with
    | 0, ha, _ =>
      have h0 := fd_b_lead hF ha hh e
      by_cases hi : i = 0
      · subst hi; omega
      · rw [ha.2 i (by omega)]; simp
    | 1, ha, _ =>
      obtain ⟨h1, h0⟩ := fd_b1 hF ha hh e
      match i with
      | 0 => omega
      | 1 => omega
      | (n + 2) => rw [ha.2 (n + 2) (by omega)]; simp
    | 2, ha, _ =>
      obtain ⟨h2, h1, h0⟩ := fd_b2 hF ha hh e
      match i with
      | 0 => omega
      | 1 => omega
      | 2 => omega
      | (n + 3) => rw [ha.2 (n + 3) (by omega)]; simp
    | (a + 3), _, hab => omega
/-! taking factors out -/
def fd_LF (f : Nat → Int) : Prop := ∀ u, fd_D u 1 → ¬ fd_dv u f
def fd_QF (f : Nat → Int) : Prop := ∀ u, fd_D u 2 → ¬ fd_dv u f
theorem fd_pr_dv {u f : Nat → Int} (h : fd_dv u f) (hp : fd_pr f) : fd_pr u := by
  intro m hm
  obtain ⟨q, _, e⟩ := h
  refine hp m fun i => ?_
  rw [← e, fd_mul_comm]
  exact fd_dvd_mul_le m u i q fun j _ => hm j
theorem fd_irr1 {u : Nat → Int} (hD : fd_D u 1) (hpos : 0 < u 1) (hp : fd_pr u) : fd_Irr u := by
  refine ⟨hp, ⟨1, Nat.le_refl 1, hD, hpos⟩, fun v w hv hw e => ?_⟩
  obtain ⟨a, b, ha, hb, hab⟩ := fd_D_split hv hw e hD
  by_cases h : a = 0
  · left; rw [← h]; exact ha.2
  · right; have : b = 0 := by omega
    rw [← this]; exact hb.2
theorem fd_irr_left {f : Nat → Int} {d : Nat} (hD : fd_D f d) (hd : 2 ≤ d) (hd5 : d ≤ 5) (hpos : 0 < f d) (hp : fd_pr f) (hl : fd_LF f) (hq : 4 ≤ d → fd_QF f) : fd_Irr f := by
  refine ⟨hp, ⟨d, by omega, hD, hpos⟩, fun v w hv hw e => ?_⟩
  obtain ⟨a, b, ha, hb, hab⟩ := fd_D_split hv hw e hD
  have hv' : fd_dv v f := ⟨w, hw, e⟩
  have hw' : fd_dv w f := ⟨v, hv, by rw [fd_mul_comm]; exact e⟩
  by_cases h0 : a = 0
  · left; rw [← h0]; exact ha.2
  by_cases h0' : b = 0
  · right; rw [← h0']; exact hb.2
  by_cases h1 : a = 1
  · exact absurd hv' (hl v (by rw [← h1]; exact ha))
  by_cases h1' : b = 1
  · exact absurd hw' (hl w (by rw [← h1']; exact hb))
  by_cases h2 : a = 2
  · exact absurd hv' (hq (by omega) v (by rw [← h2]; exact ha))
  · have h2' : b = 2 := by omega
    exact absurd hw' (hq (by omega) w (by rw [← h2']; exact hb))
theorem fd_irr2 {u : Nat → Int} (hD : fd_D u 2) (hpos : 0 < u 2) (hp : fd_pr u) (hl : fd_LF u) : fd_Irr u :=
  fd_irr_left hD (by omega) (by omega) hpos hp hl (fun h => absurd h (by decide))
def fd_St (F f : Nat → Int) (L : List (Nat → Int)) : Prop := fd_mul (fd_prod L) f = F ∧ (∀ p ∈ L, fd_Irr p) ∧ ∃ d, fd_D f d ∧ 0 < f d
theorem fd_St_F {F f : Nat → Int} {L : List (Nat → Int)} (h : fd_St F f L) : fd_F f := by
  obtain ⟨_, _, d, hD, _⟩ := h
  exact fd_D_F hD
theorem fd_St_nz {F f : Nat → Int} {L : List (Nat → Int)} (h : fd_St F f L) : f ≠ fd_z := by
  obtain ⟨_, _, d, hD, _⟩ := h
  exact fd_D_nz hD
theorem fd_St_pF {F f : Nat → Int} {L : List (Nat → Int)} (h : fd_St F f L) : fd_F (fd_prod L) :=
  fd_F_prod L fun p hp => fd_irr_F (h.2.1 p hp)
theorem fd_St_dv {F f : Nat → Int} {L : List (Nat → Int)} (h : fd_St F f L) : fd_dv f F :=
  ⟨fd_prod L, fd_St_pF h, by rw [fd_mul_comm]; exact h.1⟩
theorem fd_St_len {F f : Nat → Int} {L : List (Nat → Int)} {d : Nat} (hF : fd_L F 5) (h : fd_St F f L) (hd : fd_D f d) : L.length + d ≤ 5 := by
  obtain ⟨s, h1, _, h3⟩ := fd_prod_D L h.2.1
  have h4 := fd_D_mul h1 hd
  rw [h.1] at h4
  have := fd_D_le h4 hF
  omega
theorem fd_St_L5 {F f : Nat → Int} {L : List (Nat → Int)} (hF : fd_L F 5) (h : fd_St F f L) : fd_L f 5 := by
  obtain ⟨_, _, d, hD, _⟩ := id h
  have := fd_St_len hF h hD
  exact fd_L_mono hD.2 (by omega)
theorem fd_St_pr {F f : Nat → Int} {L : List (Nat → Int)} (hp : fd_pr F) (h : fd_St F f L) : fd_pr f := fd_pr_dv (fd_St_dv h) hp
theorem fd_St_take {F f f' u : Nat → Int} {L : List (Nat → Int)} (h : fd_St F f L) (hu : fd_Irr u) (hf' : fd_F f') (e : fd_mul u f' = f) : fd_St F f' (L ++ [u]) := by
  obtain ⟨h1, h2, d, hD, hpos⟩ := h
  refine ⟨by rw [fd_prod_snoc, fd_mul_assoc, e, h1], fun p hp => ?_, ?_⟩
  · rcases List.mem_append.mp hp with h | h
    · exact h2 p h
    · rw [List.mem_singleton.mp h]; exact hu
  · obtain ⟨a, b, ha, hb, hab⟩ := fd_D_split (fd_irr_F hu) hf' e hD
    refine ⟨b, hb, ?_⟩
    obtain ⟨_, ⟨a', _, ha', hapos⟩, _⟩ := hu
    have haa := fd_D_u ha ha'
    subst haa
    have h3 := (fd_top a b u f' ha.2 hb.2).1
    rw [e, hab] at h3
    rw [h3] at hpos
    exact Int.pos_of_mul_pos_right hpos hapos
/-- degree 1, scanned up to a x + c -/
def fd_P1 (F f : Nat → Int) (L : List (Nat → Int)) (a c : Int) : Prop := fd_St F f L ∧ List.Pairwise fd_le L ∧ (∀ p ∈ L, fd_D p 1 ∧ (p 1 < a ∨ p 1 = a ∧ p 0 ≤ c)) ∧ ∀ a' c' : Int, 1 ≤ a' → -20 ≤ c' → c' ≤ 20 → (a' < a ∨ a' = a ∧ c' < c) → ¬ fd_dv (fd_q 0 a' c') f
theorem fd_P1_take {F f f' : Nat → Int} {L : List (Nat → Int)} {a c : Int} (hp : fd_pr F) (h : fd_P1 F f L a c) (ha : 1 ≤ a) (hf' : fd_F f') (e : fd_mul (fd_q 0 a c) f' = f) : fd_P1 F f' (L ++ [fd_q 0 a c]) a c := by
  obtain ⟨h1, h2, h3, h4⟩ := h
  have hdv : fd_dv (fd_q 0 a c) f := ⟨f', hf', e⟩
  have hD : fd_D (fd_q 0 a c) 1 := fd_q_D1 c (by omega)
  have hu : fd_Irr (fd_q 0 a c) := fd_irr1 hD (by rw [fd_q_1]; omega) (fd_pr_dv hdv (fd_St_pr hp h1))
  refine ⟨fd_St_take h1 hu hf' e, ?_, fun p hpm => ?_, fun a' c' h5 h7 h8 h9 h10 => h4 a' c' h5 h7 h8 h9 ?_⟩
  · refine List.pairwise_append.mpr ⟨h2, List.pairwise_singleton _ _, fun p hpm q hq => ?_⟩
    rw [List.mem_singleton.mp hq]
    obtain ⟨hpD, hpl⟩ := h3 p hpm
    rcases hpl with h5 | ⟨h5, h6⟩
    · exact Or.inr ⟨1, by rw [fd_q_1]; exact h5, fun j hj => by rw [hpD.2 j hj, hD.2 j hj]⟩
    · by_cases h7 : p 0 = c
      · left; rw [fd_is_l hpD.2, h5, h7]
      · right
        refine ⟨0, by rw [fd_q_0]; omega, fun j hj => ?_⟩
        by_cases hj1 : j = 1
        · rw [hj1, fd_q_1]; exact h5
        · rw [hpD.2 j (by omega), hD.2 j (by omega)]
  · rcases List.mem_append.mp hpm with h | h
    · exact h3 p h
    · rw [List.mem_singleton.mp h]
      exact ⟨hD, Or.inr ⟨rfl, Int.le_refl c⟩⟩
  · exact fd_dv_trans h10 ⟨fd_q 0 a c, fd_q_F _ _ _, by rw [fd_mul_comm]; exact e⟩
theorem fd_P1_next {F f : Nat → Int} {L : List (Nat → Int)} {a c : Int} (h : fd_P1 F f L a c) (hn : ¬ fd_dv (fd_q 0 a c) f) : fd_P1 F f L a (c + 1) := by
  obtain ⟨h1, h2, h3, h4⟩ := h
  refine ⟨h1, h2, fun p hp => ⟨(h3 p hp).1, by have := (h3 p hp).2; omega⟩, fun a' c' h5 h7 h8 h9 => ?_⟩
  by_cases h10 : a' = a ∧ c' = c
  · rw [h10.1, h10.2]; exact hn
  · exact h4 a' c' h5 h7 h8 (by omega)
theorem fd_P1_row {F f : Nat → Int} {L : List (Nat → Int)} {a : Int} (h : fd_P1 F f L a 21) : fd_P1 F f L (a + 1) (-20) := by
  obtain ⟨h1, h2, h3, h4⟩ := h
  refine ⟨h1, h2, fun p hp => ⟨(h3 p hp).1, by have := (h3 p hp).2; omega⟩, fun a' c' h5 h7 h8 h9 => h4 a' c' h5 h7 h8 (by omega)⟩
theorem fd_P1_0 {F : Nat → Int} {d : Nat} (hD : fd_D F d) (hpos : 0 < F d) : fd_P1 F F [] 1 (-20) :=
  ⟨⟨by rw [fd_prod, fd_1_mul], fun p hp => absurd hp (List.not_mem_nil), d, hD, hpos⟩, List.Pairwise.nil, fun p hp => absurd hp (List.not_mem_nil), fun a' c' h1 h2 h3 h4 => by omega⟩
theorem fd_dv_neg {u f : Nat → Int} (h : fd_dv u f) : fd_dv (fd_sm (-1) u) f := by
  obtain ⟨q, hq, e⟩ := h
  exact ⟨fd_sm (-1) q, fd_F_sm _ hq, by rw [fd_sm_mul, fd_mul_sm, fd_sm_sm, e]; exact fd_sm_1 f⟩
theorem fd_P1_end {F f : Nat → Int} {L : List (Nat → Int)} (hF : fd_H F) (h : fd_P1 F f L 21 (-20)) : fd_LF f := by
  obtain ⟨h1, h2, h3, h4⟩ := h
  have key : ∀ u, fd_D u 1 → 0 < u 1 → ¬ fd_dv u f := by
    intro u hu hpos hd
    obtain ⟨r, hr, er⟩ := fd_dv_trans hd (fd_St_dv h1)
    obtain ⟨b1, b0⟩ := fd_b1 hF hu hr er
    rw [fd_is_l hu.2] at hd
    exact h4 (u 1) (u 0) (by omega) b0.1 b0.2 (by omega) hd
  intro u hu hd
  by_cases hpos : 0 < u 1
  · exact key u hu hpos hd
  · refine key (fd_sm (-1) u) (fd_D_sm (by decide) hu) ?_ (fd_dv_neg hd)
    have := hu.1
    simp only [fd_sm]
    omega
theorem fd_LF_dv {u f : Nat → Int} (hl : fd_LF f) (h : fd_dv u f) : fd_LF u := fun v hv hd => hl v hv (fd_dv_trans hd h)
