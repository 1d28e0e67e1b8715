/-! degree 2 -/
theorem fd_q_lead {t m l : Int} {f : Nat → Int} {d : Nat} (ht : t ≠ 0) (hd : fd_D f d) (h : fd_dv (fd_q t m l) f) : t ∣ f d := by
  obtain ⟨q, hq, e⟩ := h
  obtain ⟨a, b, ha, hb, hab⟩ := fd_D_split (fd_q_F t m l) hq e hd
  have h2 := fd_D_u ha (fd_q_D2 m l ht)
  subst h2
  have h3 := (fd_top 2 b (fd_q t m l) q ha.2 hb.2).1
  rw [e, hab] at h3
  rw [h3, fd_q_2]; exact ⟨_, rfl⟩
theorem fd_l_lead {a c : Int} {f : Nat → Int} {d : Nat} (ht : a ≠ 0) (hd : fd_D f d) (h : fd_dv (fd_q 0 a c) f) : a ∣ f d ∧ 1 ≤ d := by
  obtain ⟨q, hq, e⟩ := h
  obtain ⟨a', b, ha, hb, hab⟩ := fd_D_split (fd_q_F 0 a c) hq e hd
  have h2 := fd_D_u ha (fd_q_D1 c ht)
  subst h2
  have h3 := (fd_top 1 b (fd_q 0 a c) q ha.2 hb.2).1
  rw [e, hab] at h3
  rw [h3, fd_q_1]; exact ⟨⟨_, rfl⟩, by omega⟩
theorem fd_q_low {t m l : Int} {f : Nat → Int} (h : fd_dv (fd_q t m l) f) : l ∣ f 0 := by
  obtain ⟨q, hq, e⟩ := h
  rw [← e, fd_q_mul0]; exact ⟨_, rfl⟩
theorem fd_q_deg {t m l : Int} {f : Nat → Int} {d : Nat} (ht : t ≠ 0) (hd : fd_D f d) (h : fd_dv (fd_q t m l) f) : 2 ≤ d := by
  obtain ⟨q, hq, e⟩ := h
  obtain ⟨a, b, ha, hb, hab⟩ := fd_D_split (fd_q_F t m l) hq e hd
  have h2 := fd_D_u ha (fd_q_D2 m l ht)
  omega
/-- scanned up to t x^2 + m x + l, in the order t, m, l -/
def fd_P2 (F f : Nat → Int) (L1 L2 : List (Nat → Int)) (t m l : Int) : Prop := fd_St F f (L1 ++ L2) ∧ fd_LF f ∧ (∀ p ∈ L2, fd_D p 2) ∧ List.Pairwise fd_le L2 ∧ (∀ u, fd_D u 2 → 0 < u 2 → fd_dv u f → ∀ p ∈ L2, fd_le p u) ∧ ∀ d, fd_D f d → 4 ≤ d → ∀ t' m' l' : Int, 1 ≤ t' → -98 ≤ m' → m' ≤ 98 → -20 ≤ l' → l' ≤ 20 → (t' < t ∨ t' = t ∧ (m' < m ∨ m' = m ∧ l' < l)) → ¬ fd_dv (fd_q t' m' l') f
theorem fd_quad_irr {F f f' : Nat → Int} {L : List (Nat → Int)} {t m l : Int} (hp : fd_pr F) (h1 : fd_St F f L) (hl : fd_LF f) (ht : 1 ≤ t) (hf' : fd_F f') (e : fd_mul (fd_q t m l) f' = f) : fd_Irr (fd_q t m l) := by
  have hdv : fd_dv (fd_q t m l) f := ⟨f', hf', e⟩
  exact fd_irr2 (fd_q_D2 m l (by omega)) (by rw [fd_q_2]; omega) (fd_pr_dv hdv (fd_St_pr hp h1)) (fd_LF_dv hl hdv)
theorem fd_P2_take {F f f' : Nat → Int} {L1 L2 : List (Nat → Int)} {t m l : Int} (hF : fd_H F) (hp : fd_pr F) (h : fd_P2 F f L1 L2 t m l) (ht : 1 ≤ t) (hf' : fd_F f') (e : fd_mul (fd_q t m l) f' = f) : fd_P2 F f' L1 (L2 ++ [fd_q t m l]) t m l := by
  obtain ⟨h1, h2, h3, h4, h5, h6⟩ := h
  have hdv : fd_dv (fd_q t m l) f := ⟨f', hf', e⟩
  have hD : fd_D (fd_q t m l) 2 := fd_q_D2 m l (by omega)
  have hu := fd_quad_irr hp h1 h2 ht hf' e
  have hff : fd_dv f' f := ⟨fd_q t m l, fd_q_F _ _ _, by rw [fd_mul_comm]; exact e⟩
  have hst := fd_St_take h1 hu hf' e
  rw [List.append_assoc] at hst
  obtain ⟨_, _, d, hDf, _⟩ := id h1
  obtain ⟨_, _, d', hDf', _⟩ := id hst
  have hdd : d = 2 + d' := by
    have := fd_D_mul hD hDf'
    rw [e] at this
    exact fd_D_u hDf this
  have hd5 : d ≤ 5 := fd_D_le hDf (fd_St_L5 hF.2.1 h1)
  refine ⟨hst, fd_LF_dv h2 hff, fun p hpm => ?_, ?_, fun u hu2 hpos hud p hpm => ?_, fun e' he' hge => ?_⟩
  · rcases List.mem_append.mp hpm with h | h
    · exact h3 p h
    · rw [List.mem_singleton.mp h]; exact hD
  · refine List.pairwise_append.mpr ⟨h4, List.pairwise_singleton _ _, fun p hpm q hq => ?_⟩
    rw [List.mem_singleton.mp hq]
    exact h5 _ hD (by rw [fd_q_2]; omega) hdv p hpm
  · have hudf := fd_dv_trans hud hff
    rcases List.mem_append.mp hpm with h | h
    · exact h5 u hu2 hpos hudf p h
    · rw [List.mem_singleton.mp h]
      obtain ⟨r, hr, er⟩ := fd_dv_trans hudf (fd_St_dv h1)
      obtain ⟨b2, b1, b0⟩ := fd_b2 hF hu2 hr er
      have hd4 : 4 ≤ d := by
        obtain ⟨r', hr', er'⟩ := hud
        obtain ⟨a, b, ha, hb, hab⟩ := fd_D_split (fd_D_F hu2) hr' er' hDf'
        have := fd_D_u ha hu2
        omega
      have hq := fd_is_q hu2.2
      have hn := h6 d hDf hd4 (u 2) (u 1) (u 0) (by omega) (by omega) (by omega) (by omega) (by omega)
      have hnn : ¬ (u 2 < t ∨ u 2 = t ∧ (u 1 < m ∨ u 1 = m ∧ u 0 < l)) := fun z => hn z (by rw [← hq]; exact hudf)
      have hz : ∀ j, 2 < j → fd_q t m l j = u j := fun j hj => by rw [hD.2 j hj, hu2.2 j hj]
      by_cases c2 : t < u 2
      · exact Or.inr ⟨2, by rw [fd_q_2]; exact c2, hz⟩
      · have e2 : t = u 2 := by omega
        have hz1 : ∀ j, 1 < j → fd_q t m l j = u j := fun j hj => by
          by_cases hj2 : j = 2
          · rw [hj2, fd_q_2]; exact e2
          · exact hz j (by omega)
        by_cases c1 : m < u 1
        · exact Or.inr ⟨1, by rw [fd_q_1]; exact c1, hz1⟩
        · have e1 : m = u 1 := by omega
          have hz0 : ∀ j, 0 < j → fd_q t m l j = u j := fun j hj => by
            by_cases hj1 : j = 1
            · rw [hj1, fd_q_1]; exact e1
            · exact hz1 j (by omega)
          by_cases c0 : l < u 0
          · exact Or.inr ⟨0, by rw [fd_q_0]; exact c0, hz0⟩
          · have e0 : l = u 0 := by omega
            left; rw [hq, ← e2, ← e1, ← e0]
  · have := fd_D_u he' hDf'
    omega
theorem fd_P2_next {F f : Nat → Int} {L1 L2 : List (Nat → Int)} {t m l : Int} (h : fd_P2 F f L1 L2 t m l) (hn : ¬ fd_dv (fd_q t m l) f) : fd_P2 F f L1 L2 t m (l + 1) := by
  obtain ⟨h1, h2, h3, h4, h5, h6⟩ := h
  refine ⟨h1, h2, h3, h4, h5, fun d hd hd4 t' m' l' k1 k2 k3 k4 k5 k6 => ?_⟩
  by_cases hc : t' = t ∧ m' = m ∧ l' = l
  · rw [hc.1, hc.2.1, hc.2.2]; exact hn
  · exact h6 d hd hd4 t' m' l' k1 k2 k3 k4 k5 (by omega)
theorem fd_P2_row {F f : Nat → Int} {L1 L2 : List (Nat → Int)} {t m : Int} (h : fd_P2 F f L1 L2 t m 21) : fd_P2 F f L1 L2 t (m + 1) (-20) := by
  obtain ⟨h1, h2, h3, h4, h5, h6⟩ := h
  exact ⟨h1, h2, h3, h4, h5, fun d hd hd4 t' m' l' k1 k2 k3 k4 k5 k6 => h6 d hd hd4 t' m' l' k1 k2 k3 k4 k5 (by omega)⟩
theorem fd_P2_top {F f : Nat → Int} {L1 L2 : List (Nat → Int)} {t : Int} (h : fd_P2 F f L1 L2 t 99 (-20)) : fd_P2 F f L1 L2 (t + 1) (-98) (-20) := by
  obtain ⟨h1, h2, h3, h4, h5, h6⟩ := h
  exact ⟨h1, h2, h3, h4, h5, fun d hd hd4 t' m' l' k1 k2 k3 k4 k5 k6 => h6 d hd hd4 t' m' l' k1 k2 k3 k4 k5 (by omega)⟩
theorem fd_P2_low {F f : Nat → Int} {L1 L2 : List (Nat → Int)} {t : Int} {d : Nat} (hd : fd_D f d) (h3 : d ≤ 3) (t' m' l' : Int) (h : fd_P2 F f L1 L2 t (-98) (-20)) : fd_P2 F f L1 L2 t' m' l' := by
  obtain ⟨h1, h2, h3', h4, h5, h6⟩ := h
  exact ⟨h1, h2, h3', h4, h5, fun d' hd' hd4 => by have := fd_D_u hd hd'; omega⟩
theorem fd_P2_skip {F f : Nat → Int} {L1 L2 : List (Nat → Int)} {t : Int} {d : Nat} (hd : fd_D f d) (ht : 1 ≤ t) (hn : ¬ t ∣ f d) (h : fd_P2 F f L1 L2 t (-98) (-20)) : fd_P2 F f L1 L2 (t + 1) (-98) (-20) := by
  obtain ⟨h1, h2, h3, h4, h5, h6⟩ := h
  refine ⟨h1, h2, h3, h4, h5, fun d' hd' hd4 t' m' l' k1 k2 k3 k4 k5 k6 => ?_⟩
  by_cases hc : t' = t
  · intro hdv
    rw [hc] at hdv
    exact hn (fd_q_lead (by omega) hd hdv)
  · exact h6 d' hd' hd4 t' m' l' k1 k2 k3 k4 k5 (by omega)
theorem fd_P2_0 {F f : Nat → Int} {L1 : List (Nat → Int)} (h : fd_St F f L1) (hl : fd_LF f) : fd_P2 F f L1 [] 1 (-98) (-20) :=
  ⟨by rw [List.append_nil]; exact h, hl, fun p hp => absurd hp (List.not_mem_nil), List.Pairwise.nil, fun _ _ _ _ p hp => absurd hp (List.not_mem_nil), fun d hd hd4 t' m' l' k1 k2 k3 k4 k5 k6 => by omega⟩
theorem fd_P2_end {F f : Nat → Int} {L1 L2 : List (Nat → Int)} {d : Nat} (hF : fd_H F) (h : fd_P2 F f L1 L2 21 (-98) (-20)) (hd : fd_D f d) (hd4 : 4 ≤ d) : fd_QF f := by
  obtain ⟨h1, h2, h3, h4, h5, h6⟩ := h
  have key : ∀ u, fd_D u 2 → 0 < u 2 → ¬ fd_dv u f := by
    intro u hu hpos hdv
    obtain ⟨r, hr, er⟩ := fd_dv_trans hdv (fd_St_dv h1)
    obtain ⟨b2, b1, b0⟩ := fd_b2 hF hu hr er
    rw [fd_is_q hu.2] at hdv
    exact h6 d hd hd4 (u 2) (u 1) (u 0) (by omega) (by omega) (by omega) (by omega) (by omega) (by omega) hdv
  intro u hu hdv
  by_cases hpos : 0 < u 2
  · exact key u hu hpos hdv
  · refine key (fd_sm (-1) u) (fd_D_sm (by decide) hu) ?_ (fd_dv_neg hdv)
    have := hu.1
    simp only [fd_sm]
    omega
/-- scanned up to t x^2 + m x + l, in the order t, l, m -/
def fd_P3 (F f : Nat → Int) (L1 L2 : List (Nat → Int)) (t l m : Int) : Prop := fd_St F f (L1 ++ L2) ∧ fd_LF f ∧ (∀ p ∈ L2, fd_D p 2) ∧ ∀ d, fd_D f d → 4 ≤ d → ∀ t' m' l' : Int, 1 ≤ t' → -100 ≤ m' → m' ≤ 100 → -20 ≤ l' → l' ≤ 20 → (t' < t ∨ t' = t ∧ (l' < l ∨ l' = l ∧ m' < m)) → ¬ fd_dv (fd_q t' m' l') f
theorem fd_P3_take {F f f' : Nat → Int} {L1 L2 : List (Nat → Int)} {t m l : Int} (hp : fd_pr F) (h : fd_P3 F f L1 L2 t l m) (ht : 1 ≤ t) (hf' : fd_F f') (e : fd_mul (fd_q t m l) f' = f) : fd_P3 F f' L1 (L2 ++ [fd_q t m l]) t l m := by
  obtain ⟨h1, h2, h3, h6⟩ := h
  have hD : fd_D (fd_q t m l) 2 := fd_q_D2 m l (by omega)
  have hu := fd_quad_irr hp h1 h2 ht hf' e
  have hff : fd_dv f' f := ⟨fd_q t m l, fd_q_F _ _ _, by rw [fd_mul_comm]; exact e⟩
  have hst := fd_St_take h1 hu hf' e
  rw [List.append_assoc] at hst
  obtain ⟨_, _, d, hDf, _⟩ := id h1
  obtain ⟨_, _, d', hDf', _⟩ := id hst
  have hdd : d = 2 + d' := by
    have := fd_D_mul hD hDf'
    rw [e] at this
    exact fd_D_u hDf this
  refine ⟨hst, fd_LF_dv h2 hff, fun p hpm => ?_, fun e' he' hge t' m' l' k1 k2 k3 k4 k5 k6 hdv => ?_⟩
  · rcases List.mem_append.mp hpm with h | h
    · exact h3 p h
    · rw [List.mem_singleton.mp h]; exact hD
  · have := fd_D_u he' hDf'
    exact h6 d hDf (by omega) t' m' l' k1 k2 k3 k4 k5 k6 (fd_dv_trans hdv hff)
theorem fd_P3_next {F f : Nat → Int} {L1 L2 : List (Nat → Int)} {t m l : Int} (h : fd_P3 F f L1 L2 t l m) (hn : ¬ fd_dv (fd_q t m l) f) : fd_P3 F f L1 L2 t l (m + 1) := by
  obtain ⟨h1, h2, h3, h6⟩ := h
  refine ⟨h1, h2, h3, fun d hd hd4 t' m' l' k1 k2 k3 k4 k5 k6 => ?_⟩
  by_cases hc : t' = t ∧ m' = m ∧ l' = l
  · rw [hc.1, hc.2.1, hc.2.2]; exact hn
  · exact h6 d hd hd4 t' m' l' k1 k2 k3 k4 k5 (by omega)
theorem fd_P3_row {F f : Nat → Int} {L1 L2 : List (Nat → Int)} {t l : Int} (h : fd_P3 F f L1 L2 t l 101) : fd_P3 F f L1 L2 t (l + 1) (-100) := by
  obtain ⟨h1, h2, h3, h6⟩ := h
  exact ⟨h1, h2, h3, fun d hd hd4 t' m' l' k1 k2 k3 k4 k5 k6 => h6 d hd hd4 t' m' l' k1 k2 k3 k4 k5 (by omega)⟩
theorem fd_P3_top {F f : Nat → Int} {L1 L2 : List (Nat → Int)} {t : Int} (h : fd_P3 F f L1 L2 t 21 (-100)) : fd_P3 F f L1 L2 (t + 1) (-20) (-100) := by
  obtain ⟨h1, h2, h3, h6⟩ := h
  exact ⟨h1, h2, h3, fun d hd hd4 t' m' l' k1 k2 k3 k4 k5 k6 => h6 d hd hd4 t' m' l' k1 k2 k3 k4 k5 (by omega)⟩
/-- a whole row t, l skipped: no divisor there -/
theorem fd_P3_skip {F f : Nat → Int} {L1 L2 : List (Nat → Int)} {t l : Int} (hn : ∀ d, fd_D f d → 4 ≤ d → ∀ m', ¬ fd_dv (fd_q t m' l) f) (h : fd_P3 F f L1 L2 t l (-100)) : fd_P3 F f L1 L2 t (l + 1) (-100) := by
  obtain ⟨h1, h2, h3, h6⟩ := h
  refine ⟨h1, h2, h3, fun d hd hd4 t' m' l' k1 k2 k3 k4 k5 k6 => ?_⟩
  by_cases hc : t' = t ∧ l' = l
  · rw [hc.1, hc.2]; exact hn d hd hd4 m'
  · exact h6 d hd hd4 t' m' l' k1 k2 k3 k4 k5 (by omega)
theorem fd_P3_0 {F f : Nat → Int} {L1 : List (Nat → Int)} (h : fd_St F f L1) (hl : fd_LF f) : fd_P3 F f L1 [] 1 (-20) (-100) :=
  ⟨by rw [List.append_nil]; exact h, hl, fun p hp => absurd hp (List.not_mem_nil), fun d hd hd4 t' m' l' k1 k2 k3 k4 k5 k6 => by omega⟩
theorem fd_P3_end {F f : Nat → Int} {L1 L2 : List (Nat → Int)} {d : Nat} (hF : fd_H F) (h : fd_P3 F f L1 L2 21 (-20) (-100)) (hd : fd_D f d) (hd4 : 4 ≤ d) : fd_QF f := by
  obtain ⟨h1, h2, h3, h6⟩ := h
  have key : ∀ u, fd_D u 2 → 0 < u 2 → ¬ fd_dv u f := by
    intro u hu hpos hdv
    obtain ⟨r, hr, er⟩ := fd_dv_trans hdv (fd_St_dv h1)
    obtain ⟨b2, b1, b0⟩ := fd_b2 hF hu hr er
    rw [fd_is_q hu.2] at hdv
    exact h6 d hd hd4 (u 2) (u 1) (u 0) (by omega) (by omega) (by omega) (by omega) (by omega) (by omega) hdv
  intro u hu hdv
  by_cases hpos : 0 < u 2
  · exact key u hu hpos hdv
  · refine key (fd_sm (-1) u) (fd_D_sm (by decide) hu) ?_ (fd_dv_neg hdv)
    have := hu.1
    simp only [fd_sm]
    omega
/-! what is left over at the end -/
theorem fd_fin0 {F f : Nat → Int} {L : List (Nat → Int)} (hp : fd_pr F) (h : fd_St F f L) (hd : fd_D f 0) : fd_prod L = F := by
  obtain ⟨h1, h2, d, hD, hpos⟩ := id h
  have e := fd_D_u hd hD
  subst e
  have hc := fd_L0_c hD.2
  have h3 : (f 0).natAbs = 1 := by
    apply fd_St_pr hp h
    intro i
    rw [Int.natAbs_dvd, hc]
    by_cases hi : i = 0
    · subst hi; exact ⟨1, by simp [fd_c]⟩
    · exact ⟨0, by simp [fd_c, hi]⟩
  have h4 : f 0 = 1 := by omega
  rw [h4] at hc
  rw [hc, fd_mul_1] at h1
  exact h1
theorem fd_fin1 {F f : Nat → Int} {L : List (Nat → Int)} {d : Nat} (hF : fd_H F) (hp : fd_pr F) (h : fd_St F f L) (hl : fd_LF f) (hd : fd_D f d) (hd1 : 1 ≤ d) (hq : 4 ≤ d → fd_QF f) : fd_Irr f ∧ 2 ≤ d ∧ fd_prod (L ++ [f]) = F := by
  have h2 : 2 ≤ d := by
    by_cases e : d = 1
    · exact absurd (fd_dv_refl f) (hl f (by rw [← e]; exact hd))
    · omega
  obtain ⟨_, _, d', hD, hpos⟩ := id h
  have e := fd_D_u hd hD
  subst e
  have h5 := fd_D_le hd (fd_St_L5 hF.2.1 h)
  exact ⟨fd_irr_left hd h2 h5 hpos (fd_St_pr hp h) hl hq, h2, by rw [fd_prod_snoc]; exact h.1⟩
theorem fd_irr_pos {p : Nat → Int} {d : Nat} (h : fd_Irr p) (hd : fd_D p d) : 0 < p d := by
  obtain ⟨_, ⟨e, _, he, hpos⟩, _⟩ := h
  rw [fd_D_u hd he]; exact hpos
theorem fd_sort12 {L1 L2 : List (Nat → Int)} (s1 : List.Pairwise fd_le L1) (s2 : List.Pairwise fd_le L2) (h1 : ∀ p ∈ L1, fd_D p 1) (h2 : ∀ p ∈ L2, fd_D p 2) (hI : ∀ p ∈ L2, fd_Irr p) : List.Pairwise fd_le (L1 ++ L2) :=
  List.pairwise_append.mpr ⟨s1, s2, fun p hp q hq => Or.inr (fd_lt_deg (h1 p hp).2 (h2 q hq) (fd_irr_pos (hI q hq) (h2 q hq)) (by decide))⟩
theorem fd_sort3 {L : List (Nat → Int)} {f : Nat → Int} (s : List.Pairwise fd_le L) (h : ∀ p ∈ L, fd_le p f) : List.Pairwise fd_le (L ++ [f]) :=
  List.pairwise_append.mpr ⟨s, List.pairwise_singleton _ _, fun p hp q hq => by rw [List.mem_singleton.mp hq]; exact h p hp⟩
/-- the end in X: what stands in the list, with what is left, is sorted -/
theorem fd_P2_le {F f : Nat → Int} {L1 L2 : List (Nat → Int)} {t m l : Int} {d : Nat} (h : fd_P2 F f L1 L2 t m l) (h1 : ∀ p ∈ L1, fd_D p 1) (hd : fd_D f d) (hd2 : 2 ≤ d) : ∀ p ∈ L1 ++ L2, fd_le p f := by
  obtain ⟨k1, k2, k3, k4, k5, k6⟩ := h
  obtain ⟨_, _, d', hD, hpos⟩ := id k1
  have e := fd_D_u hd hD
  subst e
  intro p hp
  rcases List.mem_append.mp hp with h | h
  · exact Or.inr (fd_lt_deg (h1 p h).2 hd hpos (by omega))
  · by_cases e2 : d = 2
    · subst e2
      exact k5 f hd hpos (fd_dv_refl f) p h
    · exact Or.inr (fd_lt_deg (k3 p h).2 hd hpos (by omega))
