/-! GCD on both sides -/
def fd_GC (f g G : Nat → Int) : Prop := (f = fd_z ∧ g = fd_z ∧ G = fd_z) ∨ (f = fd_z ∧ g ≠ fd_z ∧ ∃ k d, k ≠ 0 ∧ g = fd_sm k G ∧ fd_pr G ∧ fd_D G d ∧ 0 < G d) ∨ (f ≠ fd_z ∧ g = fd_z ∧ ∃ L, fd_Fac f L ∧ G = fd_prod L) ∨ (f ≠ fd_z ∧ g ≠ fd_z ∧ ∃ L, fd_Fac f L ∧ G = (fd_gs L g L.length).2)
theorem fd_GC_u {f g G G' : Nat → Int} (h : fd_GC f g G) (h' : fd_GC f g G') : G = G' := by
  rcases h with ⟨a1, a2, a3⟩ | ⟨a1, a2, k, d, a3, a4, a5, a6, a7⟩ | ⟨a1, a2, L, a3, a4⟩ | ⟨a1, a2, L, a3, a4⟩
  · rcases h' with ⟨b1, b2, b3⟩ | ⟨b1, b2, _⟩ | ⟨b1, b2, _⟩ | ⟨b1, b2, _⟩
    · rw [a3, b3]
    · exact absurd a2 b2
    · exact absurd a1 b1
    · exact absurd a1 b1
  · rcases h' with ⟨b1, b2, b3⟩ | ⟨b1, b2, k', d', b3, b4, b5, b6, b7⟩ | ⟨b1, b2, _⟩ | ⟨b1, b2, _⟩
    · exact absurd b2 a2
    · exact fd_prim_u a5 b5 a3 b3 (by rw [← a4, ← b4]) a6 b6 a7 b7
    · exact absurd a1 b1
    · exact absurd a1 b1
  · rcases h' with ⟨b1, b2, b3⟩ | ⟨b1, b2, _⟩ | ⟨b1, b2, L', b3, b4⟩ | ⟨b1, b2, _⟩
    · exact absurd b1 a1
    · exact absurd b1 a1
    · rw [a4, b4, fd_Fac_u a3 b3]
    · exact absurd a2 b2
  · rcases h' with ⟨b1, b2, b3⟩ | ⟨b1, b2, _⟩ | ⟨b1, b2, _⟩ | ⟨b1, b2, L', b3, b4⟩
    · exact absurd b1 a1
    · exact absurd b1 a1
    · exact absurd b2 a2
    · rw [a4, b4, fd_Fac_u a3 b3]
theorem fd_Fac_dv {f : Nat → Int} {L : List (Nat → Int)} (hz : f ≠ fd_z) (h : fd_Fac f L) : fd_dv (fd_prod L) f := by
  obtain ⟨c, hc, e⟩ := h.2.2.2.2 hz
  rw [e]; exact fd_dv_sm c (fd_dv_refl _)
theorem fd_Fac_pF {f : Nat → Int} {L : List (Nat → Int)} (h : fd_Fac f L) : fd_F (fd_prod L) := fd_F_prod L fun p hp => fd_irr_F (h.1 p hp)
/-- bounds of G as it grows -/
theorem fd_gs_b {f g : Nat → Int} {L : List (Nat → Int)} (h0 : fd_H0 f) (hz : f ≠ fd_z) (hF : fd_Fac f L) (hg : fd_F g) {k : Nat} (hk : k ≤ L.length) : fd_B (fd_gs L g k).2 170000 ∧ fd_L (fd_gs L g k).2 5 := by
  obtain ⟨_, h2, h3, _⟩ := fd_gs_inv hF.1 hg k hk
  exact fd_dv_bL ⟨h0.1, h0.2, hz⟩ h2 (fd_dv_trans h3 (fd_dv_trans (fd_take_dv hF.1 k) (fd_Fac_dv hz hF)))
theorem fd_GC_b {f g G : Nat → Int} (hf : fd_H0 f) (hg : fd_H0 g) (h : fd_GC f g G) : fd_B G 170000 ∧ fd_L G 5 := by
  rcases h with ⟨a1, a2, a3⟩ | ⟨a1, a2, k, d, a3, a4, a5, a6, a7⟩ | ⟨a1, a2, L, a3, a4⟩ | ⟨a1, a2, L, a3, a4⟩
  · rw [a3]; exact ⟨fun i => by simp [fd_z], fun _ _ => rfl⟩
  · exact fd_dv_bL ⟨hg.1, hg.2, a2⟩ (fd_D_F a6) (by rw [a4]; exact fd_dv_sm k (fd_dv_refl G))
  · rw [a4]; exact fd_dv_bL ⟨hf.1, hf.2, a1⟩ (fd_Fac_pF a3) (fd_Fac_dv a1 a3)
  · rw [a4]; exact fd_gs_b hf a1 a3 (fd_L_F hg.2) (Nat.le_refl _)
theorem fd_gcd_bd {f g p w : Nat → Int} {d : Nat} (hf : fd_H0 f) (hfz : f ≠ fd_z) (hp : fd_dv p f) (hD : fd_D p d) (hd1 : 1 ≤ d) (hg : fd_H0 g) (hwF : fd_F w) (hw : w = fd_z ∨ (g ≠ fd_z ∧ fd_dv w g)) : ∃ G M tt, fd_B p G ∧ G ≤ 4611686018427387904 ∧ fd_B w M ∧ (∀ j, tt + d ≤ j → w j = 0) ∧ M * (1 + G) ^ (min (6 - d) tt) ≤ 4611686018427387904 ∧ fd_L w 5 := by
  obtain ⟨hpB, hp5⟩ := fd_dv_bL ⟨hf.1, hf.2, hfz⟩ (fd_D_F hD) hp
  rcases hw with e | ⟨hgz, hdv⟩
  · refine ⟨170000, 0, 0, hpB, by decide, fun i => by rw [e]; simp [fd_z], fun j _ => by rw [e]; rfl, by simp, fun j _ => by rw [e]; rfl⟩
  · obtain ⟨hwB, hw5⟩ := fd_dv_bL ⟨hg.1, hg.2, hgz⟩ hwF hdv
    obtain ⟨q, hq, eq'⟩ := hp
    by_cases h1 : d = 1
    · subst h1
      obtain ⟨b1, b0⟩ := fd_b1 ⟨hf.1, hf.2, hfz⟩ hD hq eq'
      refine ⟨20, 170000, 6, fun i => ?_, by decide, hwB, fun j hj => hw5 j (by omega), by decide, hw5⟩
      match i with
      | 0 => omega
      | 1 => omega
      | (n + 2) => rw [hD.2 (n + 2) (by omega)]; simp
    · by_cases h2 : d = 2
      · subst h2
        obtain ⟨b2, b1, b0⟩ := fd_b2 ⟨hf.1, hf.2, hfz⟩ hD hq eq'
        refine ⟨60, 170000, 6, fun i => ?_, by decide, hwB, fun j hj => hw5 j (by omega), by decide, hw5⟩
        match i with
        | 0 => omega
        | 1 => omega
        | 2 => omega
        | (n + 3) => rw [hD.2 (n + 3) (by omega)]; simp
      · by_cases h5 : ∃ j, 5 ≤ j ∧ w j ≠ 0
        · -- w is g up to a number
          obtain ⟨j, hj, hjz⟩ := h5
          have hj5 : j = 5 := by
            rcases Nat.lt_or_ge 5 j with h | h
            · exact absurd (hw5 j h) hjz
            · omega
          subst hj5
          have hDw : fd_D w 5 := ⟨hjz, hw5⟩
          obtain ⟨r, hr, er⟩ := hdv
          obtain ⟨dg, hdg⟩ := fd_D_ex (fd_L_F hg.2) hgz
          obtain ⟨a, b, ha, hb, hab⟩ := fd_D_split hwF hr er hdg
          have e1 := fd_D_u ha hDw
          have e2 := fd_D_le hdg hg.2
          have hb0 : b = 0 := by omega
          subst hb0
          have hB20 : fd_B w 20 := fun i => by
            rw [fd_L0_c hb.2, fd_mul_c] at er
            have h1 : r 0 * w i = g i := congrFun er i
            have := fd_n1 (x := w i) (y := r 0) (by rw [Int.mul_comm]; exact h1) hb.1 (hg.1 i)
            omega
          refine ⟨170000, 20, 3, hpB, by decide, hB20, fun j hj => hw5 j (by omega), ?_, hw5⟩
          have h3 : (1 + 170000) ^ (min (6 - d) 3) ≤ (1 + 170000) ^ 3 := Nat.pow_le_pow_right (by decide) (by omega)
          exact Nat.le_trans (Nat.mul_le_mul_left _ h3) (by decide)
        · have hz : ∀ j, 5 ≤ j → w j = 0 := fun j hj => Classical.byContradiction fun hn => h5 ⟨j, hj, hn⟩
          refine ⟨170000, 170000, 2, hpB, by decide, hwB, fun j hj => hz j (by omega), ?_, hw5⟩
          have h3 : (1 + 170000) ^ (min (6 - d) 2) ≤ (1 + 170000) ^ 2 := Nat.pow_le_pow_right (by decide) (by omega)
          exact Nat.le_trans (Nat.mul_le_mul_left _ h3) (by decide)
theorem xs_com57 {post : SX → Prop} {he : Nat → Int32} {fo : Nat → Int64} {f g : Nat → Int} {L : List (Nat → Int)} (hf : fd_H0 f) (hfz : f ≠ fd_z) (hF : fd_Fac f L) (hg : fd_H0 g) (hfo : fd_AL fo L) (H : ∀ re op qu rs wk, fd_R re (fd_gs L g L.length).2 → post (nI L.length, he, re, op, qu, rs, wk, fo)) : ∀ (n k : Nat) (re op qu rs wk : Nat → Int64), k + n = L.length → fd_R re (fd_gs L g k).2 → fd_R rs (fd_gs L g k).1 → wX_makeCommonDivisor_57 post (n + 1) (nI k) (nI L.length) he re op qu rs wk fo := by
  have hlen := hF.2.2.1
  have hLB := fd_Fac_LB hf hF
  intro n
  induction n with
  | zero =>
    intro k re op qu rs wk hk hR hrs
    have e : k = L.length := by omega
    subst e
    exact br_t (nI_le (Nat.le_refl _) (by omega)) (H re op qu rs wk hR)
  | succ n ih =>
    intro k re op qu rs wk hk hR hrs
    obtain ⟨hI, hpB, hp5⟩ := hLB _ (fd_getD_mem (by omega : k < L.length))
    obtain ⟨_, ⟨d, hd1, hD, _⟩, _⟩ := id hI
    have hd5 := fd_D_le hD hp5
    obtain ⟨i1, i2, i3, i4⟩ := fd_gs_inv hF.1 (fd_L_F hg.2) k (by omega)
    have hw : (fd_gs L g k).1 = fd_z ∨ (g ≠ fd_z ∧ fd_dv (fd_gs L g k).1 g) := by
      by_cases hgz : g = fd_z
      · left; rw [hgz, fd_gs_z hF.1 k (by omega)]
      · right; exact ⟨hgz, ⟨_, i2, by rw [fd_mul_comm]; exact i4⟩⟩
    obtain ⟨G, M, tt, b1, b2, b3, b4, b5, b6⟩ := fd_gcd_bd hf hfz (fd_dv_trans (fd_dv_prod hF.1 (fd_getD_mem (by omega : k < L.length))) (fd_Fac_dv hfz hF)) hD hd1 hg i1 hw
    refine br_f (nI_ge (by omega) (by omega)) (xs_loadFound_operand (by omega) (fun op1 hop => ?_))
    dsimp only
    have hop' : fd_R op1 (L.getD k fd_z) := fun i hi => by rw [hop i hi]; exact hfo k (by omega) i hi
    refine xs_deg_operand hop' hpB (by decide) hp5 (fun z => absurd z (fd_irr_nz hI)) (fun d' hd' hD' => ?_)
    have e := fd_D_u hD' hD
    subst e
    refine xs_divideRest hD' hd' hop' b1 b2 hrs b6 b4 b3 b5 (fun qu1 rs1 wk1 f' hf' hL' e => ?_) (fun hn qu1 wk1 => ?_)
    · dsimp only
      have hy := fd_gs_yes (g := g) hF.1 (by omega : k < L.length) (fd_L_F hL') e
      refine br_f (by decide) (xs_mulOp hR (fd_gs_b hf hfz hF (fd_L_F hg.2) (by omega)).2 hop' (fun re2 wk2 hR2 => ?_))
      dsimp only
      refine nm_r (nI_1 k) (ih (k + 1) re2 op1 qu1 rs1 wk2 (by omega) ?_ ?_)
      · rw [hy]; exact hR2
      · rw [hy]; exact hf'
    · dsimp only
      refine br_t rfl (nm_r (nI_1 k) (ih (k + 1) re op1 qu1 rs wk1 (by omega) ?_ ?_))
      · rw [fd_gs_no hn]; exact hR
      · rw [fd_gs_no hn]; exact hrs
theorem xs_common {post : SX → Prop} {fc : Int32} {he : Nat → Int32} {re op qu rs wk fo : Nat → Int64} {a b : Nat} (ha : a < 4) (hb : b < 4) (hok : fd_ok he) (hre : fd_R re (fd_reg he a)) (H : ∀ G, fd_GC (fd_reg he a) (fd_reg he b) G → ∀ fc re op qu rs wk fo, fd_R re G → post (fc, he, re, op, qu, rs, wk, fo)) : wpX_makeCommonDivisor post (fc, he, re, op, qu, rs, wk, fo) (nI a) (nI b) := by
  unfold wpX_makeCommonDivisor
  dsimp only
  have hf := fd_reg_H0 hok ha
  have hg := fd_reg_H0 hok hb
  refine xs_deg_result hre (fd_H0_B hf) (by decide) hf.2 (fun hz => br_f (by decide) ?_) (fun d hd hD => br_t (nI_pos' (by omega)) ?_)
  · refine xs_load_result hb (fun re1 hre1 => ?_)
    dsimp only
    have hR1 := fd_reg_R hre1
    refine xs_makePrimitive_result hR1 hg (fun hgz => ?_) (fun re2 F k d hR2 hk e hF hp hD hpos => ?_)
    · exact H fd_z (Or.inl ⟨hz, hgz, rfl⟩) _ _ _ _ _ _ _ (by rw [← hgz]; exact hR1)
    · have hgz : fd_reg he b ≠ fd_z := by rw [e]; exact fd_D_nz (fd_D_sm hk hD)
      exact H F (Or.inr (Or.inl ⟨hz, hgz, k, d, hk, e, hp, hD, hpos⟩)) _ _ _ _ _ _ _ hR2
  · have hfz := fd_D_nz hD
    refine xs_findFactors ha hok (fun L op qu rs wk fo hF hfo => ?_)
    dsimp only
    refine xs_load_rest hb (fun rs1 hrs1 => ?_)
    dsimp only
    refine xs_clear_result (fun re1 hre1 => ?_)
    dsimp only
    refine nm_e ⟨L.length + 1, ?_⟩
    refine xs_com57 hf hfz hF hg hfo (fun re op qu rs wk hR => ?_) L.length 0 _ op qu rs1 wk (by omega) (fun i hi => ?_) (fd_reg_R hrs1)
    · by_cases hgz : fd_reg he b = fd_z
      · refine H _ (Or.inr (Or.inr (Or.inl ⟨hfz, hgz, L, hF, rfl⟩))) _ _ _ _ _ _ _ ?_
        rw [hgz, fd_gs_z hF.1 _ (Nat.le_refl _), List.take_length] at hR
        exact hR
      · exact H _ (Or.inr (Or.inr (Or.inr ⟨hfz, hgz, L, hF, rfl⟩))) _ _ _ _ _ _ _ hR
    · show vp_updL re1 0 1 i = fd_l (fd_c 1 i)
      by_cases hi0 : i = 0
      · rw [hi0, fd_uLs]; decide
      · rw [fd_uLn hi0, hre1 i hi]; simp only [fd_c]; rw [if_neg hi0]; exact fd_l_0.symm
