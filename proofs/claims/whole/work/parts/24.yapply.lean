/-! apply in the reference -/
theorem fd_regX (he : Nat → Int32) (a : Nat) {i : Nat} (hi : i < 6) : he (a * 6 + i) = fd_i (fd_reg he a i) := by
  simp only [fd_reg]; rw [if_pos hi, fd_i_of]
section
variable {post : Int32 → SY → Prop} {cn ot : Int32} {rg : Nat → Int32} {md wh td yr yq pt kp : Nat → Int64} {dg : Nat → Int32}
theorem ys_ap157s {J : Int32 → (Nat → Int32) → (Nat → Int64) → (Nat → Int64) → (Nat → Int64) → (Nat → Int64) → (Nat → Int64) → (Nat → Int64) → (Nat → Int64) → (Nat → Int32) → Prop} {x1 x2 x3 x4 : Int32} {i : Nat} (h : ¬ x1 = 2) (H : J (nI (i + 1)) rg md wh td yr yq pt kp dg) : ∃ n, wY_apply_157 post J x1 x2 x3 x4 (nI i) cn ot n 0 rg md wh td yr yq pt kp dg := by
  refine fd_upl (fun n x => wY_apply_157 post J x1 x2 x3 x4 (nI i) cn ot n x rg md wh td yr yq pt kp dg) (fun _ => True) 6 (fun _ n => br_t (nI_le (Nat.le_refl 6) (by decide)) (nm_r (nI_1 i) H)) (fun n j hj _ hW => ?_)
  exact br_f (nI_ge (b := 6) hj (by decide)) (br_f h (nm_r (nI_1 j) (hW trivial)))
theorem ys_ap157m {J : Int32 → (Nat → Int32) → (Nat → Int64) → (Nat → Int64) → (Nat → Int64) → (Nat → Int64) → (Nat → Int64) → (Nat → Int64) → (Nat → Int64) → (Nat → Int32) → Prop} {x2 : Int32} {i a b : Nat} (hi : i < 6) (ha : a < 4) (hb : b < 4) (hok : fd_ok rg) (H : ∀ t, (∀ j, j < 6 → t (i + j) = md (i + j) + fd_l (fd_reg rg a i * fd_reg rg b j)) → (∀ j, (j < i ∨ i + 6 ≤ j) → t j = md j) → J (nI (i + 1)) rg t wh td yr yq pt kp dg) : ∃ n, wY_apply_157 post J 2 x2 (nI a) (nI b) (nI i) cn ot n 0 rg md wh td yr yq pt kp dg := by
  refine fd_fill (fun n x t => wY_apply_157 post J 2 x2 (nI a) (nI b) (nI i) cn ot n x rg t wh td yr yq pt kp dg) 6 i (fun j => md (i + j) + fd_l (fd_reg rg a i * fd_reg rg b j)) md (fun n t h1 h2 => ?_) (fun n j t hj h2 hW => ?_)
  · exact br_t (nI_le (Nat.le_refl 6) (by decide)) (nm_r (nI_1 i) (H t h1 h2))
  · have e : nI i + nI j = nI (i + j) := nI_add i j
    refine br_f (nI_ge (b := 6) hj (by decide)) (br_t rfl ⟨by rw [e]; exact vp_in_nI (by omega) (by decide), by rw [fd_ixZ]; exact vp_in_nI (by omega) (by decide), by rw [fd_ixZ]; exact vp_in_nI (by omega) (by decide), by rw [e]; exact vp_in_nI (by omega) (by decide), nm_r ?_ (nm_r (nI_1 j) hW)⟩)
    have hk : fd_k (fd_reg rg a i * fd_reg rg b j) := by
      have h1 := (fd_reg_H0 hok ha).1 i
      have h3 := (fd_reg_H0 hok hb).1 j
      refine fd_k_lit ?_
      rw [Int.natAbs_mul]
      have : (fd_reg rg a i).natAbs * (fd_reg rg b j).natAbs ≤ 20 * 20 := Nat.mul_le_mul (by omega) (by omega)
      omega
    rw [e, fd_ixZ, fd_ixZ, nI_clamp (by omega), nI_clamp (by omega), nI_clamp (by omega), h2 (i + j) (by omega), fd_regX rg a hi, fd_regX rg b hj, fd_i_mul, fd_i_l hk]
theorem ys_ap87m {a b d : Nat} (hd : d < 4) (ha : a < 4) (hb : b < 4) (hok : fd_ok rg) (H : ∀ md r rg', fd_K rg d (fd_mul (fd_reg rg a) (fd_reg rg b)) r rg' → post r (cn, ot, rg', md, wh, td, yr, yq, pt, kp, dg)) : ∀ (n i : Nat) (md : Nat → Int64), i + n = 6 → fd_R11 md (fd_mul (fd_tr i (fd_reg rg a)) (fd_reg rg b)) → wY_apply_87 post 2 (nI d) (nI a) (nI b) cn ot (n + 1) (nI i) rg md wh td yr yq pt kp dg := by
  have hf := fd_reg_H0 hok ha
  have hg := fd_reg_H0 hok hb
  intro n
  induction n with
  | zero =>
    intro i md hi hR
    have e : i = 6 := by omega
    subst e
    rw [fd_tr_all hf.2 (by decide)] at hR
    obtain ⟨hB, hL10⟩ := fd_mul_H hf hg
    exact br_t (nI_le (Nat.le_refl 6) (by decide)) (ys_keep hd hR hB hL10 (fun r rg' hK => H md r rg' hK))
  | succ n ih =>
    intro i md hi hR
    refine br_f (nI_ge (b := 6) (by omega) (by decide)) (br_t rfl (ys_ap157m (by omega) ha hb hok (fun t h1 h2 => ih (i + 1) t (by omega) (fun m hm => ?_))))
    rw [fd_tr_step]
    by_cases hmi : i ≤ m
    · rw [if_pos hmi]
      by_cases hm6 : m < i + 6
      · have h3 := h1 (m - i) (by omega)
        have e3 : i + (m - i) = m := by omega
        rw [e3, hR m hm, fd_l_add] at h3
        exact h3
      · rw [h2 m (by omega), hR m hm, hg.2 (m - i) (by omega)]; congr 1; simp
    · rw [if_neg hmi, h2 m (by omega), hR m hm]; congr 1; omega
theorem ys_ap87a {x1 : Int32} {F : Nat → Int} {a b d : Nat} (hd : d < 4) (ha : a < 4) (hb : b < 4) (h2 : ¬ x1 = 2) (hFB : fd_B F 4611686018427387904) (hF5 : fd_L F 5) (h0 : ∀ i, i < 6 → (x1 = 0 → (rg (a * 6 + i) + rg (b * 6 + i)).toInt64 = fd_l (F i)) ∧ (¬ x1 = 0 → (rg (a * 6 + i) + -rg (b * 6 + i)).toInt64 = fd_l (F i))) (hmd : ∀ i, i < 11 → md i = 0) (H : ∀ md r rg', fd_K rg d F r rg' → post r (cn, ot, rg', md, wh, td, yr, yq, pt, kp, dg)) : ∃ n, wY_apply_87 post x1 (nI d) (nI a) (nI b) cn ot n 0 rg md wh td yr yq pt kp dg := by
  refine fd_fill (fun n x t => wY_apply_87 post x1 (nI d) (nI a) (nI b) cn ot n x rg t wh td yr yq pt kp dg) 6 0 (fun i => fd_l (F i)) md (fun n t h1 h3 => ?_) (fun n i t hi _ hW => ?_)
  · refine br_t (nI_le (Nat.le_refl 6) (by decide)) (ys_keep hd (f := F) (fun i hi => ?_) hFB (fd_L_mono hF5 (by decide)) (fun r rg' hK => H t r rg' hK))
    by_cases h6 : i < 6
    · have := h1 i h6; rwa [Nat.zero_add] at this
    · rw [h3 i (by omega), hmd i hi, hF5 i (by omega)]; exact fd_l_0.symm
  · have ia : vp_in (6 * nI a + nI i) 24 := by rw [fd_ixZ]; exact vp_in_nI (by omega) (by decide)
    have ib : vp_in (6 * nI b + nI i) 24 := by rw [fd_ixZ]; exact vp_in_nI (by omega) (by decide)
    refine br_f (nI_ge (b := 6) hi (by decide)) (br_f h2 ⟨ia, br_c (fun z => ⟨ib, vp_in_nI (by omega) (by decide), nm_r ?_ (ys_ap157s h2 hW)⟩) (fun z => ⟨ib, vp_in_nI (by omega) (by decide), nm_r ?_ (ys_ap157s h2 hW)⟩)⟩)
    · rw [fd_ixZ, fd_ixZ, nI_clamp (by omega), nI_clamp (by omega), nI_clamp (by omega), (h0 i hi).1 z, Nat.zero_add]
    · rw [fd_ixZ, fd_ixZ, nI_clamp (by omega), nI_clamp (by omega), nI_clamp (by omega), (h0 i hi).2 z, Nat.zero_add]
theorem fd_M21 (d e : Nat) (he : e ≤ 5) : 20 * (1 + 20) ^ (e + 1 - d) ≤ 4611686018427387904 := by
  have h3 : (1 + 20) ^ (e + 1 - d) ≤ (1 + 20) ^ 6 := Nat.pow_le_pow_right (by decide) (by omega)
  exact Nat.le_trans (Nat.mul_le_mul_left _ h3) (by decide)
theorem ys_quotientOf {a b d : Nat} (hd : d < 4) (ha : a < 4) (hb : b < 4) (hok : fd_ok rg) (H0 : (fd_reg rg b = fd_z ∨ ¬ fd_dv (fd_reg rg b) (fd_reg rg a)) → ∀ wh td yr yq, post (-1002) (cn, ot, rg, md, wh, td, yr, yq, pt, kp, dg)) (H1 : fd_reg rg b ≠ fd_z → ∀ q, fd_F q → fd_mul (fd_reg rg b) q = fd_reg rg a → ∀ r rg', fd_K rg d q r rg' → ∀ md wh td yr yq, post r (cn, ot, rg', md, wh, td, yr, yq, pt, kp, dg)) : wpY_quotientOf post (cn, ot, rg, md, wh, td, yr, yq, pt, kp, dg) (nI d) (nI a) (nI b) := by
  have hf := fd_reg_H0 hok ha
  have hg := fd_reg_H0 hok hb
  unfold wpY_quotientOf
  dsimp only
  refine ys_degree hb (fun hz => br_f (by decide) (H0 (Or.inl hz) wh td yr yq)) (fun e he hD => br_t (nI_pos' (by omega)) ?_)
  refine ys_take ha (fun wh1 hwh1 => ?_)
  dsimp only
  refine fd_fill (fun n x t => wY_quotientOf_24 post (nI d) (nI b) (nI e) cn ot n x rg md wh1 t yr yq pt kp dg) 6 0 (fun i => (rg (b * 6 + i)).toInt64) td (fun n t h1 _ => ?_) (fun n i t hi _ hW => ?_)
  · have htd : fd_R t (fd_reg rg b) := fd_reg_R (fun i hi => by have := h1 i hi; rwa [Nat.zero_add] at this)
    refine br_t (nI_le (Nat.le_refl 6) (by decide)) (ys_divides hD he htd (fd_H0_B hg) (by decide) (fd_reg_R hwh1) hf.2 (fd_H0_B hf) (by decide) (fun e' he' => fd_M21 e e' (fd_D_le he' hf.2)) (fun yr1 yq1 q hq hqL eq' => ?_) (fun hn yr1 yq1 _ => ?_))
    · dsimp only
      refine br_f (by decide) (ys_clearMade (fun md1 hmd => ?_))
      dsimp only
      obtain ⟨hB, h5⟩ := fd_quo_b hf (fd_L_F hg.2) (fd_D_nz hD) (fd_L_F hqL) eq'
      refine fd_fill (fun n x z => wY_quotientOf_77 post (nI d) cn ot n x rg z wh1 t yr1 yq1 pt kp dg) 6 0 (fun i => fd_l (q i)) md1 (fun n z k1 k2 => ?_) (fun n i z hi _ hW => ?_)
      · refine br_t (nI_le (Nat.le_refl 6) (by decide)) (ys_keep hd (f := q) (fun i hi => ?_) hB (fd_L_mono h5 (by decide)) (fun r rg' hK => H1 (fd_D_nz hD) q (fd_L_F hqL) eq' r rg' hK _ _ _ _ _))
        by_cases h6 : i < 6
        · have := k1 i h6; rwa [Nat.zero_add] at this
        · rw [k2 i (by omega), hmd i hi, h5 i (by omega)]; exact fd_l_0.symm
      · exact br_f (nI_ge (b := 6) hi (by decide)) ⟨vp_in_nI hi (by decide), vp_in_nI (by omega) (by decide), nm_r (by rw [nI_clamp (by omega), hq i hi, Nat.zero_add]) (nm_r (nI_1 i) hW)⟩
    · dsimp only
      exact br_t rfl (H0 (Or.inr hn) wh1 t yr1 yq1)
  · exact br_f (nI_ge (b := 6) hi (by decide)) ⟨by rw [fd_ixZ]; exact vp_in_nI (by omega) (by decide), vp_in_nI hi (by decide), nm_r (by rw [fd_ixZ, nI_clamp (by omega), nI_clamp (by omega), Nat.zero_add]) (nm_r (nI_1 i) hW)⟩
theorem ys_rest104 {d : Nat} {w : Nat → Int} {x5 : Int32} (hd : d < 4) (hmd : ∀ i, i < 11 → md i = 0) (hw5 : fd_L w 5) (hwB : fd_B w 4611686018427387904) (hr : (x5 = 0 ∧ fd_R yr w) ∨ (¬ x5 = 0 ∧ w = fd_z)) (H : ∀ md r rg', fd_K rg d w r rg' → post r (cn, ot, rg', md, wh, td, yr, yq, pt, kp, dg)) : ∃ n, wY_restOf_104 post (nI d) x5 cn ot n 0 rg md wh td yr yq pt kp dg := by
  refine fd_fill (fun n x z => wY_restOf_104 post (nI d) x5 cn ot n x rg z wh td yr yq pt kp dg) 6 0 (fun i => fd_l (w i)) md (fun n z k1 k2 => ?_) (fun n i z hi _ hW => ?_)
  · refine br_t (nI_le (Nat.le_refl 6) (by decide)) (ys_keep hd (f := w) (fun i hi => ?_) hwB (fd_L_mono hw5 (by decide)) (fun r rg' hK => H z r rg' hK))
    by_cases h6 : i < 6
    · have := k1 i h6; rwa [Nat.zero_add] at this
    · rw [k2 i (by omega), hmd i hi, hw5 i (by omega)]; exact fd_l_0.symm
  · refine br_f (nI_ge (b := 6) hi (by decide)) ?_
    rcases hr with ⟨h1, h2⟩ | ⟨h1, h2⟩
    · exact br_t h1 ⟨vp_in_nI hi (by decide), vp_in_nI (by omega) (by decide), nm_r (by rw [nI_clamp (by omega), h2 i hi, Nat.zero_add]) (nm_r (nI_1 i) hW)⟩
    · exact br_f h1 ⟨vp_in_nI (by omega) (by decide), nm_r (by rw [nI_clamp (by omega), h2, Nat.zero_add]; rfl) (nm_r (nI_1 i) hW)⟩
theorem ys_rest48 {a b d e : Nat} (hd : d < 4) (ha : a < 4) (hb : b < 4) (hok : fd_ok rg) (he : e < 6) (hD : fd_D (fd_reg rg b) e) (hu : fd_reg rg b e = 1 ∨ fd_reg rg b e = -1) (H1 : ∀ w q, fd_DI (fd_reg rg a) (fd_reg rg b) w q e 0 → ∀ r rg', fd_K rg d w r rg' → ∀ md wh td yr yq, post r (cn, ot, rg', md, wh, td, yr, yq, pt, kp, dg)) : wY_restOf_48 post (nI d) (nI a) (nI b) (nI e) cn ot rg md wh td yr yq pt kp dg := by
  have hf := fd_reg_H0 hok ha
  have hg := fd_reg_H0 hok hb
  unfold wY_restOf_48
  refine ys_take ha (fun wh1 hwh1 => ?_)
  dsimp only
  refine fd_fill (fun n x t => wY_restOf_56 post (nI d) (nI b) (nI e) cn ot n x rg md wh1 t yr yq pt kp dg) 6 0 (fun i => (rg (b * 6 + i)).toInt64) td (fun n t h1 _ => ?_) (fun n i t hi _ hW => ?_)
  · have htd : fd_R t (fd_reg rg b) := fd_reg_R (fun i hi => by have := h1 i hi; rwa [Nat.zero_add] at this)
    refine br_t (nI_le (Nat.le_refl 6) (by decide)) (ys_divides hD he htd (fd_H0_B hg) (by decide) (fd_reg_R hwh1) hf.2 (fd_H0_B hf) (by decide) (fun e' he' => fd_M21 e e' (fd_D_le he' hf.2)) (fun yr1 yq1 q hq hqL eq' => ?_) (fun hn yr1 yq1 hor => ?_))
    · dsimp only
      refine ys_clearMade (fun md1 hmd => ?_)
      dsimp only
      have hDI : fd_DI (fd_reg rg a) (fd_reg rg b) fd_z q e 0 := ⟨by rw [eq']; funext i; simp [fd_add, fd_z], fun _ _ => rfl, hqL⟩
      exact ys_rest104 hd hmd (fun _ _ => rfl) (fun i => by simp [fd_z]) (Or.inr ⟨by decide, rfl⟩) (fun md r rg' hK => H1 fd_z q hDI r rg' hK _ _ _ _ _)
    · dsimp only
      refine ys_clearMade (fun md1 hmd => ?_)
      dsimp only
      rcases hor with ⟨z, hz⟩ | ⟨w, q, hw, hDI, hB⟩
      · exfalso
        rcases hu with h | h
        · exact hz (by rw [h]; exact ⟨z, by simp⟩)
        · exact hz (by rw [h]; exact ⟨-z, by simp⟩)
      · exact ys_rest104 hd hmd (fun j hj => hDI.2.1 j (by omega)) hB (Or.inl ⟨rfl, hw⟩) (fun md r rg' hK => H1 w q hDI r rg' hK _ _ _ _ _)
  · exact br_f (nI_ge (b := 6) hi (by decide)) ⟨by rw [fd_ixZ]; exact vp_in_nI (by omega) (by decide), vp_in_nI hi (by decide), nm_r (by rw [fd_ixZ, nI_clamp (by omega), nI_clamp (by omega), Nat.zero_add]) (nm_r (nI_1 i) hW)⟩
theorem fd_i_m1 : fd_i (-1) = -1 := by decide
theorem fd_i_p1 : fd_i 1 = 1 := by decide
theorem ys_restOf {a b d : Nat} (hd : d < 4) (ha : a < 4) (hb : b < 4) (hok : fd_ok rg) (H0 : (¬ ∃ e, fd_D (fd_reg rg b) e ∧ (fd_reg rg b e = 1 ∨ fd_reg rg b e = -1)) → post (-1002) (cn, ot, rg, md, wh, td, yr, yq, pt, kp, dg)) (H1 : ∀ e w q, fd_D (fd_reg rg b) e → (fd_reg rg b e = 1 ∨ fd_reg rg b e = -1) → fd_DI (fd_reg rg a) (fd_reg rg b) w q e 0 → ∀ r rg', fd_K rg d w r rg' → ∀ md wh td yr yq, post r (cn, ot, rg', md, wh, td, yr, yq, pt, kp, dg)) : wpY_restOf post (cn, ot, rg, md, wh, td, yr, yq, pt, kp, dg) (nI d) (nI a) (nI b) := by
  have hg := fd_reg_H0 hok hb
  unfold wpY_restOf
  dsimp only
  refine ys_degree hb (fun hz => br_t (by decide) (H0 (fun h => ?_))) (fun e he hD => br_f (nI_pos (by omega)) ?_)
  · obtain ⟨e, hD, _⟩ := h
    exact fd_D_nz hD hz
  · have hk : fd_k (fd_reg rg b e) := fd_k_lit (by have := hg.1 e; omega)
    have l1 : fd_i (fd_reg rg b e) = 1 ↔ fd_reg rg b e = 1 := by rw [← fd_i_p1]; exact fd_i_eq hk (fd_k_lit (by decide))
    have l2 : fd_i (fd_reg rg b e) = -1 ↔ fd_reg rg b e = -1 := by rw [← fd_i_m1]; exact fd_i_eq hk (fd_k_lit (by decide))
    have hin : vp_in (6 * nI b + nI e) 24 := by rw [fd_ixZ]; exact vp_in_nI (by omega) (by decide)
    refine ⟨hin, ?_⟩
    have er : rg (6 * nI b + nI e).toNatClampNeg = fd_i (fd_reg rg b e) := by rw [fd_ixZ, nI_clamp (by omega), fd_regX rg b he]
    rw [er]
    refine br_c (fun z => ys_rest48 hd ha hb hok he hD (Or.inl (l1.mp z)) (fun w q hDI => H1 e w q hD (Or.inl (l1.mp z)) hDI)) (fun z => ⟨hin, br_c (fun y => ys_rest48 hd ha hb hok he hD (Or.inr (l2.mp y)) (fun w q hDI => H1 e w q hD (Or.inr (l2.mp y)) hDI)) (fun y => H0 (fun h => ?_))⟩)
    obtain ⟨e', hD', hu⟩ := h
    rw [fd_D_u hD' hD] at hu
    rcases hu with h | h
    · exact z (l1.mpr h)
    · exact y (l2.mpr h)
theorem ys_apply {o d a b : Nat} (ho : o < 6) (hd : d < 4) (ha : a < 4) (hb : b < 4) (hok : fd_ok rg) (H : ∀ r rg', fd_AO o rg d (fd_reg rg a) (fd_reg rg b) r rg' → ∀ cn ot md wh td yr yq pt kp dg, post r (cn, ot, rg', md, wh, td, yr, yq, pt, kp, dg)) : wpY_apply post (cn, ot, rg, md, wh, td, yr, yq, pt, kp, dg) (nI o) (nI d) (nI a) (nI b) := by
  have hf := fd_reg_H0 hok ha
  have hg := fd_reg_H0 hok hb
  unfold wpY_apply
  dsimp only
  refine br_f (nI_pos (by omega)) (br_f (nI_nlt (b := o) (a := 5) (by omega) (by omega)) (ys_isRegister hd (br_f (by decide) (ys_isRegister ha (br_f (by decide) (ys_isRegister hb (br_f (by decide) ?_)))))))
  match o, ho, H with
  | 0, _, H =>
    refine br_f (by decide) (br_f (by decide) (br_f (by decide) (ys_clearMade (fun md1 hmd => ?_))))
    dsimp only
    refine ys_ap87a (F := fd_add (fd_reg rg a) (fd_reg rg b)) hd ha hb (by decide) (fun i => by have := hf.1 i; have := hg.1 i; simp only [fd_add]; omega) (fun j hj => by simp only [fd_add]; rw [hf.2 j hj, hg.2 j hj]; rfl) (fun i hi => ⟨fun _ => ?_, fun h => absurd rfl h⟩) hmd (fun md r rg' hK => H r rg' hK _ _ _ _ _ _ _ _ _ _)
    have h1 := hf.1 i
    have h2 := hg.1 i
    rw [fd_regX rg a hi, fd_regX rg b hi, fd_i_add, fd_i_l (fd_k_lit (by omega))]; rfl
  | 1, _, H =>
    refine br_f (by decide) (br_f (by decide) (br_f (by decide) (ys_clearMade (fun md1 hmd => ?_))))
    dsimp only
    refine ys_ap87a (F := fd_sub (fd_reg rg a) (fd_reg rg b)) hd ha hb (by decide) (fun i => by have := hf.1 i; have := hg.1 i; simp only [fd_sub]; omega) (fun j hj => by simp only [fd_sub]; rw [hf.2 j hj, hg.2 j hj]; rfl) (fun i hi => ⟨fun h => absurd h (by decide), fun _ => ?_⟩) hmd (fun md r rg' hK => H r rg' hK _ _ _ _ _ _ _ _ _ _)
    have h1 := hf.1 i
    have h2 := hg.1 i
    rw [fd_regX rg a hi, fd_regX rg b hi, fd_i_neg, fd_i_add, fd_i_l (fd_k_lit (by omega))]; rfl
  | 2, _, H =>
    refine br_f (by decide) (br_f (by decide) (br_f (by decide) (ys_clearMade (fun md1 hmd => ?_))))
    dsimp only
    exact ⟨7, ys_ap87m hd ha hb hok (fun md r rg' hK => H r rg' hK _ _ _ _ _ _ _ _ _ _) 6 0 md1 (by omega) (fun i hi => by rw [hmd i hi, fd_tr_0]; exact fd_l_0.symm)⟩
  | 3, _, H => exact br_t (by decide) (ys_common hd ha hb hok (fun G r rg' hGC hK cn ot md wh td yr yq pt kp dg => H r rg' ⟨G, hGC, hK⟩ _ _ _ _ _ _ _ _ _ _))
  | 4, _, H => exact br_f (by decide) (br_t (by decide) (ys_quotientOf hd ha hb hok (fun hn wh td yr yq => H _ rg (Or.inl ⟨hn, rfl, rfl⟩) _ _ _ _ _ _ _ _ _ _) (fun hz q hq e r rg' hK md wh td yr yq => H r rg' (Or.inr ⟨hz, q, hq, e, hK⟩) _ _ _ _ _ _ _ _ _ _)))
  | 5, _, H => exact br_f (by decide) (br_f (by decide) (br_t (by decide) (ys_restOf hd ha hb hok (fun hn => H _ rg (Or.inl ⟨hn, rfl, rfl⟩) _ _ _ _ _ _ _ _ _ _) (fun e w q hD hu hDI r rg' hK md wh td yr yq => H r rg' (Or.inr ⟨e, w, q, hD, hu, hDI, hK⟩) _ _ _ _ _ _ _ _ _ _))))
end
theorem i_vc_apply {k : Nat} {u : SX} {v : SY} (I : i_Rel k u v) (hk : k + 5 ≤ 2560) (v1 : Int32) (v2 : Int32) (v3 : Int32) (v4 : Int32) : wpX_apply (fun r u' => wpY_apply (fun r' v' => r' = r ∧ i_Rel (k + 5) u' v') v v1 v2 v3 v4) u v1 v2 v3 v4 := by
  obtain ⟨fc, he, re, op, qu, rs, wk, fo⟩ := u
  obtain ⟨cn, ot, rg, md, wh, td, yr, yq, pt, kp, dg⟩ := v
  obtain ⟨e, hok⟩ := I
  dsimp only at e hok
  subst e
  rcases fd_r6 v1 with ⟨o, ho, e⟩ | h0
  · subst e
    have g0 : ¬ nI o < 0 := nI_pos (by omega)
    have g5 : ¬ 5 < nI o := nI_nlt (b := o) (a := 5) (by omega) (by omega)
    rcases fd_r4 v2 with ⟨d, hd, e⟩ | h1
    · subst e
      rcases fd_r4 v3 with ⟨a, ha, e⟩ | h2
      · subst e
        rcases fd_r4 v4 with ⟨b, hb, e⟩ | h3
        · subst e
          refine xs_apply ho hd ha hb hok (fun r1 he1 hA fc re op qu rs wk fo => ys_apply ho hd ha hb hok (fun r2 he2 hA2 cn ot md wh td yr yq pt kp dg => ?_))
          obtain ⟨e1, e2⟩ := fd_AO_u (fd_L_F (fd_reg_H0 hok hb).2) hA hA2
          exact ⟨e1, e2, fd_AO_ok hok hA⟩
        · unfold wpX_apply wpY_apply
          dsimp only
          exact br_f g0 (br_f g5 (xs_reg hd (br_f (by decide) (xs_reg ha (br_f (by decide) (xs_nreg h3 (br_t rfl (br_f g0 (br_f g5 (ys_isRegister hd (br_f (by decide) (ys_isRegister ha (br_f (by decide) (ys_nreg h3 (br_t rfl ⟨rfl, rfl, hok⟩)))))))))))))))
      · unfold wpX_apply wpY_apply
        dsimp only
        exact br_f g0 (br_f g5 (xs_reg hd (br_f (by decide) (xs_nreg h2 (br_t rfl (br_f g0 (br_f g5 (ys_isRegister hd (br_f (by decide) (ys_nreg h2 (br_t rfl ⟨rfl, rfl, hok⟩)))))))))))
    · unfold wpX_apply wpY_apply
      dsimp only
      exact br_f g0 (br_f g5 (xs_nreg h1 (br_t rfl (br_f g0 (br_f g5 (ys_nreg h1 (br_t rfl ⟨rfl, rfl, hok⟩)))))))
  · unfold wpX_apply wpY_apply
    dsimp only
    exact br_c (fun z => br_t z ⟨rfl, rfl, hok⟩) (fun z => br_t ((fd_56x _).mpr (h0.resolve_left z)) (br_f z (br_t ((fd_56x _).mpr (h0.resolve_left z)) ⟨rfl, rfl, hok⟩)))
