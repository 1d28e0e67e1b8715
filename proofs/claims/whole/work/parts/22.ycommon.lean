/-! GCD in the reference -/
section
variable {post : Int32 → SY → Prop} {J : Int32 → Int32 → Int32 → Int32 → (Nat → Int32) → (Nat → Int64) → (Nat → Int64) → (Nat → Int64) → (Nat → Int64) → (Nat → Int64) → (Nat → Int64) → (Nat → Int64) → (Nat → Int32) → Prop} {x1 ot : Int32} {rg : Nat → Int32} {md wh td yr yq pt kp : Nat → Int64} {dg : Nat → Int32} {L1 L2 : List (Nat → Int)} {k : Nat} {G : Nat → Int}
theorem ys_com88b (hk : k < L1.length) (h1 : L1.length ≤ 5) (h2 : L2.length ≤ 5) (hB1 : fd_LB L1) (hkp : fd_AL kp L1) (hmd : fd_R11 md G) {u : Nat}
    (H : ∀ md, fd_R11 md (fd_mul G (L1.getD k fd_z)) → J (nI u) (nI (k + 1)) (nI L2.length) ot rg md wh td yr yq pt kp dg) : ∀ j m, m + j = L2.length → wY_common_88 post J x1 (nI k) (nI L2.length) ot rg md wh td yr yq pt kp dg (j + 1) (nI u) 1 (nI m) := by
  intro j
  induction j with
  | zero =>
    intro m hm
    have e : m = L2.length := by omega
    subst e
    refine br_t (nI_le (Nat.le_refl _) (by omega)) (br_f (by decide) (ys_multiply (by omega) hmd (hkp k hk) (hB1 _ (fd_getD_mem hk)).2.2 (fun md2 hR2 => ?_)))
    dsimp only
    exact nm_r (nI_1 k) (H md2 hR2)
  | succ j ih =>
    intro m hm
    exact br_f (nI_ge (by omega) (by omega)) (br_f (by decide) (nm_r (nI_1 m) (ih (m + 1) (by omega))))
theorem ys_com88 (hk : k < L1.length) (h1 : L1.length ≤ 5) (h2 : L2.length ≤ 5) (hB1 : fd_LB L1) (hB2 : fd_LB L2) (hkp : fd_AL kp L1) (hpt : fd_AL pt L2) (hmd : fd_R11 md G) {u : Nat} (hu : u < 2 ^ L2.length)
    (H1 : ∀ m, m < L2.length → u / 2 ^ m % 2 = 0 → L1.getD k fd_z = L2.getD m fd_z → ∀ md, fd_R11 md (fd_mul G (L1.getD k fd_z)) → J (nI (u + 2 ^ m)) (nI (k + 1)) (nI L2.length) ot rg md wh td yr yq pt kp dg)
    (H0 : (∀ m, m < L2.length → u / 2 ^ m % 2 = 0 → L1.getD k fd_z ≠ L2.getD m fd_z) → J (nI u) (nI (k + 1)) (nI L2.length) ot rg md wh td yr yq pt kp dg) : ∀ j m, m + j = L2.length → (∀ m', m' < m → u / 2 ^ m' % 2 = 0 → L1.getD k fd_z ≠ L2.getD m' fd_z) → wY_common_88 post J x1 (nI k) (nI L2.length) ot rg md wh td yr yq pt kp dg (j + 1) (nI u) 0 (nI m) := by
  have hu32 : u < 32 := by
    have : 2 ^ L2.length ≤ 2 ^ 5 := Nat.pow_le_pow_right (by decide) h2
    omega
  intro j
  induction j with
  | zero =>
    intro m hm hno
    have e : m = L2.length := by omega
    subst e
    exact br_t (nI_le (Nat.le_refl _) (by omega)) (br_t rfl (nm_r (nI_1 k) (H0 hno)))
  | succ j ih =>
    intro m hm hno
    obtain ⟨k1, k2⟩ := fd_mask (u := u) (m := m) hu32 (by omega)
    have hnext : (u / 2 ^ m % 2 = 0 → L1.getD k fd_z ≠ L2.getD m fd_z) → wY_common_88 post J x1 (nI k) (nI L2.length) ot rg md wh td yr yq pt kp dg (j + 1) (nI u) 0 (nI (m + 1)) := fun hn => by
      refine ih (m + 1) (by omega) (fun m' hm' hb => ?_)
      by_cases e : m' = m
      · rw [e] at hb ⊢; exact hn hb
      · exact hno m' (by omega) hb
    refine br_f (nI_ge (by omega) (by omega)) (br_t rfl (br_c (fun z => ?_) (fun z => nm_r (nI_1 m) (hnext (fun hb => absurd (k1.mpr hb) z)))))
    have hb := k1.mp z
    obtain ⟨_, hpB, hp5⟩ := hB1 _ (fd_getD_mem hk)
    obtain ⟨_, hqB, hq5⟩ := hB2 _ (fd_getD_mem (by omega : m < L2.length))
    refine ys_equals (by omega) (by omega) (hkp k hk) (hpt m (by omega)) hpB hqB hp5 hq5 (fun e => br_f (by decide) (nm_r (k2 hb) (nm_r (nI_1 m) ?_))) (fun e => br_t rfl (nm_r (nI_1 m) (hnext (fun _ => e))))
    exact ys_com88b hk h1 h2 hB1 hkp hmd (H1 m (by omega) hb e) j (m + 1) (by omega)
end
theorem ys_com73 {post : Int32 → SY → Prop} {rg : Nat → Int32} {wh td yr yq pt kp : Nat → Int64} {dg : Nat → Int32} {L1 L2 : List (Nat → Int)} {R0 G : Nat → Int} {c : Int} {d : Nat} (hd : d < 4) (hc : c ≠ 0) (h1 : L1.length ≤ 5) (h2 : L2.length ≤ 5) (hB1 : fd_LB L1) (hB2 : fd_LB L2) (hkp : fd_AL kp L1) (hpt : fd_AL pt L2) (hG : (fd_gs L1 R0 L1.length).2 = G) (hGB : fd_B G 170000) (hG5 : fd_L G 5)
    (H : ∀ md r rg', fd_K rg d G r rg' → post r (nI L2.length, nI L1.length, rg', md, wh, td, yr, yq, pt, kp, dg)) : ∀ (n k u : Nat) (md : Nat → Int64), k + n = L1.length → u < 2 ^ L2.length → fd_R11 md (fd_gs L1 R0 k).2 → (fd_gs L1 R0 k).1 = fd_sm c (fd_prod (fd_ul L2 u)) → wY_common_73 post (nI d) (n + 1) (nI u) (nI k) (nI L2.length) (nI L1.length) rg md wh td yr yq pt kp dg := by
  have hI1 : ∀ p ∈ L1, fd_Irr p := fun p hp => (hB1 p hp).1
  have hI2 : ∀ p ∈ L2, fd_Irr p := fun p hp => (hB2 p hp).1
  intro n
  induction n with
  | zero =>
    intro k u md hk hu hmd _
    have e : k = L1.length := by omega
    subst e
    rw [hG] at hmd
    exact br_t (nI_le (Nat.le_refl _) (by omega)) (ys_keep hd hmd (fd_B_mono hGB (by decide)) (fd_L_mono hG5 (by decide)) (fun r rg' hK => H md r rg' hK))
  | succ n ih =>
    intro k u md hk hu hmd hs
    refine br_f (nI_ge (by omega) (by omega)) ⟨L2.length + 1, ?_⟩
    refine ys_com88 (by omega) h1 h2 hB1 hB2 hkp hpt hmd hu (fun m hm hb e md2 hmd2 => ?_) (fun hno => ?_) L2.length 0 (by omega) (fun m' hm' => absurd hm' (Nat.not_lt_zero m'))
    · have hF : fd_F (fd_sm c (fd_prod (fd_ul L2 (u + 2 ^ m)))) := fd_F_sm _ (fd_F_prod _ fun p hp => fd_irr_F (hI2 p (fd_ul_sub _ p hp)))
      have hy := fd_gs_yes (g := R0) (q := fd_sm c (fd_prod (fd_ul L2 (u + 2 ^ m)))) hI1 (by omega : k < L1.length) hF (by rw [hs, fd_ul_take u m hm hb, fd_mul_sm, e])
      refine ih (k + 1) (u + 2 ^ m) md2 (by omega) (fd_mask_lt hu hm hb) ?_ ?_
      · rw [hy]; exact hmd2
      · rw [hy]
    · have hn : ¬ fd_dv (L1.getD k fd_z) (fd_gs L1 R0 k).1 := fun hdv => by
        rw [hs] at hdv
        have hmem := fd_mem (hI1 _ (fd_getD_mem (by omega : k < L1.length))) c hc _ (fun p hp => hI2 p (fd_ul_sub _ p hp)) hdv
        obtain ⟨m, m1, m2, m3⟩ := fd_ul_mem u _ hmem
        exact hno m m1 m2 m3.symm
      refine ih (k + 1) u md (by omega) hu ?_ ?_
      · rw [fd_gs_no hn]; exact hmd
      · rw [fd_gs_no hn]; exact hs
section
variable {post : Int32 → SY → Prop} {cn ot : Int32} {rg : Nat → Int32} {md wh td yr yq pt kp : Nat → Int64} {dg : Nat → Int32}
/-- both lists found, the products begun at 1 -/
theorem ys_com60 {L1 L2 : List (Nat → Int)} {R0 G : Nat → Int} {c : Int} {d : Nat} (hd : d < 4) (hc : c ≠ 0) (h1 : L1.length ≤ 5) (h2 : L2.length ≤ 5) (hB1 : fd_LB L1) (hB2 : fd_LB L2) (hkp : fd_AL kp L1) (hpt : fd_AL pt L2) (hR0 : R0 = fd_sm c (fd_prod L2)) (hG : (fd_gs L1 R0 L1.length).2 = G) (hGB : fd_B G 170000) (hG5 : fd_L G 5) (hmd : ∀ i, i < 11 → md i = 0)
    (H : ∀ md r rg', fd_K rg d G r rg' → post r (nI L2.length, nI L1.length, rg', md, wh, td, yr, yq, pt, kp, dg)) : wY_common_60 post (nI d) (nI L2.length) (nI L1.length) rg md wh td yr yq pt kp dg := by
  unfold wY_common_60
  refine nm_e ⟨L1.length + 1, ?_⟩
  refine ys_com73 hd hc h1 h2 hB1 hB2 hkp hpt hG hGB hG5 H L1.length 0 0 _ (by omega) (Nat.pow_pos (by decide)) (fun i hi => ?_) ?_
  · show vp_updL md 0 1 i = fd_l (fd_c 1 i)
    by_cases hi0 : i = 0
    · rw [hi0, fd_uLs]; decide
    · rw [fd_uLn hi0, hmd i hi]; simp only [fd_c]; rw [if_neg hi0]; exact fd_l_0.symm
  · show R0 = fd_sm c (fd_prod (fd_ul L2 0))
    rw [fd_ul_0]; exact hR0
theorem ys_common {d a b : Nat} (hd : d < 4) (ha : a < 4) (hb : b < 4) (hok : fd_ok rg) (H : ∀ G r rg', fd_GC (fd_reg rg a) (fd_reg rg b) G → fd_K rg d G r rg' → ∀ cn ot md wh td yr yq pt kp dg, post r (cn, ot, rg', md, wh, td, yr, yq, pt, kp, dg)) : wpY_common post (cn, ot, rg, md, wh, td, yr, yq, pt, kp, dg) (nI d) (nI a) (nI b) := by
  have hf := fd_reg_H0 hok ha
  have hg := fd_reg_H0 hok hb
  unfold wpY_common
  dsimp only
  refine ys_degree ha (fun hfz => ?_) (fun e1 he1 hD1 => ?_)
  · refine ys_degree hb (fun hgz => br_f (by decide) ?_) (fun e2 he2 hD2 => br_f (by decide) ?_)
    · -- both are 0
      unfold wY_common_25
      refine ys_split hb hok (fun L1 wh td yr yq pt hF1 hpt1 => ?_)
      have eL1 := hF1.2.2.2.1 hgz
      subst eL1
      dsimp only
      refine ys_keepParts (fun kp1 hkp1 => ?_)
      dsimp only
      refine br_f (by decide) ?_
      unfold wY_common_43
      refine ys_split ha hok (fun L2 wh td yr yq pt hF2 hpt2 => ?_)
      dsimp only
      refine ys_clearMade (fun md1 hmd => ?_)
      dsimp only
      refine br_f (by decide) (br_t (by decide) ⟨1, ?_⟩)
      refine br_t (nI_le (a := 0) (b := 0) (Nat.le_refl 0) (by decide)) (ys_keep hd (f := fd_z) (fun i hi => by rw [hmd i hi]; exact fd_l_0.symm) (fun i => by simp [fd_z]) (fun _ _ => rfl) (fun r rg' hK => H fd_z r rg' (Or.inl ⟨hfz, hgz, rfl⟩) hK _ _ _ _ _ _ _ _ _ _))
    · -- a is 0, b is not
      have hgz := fd_D_nz hD2
      unfold wY_common_25
      refine ys_split hb hok (fun L1 wh td yr yq pt hF1 hpt1 => ?_)
      dsimp only
      refine ys_keepParts (fun kp1 hkp1 => ?_)
      dsimp only
      refine br_t (nI_pos' (by omega)) ?_
      unfold wY_common_43
      refine ys_split hb hok (fun L2 wh td yr yq pt hF2 hpt2 => ?_)
      have eL := fd_Fac_u hF1 hF2
      subst eL
      dsimp only
      refine ys_clearMade (fun md1 hmd => ?_)
      dsimp only
      refine br_f (by decide) (br_f (nI_pos (by omega)) ?_)
      have hLB := fd_Fac_LB hg hF1
      have hG : (fd_gs L1 (fd_prod L1) L1.length).2 = fd_prod L1 := by rw [fd_gs_self hF1.1 _ (Nat.le_refl _), List.take_length]
      obtain ⟨c, hc, ec⟩ := hF1.2.2.2.2 hgz
      obtain ⟨s, hs1, hs2, _⟩ := fd_prod_D L1 hF1.1
      have hGC : fd_GC (fd_reg rg a) (fd_reg rg b) (fd_prod L1) := Or.inr (Or.inl ⟨hfz, hgz, c, s, hc, ec, fd_pr_prod hF1.1, hs1, hs2⟩)
      obtain ⟨b1, b2⟩ := fd_GC_b hf hg hGC
      exact ys_com60 (c := 1) hd (by decide) hF1.2.2.1 hF1.2.2.1 hLB hLB (fd_AL_copy hpt1 hF1.2.2.1 hkp1) hpt2 (fd_sm_1 _).symm hG b1 b2 hmd (fun md r rg' hK => H _ r rg' hGC hK _ _ _ _ _ _ _ _ _ _)
  · have hfz := fd_D_nz hD1
    refine ys_degree hb (fun hgz => br_t (nI_pos' (by omega)) ?_) (fun e2 he2 hD2 => br_t (nI_pos' (by omega)) ?_)
    · -- b is 0, a is not
      unfold wY_common_25
      refine ys_split ha hok (fun L1 wh td yr yq pt hF1 hpt1 => ?_)
      dsimp only
      refine ys_keepParts (fun kp1 hkp1 => ?_)
      dsimp only
      refine br_f (by decide) ?_
      unfold wY_common_43
      refine ys_split ha hok (fun L2 wh td yr yq pt hF2 hpt2 => ?_)
      have eL := fd_Fac_u hF1 hF2
      subst eL
      dsimp only
      refine ys_clearMade (fun md1 hmd => ?_)
      dsimp only
      refine br_t (nI_pos' (by omega)) ?_
      have hLB := fd_Fac_LB hf hF1
      have hG : (fd_gs L1 (fd_prod L1) L1.length).2 = fd_prod L1 := by rw [fd_gs_self hF1.1 _ (Nat.le_refl _), List.take_length]
      have hGC : fd_GC (fd_reg rg a) (fd_reg rg b) (fd_prod L1) := Or.inr (Or.inr (Or.inl ⟨hfz, hgz, L1, hF1, rfl⟩))
      obtain ⟨b1, b2⟩ := fd_GC_b hf hg hGC
      exact ys_com60 (c := 1) hd (by decide) hF1.2.2.1 hF1.2.2.1 hLB hLB (fd_AL_copy hpt1 hF1.2.2.1 hkp1) hpt2 (fd_sm_1 _).symm hG b1 b2 hmd (fun md r rg' hK => H _ r rg' hGC hK _ _ _ _ _ _ _ _ _ _)
    · have hgz := fd_D_nz hD2
      unfold wY_common_25
      refine ys_split ha hok (fun L1 wh td yr yq pt hF1 hpt1 => ?_)
      dsimp only
      refine ys_keepParts (fun kp1 hkp1 => ?_)
      dsimp only
      refine br_t (nI_pos' (by omega)) ?_
      unfold wY_common_43
      refine ys_split hb hok (fun L2 wh td yr yq pt hF2 hpt2 => ?_)
      dsimp only
      refine ys_clearMade (fun md1 hmd => ?_)
      dsimp only
      refine br_t (nI_pos' (by omega)) ?_
      obtain ⟨c, hc, ec⟩ := hF2.2.2.2.2 hgz
      have hGC : fd_GC (fd_reg rg a) (fd_reg rg b) (fd_gs L1 (fd_reg rg b) L1.length).2 := Or.inr (Or.inr (Or.inr ⟨hfz, hgz, L1, hF1, rfl⟩))
      obtain ⟨b1, b2⟩ := fd_GC_b hf hg hGC
      exact ys_com60 hd hc hF1.2.2.1 hF2.2.2.1 (fd_Fac_LB hf hF1) (fd_Fac_LB hg hF2) (fd_AL_copy hpt1 hF1.2.2.1 hkp1) hpt2 ec rfl b1 b2 hmd (fun md r rg' hK => H _ r rg' hGC hK _ _ _ _ _ _ _ _ _ _)
end
