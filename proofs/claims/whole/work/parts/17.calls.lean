/-! at, rootsModulo, content, factors, factor -/
theorem xs_valueAt {post : Int64 → Prop} {fc : Int32} {he : Nat → Int32} {re op qu rs wk fo : Nat → Int64} {r : Nat} {x : Int} (hr : r < 4) (hx : fd_k x) (H : post (fd_l (fd_ev (fd_reg he r) x 6 0))) : wpX_valueAt post (fc, he, re, op, qu, rs, wk, fo) (nI r) (fd_i x) := by
  have key : ∀ (k : Nat) (v : Int), k ≤ 6 → post (fd_l (fd_ev (fd_reg he r) x k v)) → wX_valueAt_5 post (nI r) (fd_i x) fc he re op qu rs wk fo (k + 1) (fd_l v) (nI k + (-1)) := by
    intro k
    induction k with
    | zero => intro v _ h; exact br_t (by decide) h
    | succ k ih =>
      intro v hk h
      rw [fd_m1]
      refine br_f (nI_pos (by omega)) ⟨by rw [fd_ixX]; exact vp_in_nI (by omega) (by decide), nm_r (e' := fd_l (v * x + fd_reg he r k)) ?_ (nm_e (ih _ (by omega) h))⟩
      rw [fd_ixX, nI_clamp (by omega), fd_i_l hx, fd_of32, fd_l_mul, fd_l_add]
      simp only [fd_reg]; rw [if_pos (by omega)]
  exact ⟨7, key 6 0 (Nat.le_refl 6) H⟩
theorem ys_at {post : Int64 → Prop} {cn ot : Int32} {rg : Nat → Int32} {md wh td yr yq pt kp : Nat → Int64} {dg : Nat → Int32} {r : Nat} {x : Int} (hr : r < 4) (hx1 : -1000 ≤ x) (hx2 : x ≤ 1000) (H : post (fd_l (fd_ev (fd_reg rg r) x 6 0))) : wpY_at post (cn, ot, rg, md, wh, td, yr, yq, pt, kp, dg) (nI r) (fd_i x) := by
  have hx : fd_k x := fd_k_lit (by omega)
  have key : ∀ (k : Nat) (v : Int), k ≤ 6 → post (fd_l (fd_ev (fd_reg rg r) x k v)) → wY_at_29 post (nI r) (fd_i x) cn ot rg md wh td yr yq pt kp dg (k + 1) (fd_l v) (nI k + (-1)) := by
    intro k
    induction k with
    | zero => intro v _ h; exact br_t (by decide) h
    | succ k ih =>
      intro v hk h
      rw [fd_m1]
      refine br_f (nI_pos (by omega)) ⟨by rw [fd_ixZ]; exact vp_in_nI (by omega) (by decide), nm_r (e' := fd_l (v * x + fd_reg rg r k)) ?_ (nm_e (ih _ (by omega) h))⟩
      rw [fd_ixZ, nI_clamp (by omega), fd_i_l hx, fd_of32, fd_l_mul, fd_l_add]
      simp only [fd_reg]; rw [if_pos (by omega)]
  have hm : fd_i (-1000) = -1000 := by decide
  have hp : fd_i 1000 = 1000 := by decide
  unfold wpY_at
  dsimp only
  refine ys_isRegister hr (br_f (by decide) (br_f (fun z => ?_) (br_t ?_ ⟨7, key 6 0 (Nat.le_refl 6) H⟩)))
  · rw [← hm, fd_i_lt hx (fd_k_lit (by decide))] at z; omega
  · rw [← hp, fd_i_le hx (fd_k_lit (by decide))]; exact hx2
theorem i_vc_at {k : Nat} {u : SX} {v : SY} (I : i_Rel k u v) (hk : k + 5 ≤ 2560) (v1 : Int32) (v2 : Int32) : wpX_at (fun r => wpY_at (fun r' => r' = r ∧ i_Rel (k + 5) u v) v v1 v2) u v1 v2 := by
  obtain ⟨fc, he, re, op, qu, rs, wk, fo⟩ := u
  obtain ⟨cn, ot, rg, md, wh, td, yr, yq, pt, kp, dg⟩ := v
  obtain ⟨e, hok⟩ := I
  dsimp only at e hok
  subst e
  unfold wpX_at
  dsimp only
  rcases fd_r4 v1 with ⟨r, hr, e⟩ | h1
  · subst e
    refine xs_reg hr (br_f (by decide) (br_c (fun z => ?_) (fun z => br_c (fun w => ?_) (fun w => ?_))))
    · unfold wpY_at
      dsimp only
      exact ys_isRegister hr (br_f (by decide) (br_t z ⟨rfl, rfl, hok⟩))
    · have a1 := Int32.le_iff_toInt_le.mp w
      have a2 : ¬ v2.toInt < (-1000 : Int32).toInt := fun y => z (Int32.lt_iff_toInt_lt.mpr y)
      have h3 : (1000 : Int32).toInt = 1000 := by decide
      have h4 : (-1000 : Int32).toInt = -1000 := by decide
      rw [h3] at a1
      rw [h4] at a2
      rw [← fd_i_of v2]
      exact xs_valueAt hr (fd_k_lit (by omega)) (ys_at hr (by omega) a1 ⟨rfl, rfl, hok⟩)
    · unfold wpY_at
      dsimp only
      exact ys_isRegister hr (br_f (by decide) (br_f z (br_f w ⟨rfl, rfl, hok⟩)))
  · refine xs_nreg h1 (br_t rfl ?_)
    unfold wpY_at
    dsimp only
    exact ys_nreg h1 (br_t rfl ⟨rfl, rfl, hok⟩)
theorem fd_ev_B {f : Nat → Int} (hf : fd_B f 20) {x : Int} (hx : x.natAbs ≤ 7) : ∀ (n : Nat) (v : Int) (V : Nat), v.natAbs ≤ V → (fd_ev f x n v).natAbs ≤ (V + 20 * n) * 7 ^ n := by
  intro n
  induction n with
  | zero => intro v V h; simpa [fd_ev] using h
  | succ n ih =>
    intro v V h
    rw [fd_ev]
    have h1 : (v * x).natAbs ≤ V * 7 := by rw [Int.natAbs_mul]; exact Nat.mul_le_mul h hx
    have h2 := hf n
    have h3 := ih (v * x + f n) (V * 7 + 20) (by omega)
    refine Nat.le_trans h3 ?_
    rw [Nat.pow_succ, ← Nat.mul_assoc, Nat.mul_right_comm]
    exact Nat.mul_le_mul_right _ (by omega)
def fd_cn (p : Int) (val : Nat → Int) : Nat → Nat → Nat
  | _, 0 => 0
  | x, k + 1 => (if p ∣ val x then 1 else 0) + fd_cn p val (x + 1) k
theorem fd_mod4 {post : Int32 → Prop} {x : Int32} (H1 : ∀ p : Nat, (p = 2 ∨ p = 3 ∨ p = 5 ∨ p = 7) → x = nI p → post 1) (H0 : ¬ x = 2 → ¬ x = 3 → ¬ x = 5 → ¬ x = 7 → post 0) : wpX_isModulus post x :=
  br_c (fun z => H1 2 (by omega) z) (fun z2 => br_c (fun z => H1 3 (by omega) z) (fun z3 => br_c (fun z => H1 5 (by omega) z) (fun z5 => br_c (fun z => H1 7 (by omega) z) (fun z7 => H0 z2 z3 z5 z7))))
section
variable {cn ot : Int32} {rg : Nat → Int32} {md wh td yr yq pt kp : Nat → Int64} {dg : Nat → Int32}
theorem ys_prime {post : Int32 → Prop} {p : Nat} (hp : p = 2 ∨ p = 3 ∨ p = 5 ∨ p = 7) (H : post 1) : wpY_isPrime post (cn, ot, rg, md, wh, td, yr, yq, pt, kp, dg) (nI p) :=
  br_c (fun _ => H) (fun z2 => br_c (fun _ => H) (fun z3 => br_c (fun _ => H) (fun z5 => br_c (fun _ => H) (fun z7 => by
    rcases hp with e | e | e | e
    · subst e; exact absurd rfl z2
    · subst e; exact absurd rfl z3
    · subst e; exact absurd rfl z5
    · subst e; exact absurd rfl z7))))
theorem ys_nprime {post : Int32 → Prop} {x : Int32} (h2 : ¬ x = 2) (h3 : ¬ x = 3) (h5 : ¬ x = 5) (h7 : ¬ x = 7) (H : post 0) : wpY_isPrime post (cn, ot, rg, md, wh, td, yr, yq, pt, kp, dg) x :=
  br_f h2 (br_f h3 (br_f h5 (br_f h7 H)))
end
theorem i_vc_rootsModulo {k : Nat} {u : SX} {v : SY} (I : i_Rel k u v) (hk : k + 5 ≤ 2560) (v1 : Int32) (v2 : Int32) : wpX_rootsModulo (fun r => wpY_rootsModulo (fun r' => r' = r ∧ i_Rel (k + 5) u v) v v1 v2) u v1 v2 := by
  obtain ⟨fc, he, re, op, qu, rs, wk, fo⟩ := u
  obtain ⟨cn, ot, rg, md, wh, td, yr, yq, pt, kp, dg⟩ := v
  obtain ⟨e, hok⟩ := I
  dsimp only at e hok
  subst e
  unfold wpX_rootsModulo wpY_rootsModulo
  dsimp only
  rcases fd_r4 v1 with ⟨r, hr, e⟩ | h1
  · subst e
    have h0 := fd_reg_H0 hok hr
    refine xs_reg hr (br_f (by decide) (fd_mod4 (fun p hp ep => br_f (by decide) ?_) (fun h2 h3 h5 h7 => br_t rfl (ys_isRegister hr (br_f (by decide) (ys_nprime h2 h3 h5 h7 (br_t rfl ⟨rfl, rfl, hok⟩)))))))
    subst ep
    have hp7 : p ≤ 7 := by omega
    have hp2 : 2 ≤ p := by omega
    have hps : fd_s (p : Int) := fd_s_lit (by omega)
    have hpz : ¬ fd_l (p : Int) = 0 := fun z => by have := (fd_l_z hps).mp z; omega
    have hvs : ∀ x : Nat, x < 7 → fd_s (fd_ev (fd_reg he r) (x : Int) 6 0) := fun x hx => fd_s_of (fd_ev_B (fd_H0_B h0) (by omega) 6 0 0 (by decide)) (by decide)
    have hX : ∀ (post : Int32 → Prop) (k x c : Nat), x + k = p → post (nI (c + fd_cn p (fun x => fd_ev (fd_reg he r) (x : Int) 6 0) x k)) → wX_rootsModulo_23 post (nI r) (nI p) fc he re op qu rs wk fo (k + 1) (nI c) (nI x) := by
      intro post k
      induction k with
      | zero =>
        intro x c hx h
        have e : x = p := by omega
        subst e
        exact br_t (nI_le (Nat.le_refl x) (by omega)) h
      | succ k ih =>
        intro x c hx h
        rw [fd_cn] at h
        refine br_f (nI_ge (by omega) (by omega)) ?_
        rw [← fd_i_nat x]
        refine xs_valueAt hr (fd_k_lit (by omega)) ⟨by rw [fd_l64n p (by omega)]; exact hpz, ?_⟩
        rw [fd_l64n p (by omega)]
        by_cases hdv : (p : Int) ∣ fd_ev (fd_reg he r) (x : Int) 6 0
        · rw [if_pos hdv] at h
          refine br_t ((fd_l_rem0 (hvs x (by omega)) hps).mpr hdv) (nm_r (nI_1 c) ?_)
          rw [fd_i_nat]
          refine nm_r (nI_1 x) (ih (x + 1) (c + 1) (by omega) ?_)
          rw [Nat.add_assoc]; exact h
        · rw [if_neg hdv, Nat.zero_add] at h
          refine br_f (fun z => hdv ((fd_l_rem0 (hvs x (by omega)) hps).mp z)) ?_
          rw [fd_i_nat]
          exact nm_r (nI_1 x) (ih (x + 1) c (by omega) h)
    have hY : ∀ (post : Int32 → Prop) (k x c : Nat), x + k = p → post (nI (c + fd_cn p (fun x => fd_ev (fd_reg he r) (x : Int) 6 0) x k)) → wY_rootsModulo_25 post (nI r) (nI p) cn ot he md wh td yr yq pt kp dg (k + 1) (nI c) (nI x) := by
      intro post k
      induction k with
      | zero =>
        intro x c hx h
        have e : x = p := by omega
        subst e
        exact br_t (nI_le (Nat.le_refl x) (by omega)) h
      | succ k ih =>
        intro x c hx h
        rw [fd_cn] at h
        refine br_f (nI_ge (by omega) (by omega)) ?_
        rw [← fd_i_nat x]
        refine ys_at hr (by omega) (by omega) (br_t (nI_le (a := 1) (by omega) (by omega)) ?_)
        unfold wY_rootsModulo_48
        rw [fd_l64n p (by omega)]
        refine ⟨hpz, ?_⟩
        by_cases hdv : (p : Int) ∣ fd_ev (fd_reg he r) (x : Int) 6 0
        · rw [if_pos hdv] at h
          refine br_t ((fd_l_rem0 (hvs x (by omega)) hps).mpr hdv) (nm_r (nI_1 c) ?_)
          rw [fd_i_nat]
          refine nm_r (nI_1 x) (ih (x + 1) (c + 1) (by omega) ?_)
          rw [Nat.add_assoc]; exact h
        · rw [if_neg hdv, Nat.zero_add] at h
          refine br_f (fun z => hdv ((fd_l_rem0 (hvs x (by omega)) hps).mp z)) ?_
          rw [fd_i_nat]
          exact nm_r (nI_1 x) (ih (x + 1) c (by omega) h)
    exact ⟨p + 1, hX _ p 0 0 (by omega) (ys_isRegister hr (br_f (by decide) (ys_prime hp (br_f (by decide) ⟨p + 1, hY _ p 0 0 (by omega) ⟨rfl, rfl, hok⟩⟩))))⟩
  · exact xs_nreg h1 (br_t rfl (ys_nreg h1 (br_t rfl ⟨rfl, rfl, hok⟩)))
theorem i_vc_content {k : Nat} {u : SX} {v : SY} (I : i_Rel k u v) (hk : k + 5 ≤ 2560) (v1 : Int32) : wpX_content (fun r u' => wpY_content (fun r' v' => r' = r ∧ i_Rel (k + 5) u' v') v v1) u v1 := by
  obtain ⟨fc, he, re, op, qu, rs, wk, fo⟩ := u
  obtain ⟨cn, ot, rg, md, wh, td, yr, yq, pt, kp, dg⟩ := v
  obtain ⟨e, hok⟩ := I
  dsimp only at e hok
  subst e
  unfold wpX_content wpY_content
  dsimp only
  rcases fd_r4 v1 with ⟨r, hr, e⟩ | h1
  · subst e
    have h0 := fd_reg_H0 hok hr
    refine xs_reg hr (br_f (by decide) (xs_load_result hr (fun re1 hre => ?_)))
    dsimp only
    refine xs_contentOf_result (fd_reg_R hre) h0 (fun hz => ?_) (fun c d hD hc => ?_)
    · refine ys_isRegister hr (br_f (by decide) (ys_take hr (fun wh1 hwh => ?_)))
      dsimp only
      exact ys_deg (fd_reg_R hwh) (fd_H0_B h0) (by decide) h0.2 (fun _ => br_f (by decide) ⟨rfl, rfl, hok⟩) (fun d _ hD => absurd hz (fd_D_nz hD))
    · refine ys_isRegister hr (br_f (by decide) (ys_take hr (fun wh1 hwh => ?_)))
      dsimp only
      refine ys_deg (fd_reg_R hwh) (fd_H0_B h0) (by decide) h0.2 (fun hz => absurd hz (fd_D_nz hD)) (fun d' _ _ => br_t (nI_pos' (by omega)) (ys_bigCommon (fd_reg_R hwh) h0 (fd_D_nz hD) (fun c' hc' => ⟨?_, rfl, hok⟩)))
      rw [fd_cont_u hc hc', fd_l_i, fd_i_nat]
  · exact xs_nreg h1 (br_t rfl (ys_nreg h1 (br_t rfl ⟨rfl, rfl, hok⟩)))
theorem i_vc_factors {k : Nat} {u : SX} {v : SY} (I : i_Rel k u v) (hk : k + 5 ≤ 2560) (v1 : Int32) : wpX_factors (fun r u' => wpY_factors (fun r' v' => r' = r ∧ i_Rel (k + 5) u' v') v v1) u v1 := by
  obtain ⟨fc, he, re, op, qu, rs, wk, fo⟩ := u
  obtain ⟨cn, ot, rg, md, wh, td, yr, yq, pt, kp, dg⟩ := v
  obtain ⟨e, hok⟩ := I
  dsimp only at e hok
  subst e
  unfold wpX_factors wpY_factors
  dsimp only
  rcases fd_r4 v1 with ⟨r, hr, e⟩ | h1
  · subst e
    refine xs_reg hr (br_f (by decide) (xs_findFactors hr hok (fun L op qu rs wk fo hF hfo => ?_)))
    dsimp only
    refine ys_isRegister hr (br_f (by decide) (ys_split hr hok (fun L' wh td yr yq pt hF' hpt => ?_)))
    dsimp only
    exact ⟨by rw [fd_Fac_u hF hF'], rfl, hok⟩
  · exact xs_nreg h1 (br_t rfl (ys_nreg h1 (br_t rfl ⟨rfl, rfl, hok⟩)))
/-- bounds for all of a register's factors -/
theorem fd_Fac_LB {f : Nat → Int} {L : List (Nat → Int)} (h0 : fd_H0 f) (h : fd_Fac f L) : fd_LB L := by
  by_cases hz : f = fd_z
  · rw [h.2.2.2.1 hz]; exact fun p hp => absurd hp List.not_mem_nil
  · obtain ⟨c, hc, e⟩ := h.2.2.2.2 hz
    exact fd_LB_mk ⟨h0.1, h0.2, hz⟩ h.1 ⟨fd_c c, fd_F_c c, by rw [fd_mul_c]; exact e.symm⟩
theorem fd_B_mono {f : Nat → Int} {M N : Nat} (h : fd_B f M) (hMN : M ≤ N) : fd_B f N := fun i => Nat.le_trans (h i) hMN
theorem ys_factor {post : Int32 → SY → Prop} {cn ot : Int32} {rg : Nat → Int32} {md wh td yr yq pt kp : Nat → Int64} {dg : Nat → Int32} {d r : Nat} {v3 : Int32} {L : List (Nat → Int)} (hd : d < 4) (hr : r < 4) (hok : fd_ok rg) (hF : fd_Fac (fd_reg rg r) L)
    (Hn : (v3 < 0 ∨ ¬ v3 < nI L.length) → ∀ cn ot md wh td yr yq pt kp dg, post (-1002) (cn, ot, rg, md, wh, td, yr, yq, pt, kp, dg))
    (H : ∀ j, j < L.length → v3 = nI j → ∀ r rg', fd_K rg d (L.getD j fd_z) r rg' → ∀ cn ot md wh td yr yq pt kp dg, post r (cn, ot, rg', md, wh, td, yr, yq, pt, kp, dg)) : wpY_factor post (cn, ot, rg, md, wh, td, yr, yq, pt, kp, dg) (nI d) (nI r) v3 := by
  unfold wpY_factor
  dsimp only
  refine ys_isRegister hd (br_f (by decide) (ys_isRegister hr (br_f (by decide) (ys_split hr hok (fun L' wh td yr yq pt hF' hpt => ?_)))))
  rw [← fd_Fac_u hF hF'] at hpt ⊢
  dsimp only
  refine br_c (fun z => Hn (Or.inl z) _ _ _ _ _ _ _ _ _ _) (fun z => br_c (fun w => ?_) (fun w => Hn (Or.inr w) _ _ _ _ _ _ _ _ _ _))
  obtain ⟨j, hj, e⟩ := nI_of z
  subst e
  have h0 := fd_reg_H0 hok hr
  have hlen := hF.2.2.1
  have hjL : j < L.length := (nI_ltI hj (by omega)).mp w
  obtain ⟨_, hB, h5⟩ := fd_Fac_LB h0 hF _ (fd_getD_mem hjL)
  have hB' := fd_B_mono hB (by decide : 170000 ≤ 4611686018427387904)
  refine ys_clearMade (fun md1 hmd => ?_)
  dsimp only
  refine fd_fill (fun n x t => wY_factor_48 post (nI d) (nI j) (nI L.length) ot n x rg t wh td yr yq pt kp dg) 6 0 (fun i => pt (j * 6 + i)) md1 (fun n t k1 k2 => ?_) (fun n i t hi _ hW => ?_)
  · refine br_t (nI_le (Nat.le_refl 6) (by decide)) (ys_keep hd (f := L.getD j fd_z) (fun i hi => ?_) hB' (fd_L_mono h5 (by decide)) (fun r2 he2 hK2 => H j hjL rfl r2 he2 hK2 _ _ _ _ _ _ _ _ _ _))
    by_cases h6 : i < 6
    · have := k1 i h6
      rw [Nat.zero_add] at this
      rw [this]; exact hpt j hjL i h6
    · rw [k2 i (by omega), hmd i hi, h5 i (by omega)]; exact fd_l_0.symm
  · exact br_f (nI_ge (b := 6) hi (by decide)) ⟨by rw [fd_ixZ]; exact vp_in_nI (by omega) (by decide), vp_in_nI (by omega) (by decide), nm_r (by rw [fd_ixZ, nI_clamp (by omega), nI_clamp (by omega), Nat.zero_add]) (nm_r (nI_1 i) hW)⟩
theorem i_vc_factor {k : Nat} {u : SX} {v : SY} (I : i_Rel k u v) (hk : k + 5 ≤ 2560) (v1 : Int32) (v2 : Int32) (v3 : Int32) : wpX_factor (fun r u' => wpY_factor (fun r' v' => r' = r ∧ i_Rel (k + 5) u' v') v v1 v2 v3) u v1 v2 v3 := by
  obtain ⟨fc, he, re, op, qu, rs, wk, fo⟩ := u
  obtain ⟨cn, ot, rg, md, wh, td, yr, yq, pt, kp, dg⟩ := v
  obtain ⟨e, hok⟩ := I
  dsimp only at e hok
  subst e
  unfold wpX_factor
  dsimp only
  rcases fd_r4 v1 with ⟨d, hd, e⟩ | h1
  · subst e
    refine xs_reg hd (br_f (by decide) ?_)
    rcases fd_r4 v2 with ⟨r, hr, e⟩ | h2
    · subst e
      have h0 := fd_reg_H0 hok hr
      refine xs_reg hr (br_f (by decide) (xs_findFactors hr hok (fun L op qu rs wk fo hF hfo => ?_)))
      dsimp only
      have hlen := hF.2.2.1
      have hno : (v3 < 0 ∨ ¬ v3 < nI L.length) → wpY_factor (fun r' v' => r' = -1002 ∧ i_Rel (k + 5) (nI L.length, he, re, op, qu, rs, wk, fo) v') (cn, ot, he, md, wh, td, yr, yq, pt, kp, dg) (nI d) (nI r) v3 := fun h => by
        refine ys_factor hd hr hok hF (fun _ cn ot md wh td yr yq pt kp dg => ⟨rfl, rfl, hok⟩) (fun j hj e => ?_)
        subst e
        rcases h with h | h
        · exact absurd h (nI_pos (by omega))
        · exact absurd (nI_lt hj (by omega)) h
      refine br_c (fun z => hno (Or.inl z)) (fun z => br_c (fun w => ?_) (fun w => hno (Or.inr w)))
      obtain ⟨j, hj, e⟩ := nI_of z
      subst e
      have hjL : j < L.length := (nI_ltI hj (by omega)).mp w
      obtain ⟨_, hB, h5⟩ := fd_Fac_LB h0 hF _ (fd_getD_mem hjL)
      have hB' := fd_B_mono hB (by decide : 170000 ≤ 4611686018427387904)
      refine xs_loadFound_result (by omega) (fun re1 hre => ?_)
      dsimp only
      refine xs_keepResult hd (f := L.getD j fd_z) (fun i hi => by rw [hre i hi]; exact hfo j hjL i hi) hB' h5 (fun r1 he1 hK => ?_)
      dsimp only
      refine ys_factor hd hr hok hF (fun h => ?_) (fun j' hj' e r2 he2 hK2 cn ot md wh td yr yq pt kp dg => ?_)
      · rcases h with h | h
        · exact absurd h z
        · exact absurd w h
      · have ej : j = j' := (nI_eq hj (by omega)).mp e
        subst ej
        obtain ⟨e1, e2⟩ := fd_K_u hK hK2
        exact ⟨e1, e2, fd_K_ok hok hK⟩
    · refine xs_nreg h2 (br_t rfl ?_)
      unfold wpY_factor
      dsimp only
      exact ys_isRegister hd (br_f (by decide) (ys_nreg h2 (br_t rfl ⟨rfl, rfl, hok⟩)))
  · refine xs_nreg h1 (br_t rfl ?_)
    unfold wpY_factor
    dsimp only
    exact ys_nreg h1 (br_t rfl ⟨rfl, rfl, hok⟩)
