/-! registers, keeping a result -/
theorem fd_fill32 (W : Nat → Int32 → (Nat → Int32) → Prop) (N o : Nat) (g a0 : Nat → Int32)
    (hx : ∀ n a, (∀ j, j < N → a (o + j) = g j) → (∀ j, (j < o ∨ o + N ≤ j) → a j = a0 j) → W (n + 1) (nI N) a)
    (hs : ∀ n i a, i < N → (∀ j, (j < o ∨ o + i ≤ j) → a j = a0 j) → W n (nI (i + 1)) (upd a (o + i) (g i)) → W (n + 1) (nI i) a) : ∃ n, W n (nI 0) a0 := by
  have key : ∀ k i a, i + k = N → (∀ j, j < i → a (o + j) = g j) → (∀ j, (j < o ∨ o + i ≤ j) → a j = a0 j) → W (k + 1) (nI i) a := by
    intro k
    induction k with
    | zero =>
      intro i a hi h1 h2
      have e : i = N := by omega
      subst e
      exact hx 0 a h1 h2
    | succ k ih =>
      intro i a hi h1 h2
      refine hs (k + 1) i a (by omega) h2 (ih (i + 1) _ (by omega) (fun j hj => ?_) (fun j hj => ?_))
      · by_cases e : j = i
        · subst e; exact fd_us
        · rw [fd_un (by omega)]; exact h1 j (by omega)
      · rw [fd_un (by omega)]; exact h2 j (by omega)
  exact ⟨N + 1, key N 0 a0 (by omega) (fun j hj => absurd hj (Nat.not_lt_zero j)) (fun j _ => rfl)⟩
theorem fd_r4 (x : Int32) : (∃ r, r < 4 ∧ x = nI r) ∨ (x < 0 ∨ 4 ≤ x) := by
  by_cases h0 : x < 0
  · exact Or.inr (Or.inl h0)
  · by_cases h4 : 4 ≤ x
    · exact Or.inr (Or.inr h4)
    · obtain ⟨j, hj, e⟩ := nI_of h0
      subst e
      refine Or.inl ⟨j, ?_, rfl⟩
      have : ¬ nI 4 ≤ nI j := h4
      rw [nI_leI (by decide) hj] at this
      omega
theorem fd_34 (x : Int32) : (3 < x) ↔ (4 ≤ x) := by
  rw [Int32.lt_iff_toInt_lt, Int32.le_iff_toInt_le]
  have h3 : (3 : Int32).toInt = 3 := by decide
  have h4 : (4 : Int32).toInt = 4 := by decide
  rw [h3, h4]; omega
theorem xs_reg {post : Int32 → Prop} {r : Nat} (hr : r < 4) (H : post 1) : wpX_isRegister post (nI r) :=
  br_f (nI_pos (by omega)) (br_f (nI_ge (b := 4) hr (by decide)) H)
theorem xs_nreg {post : Int32 → Prop} {x : Int32} (h : x < 0 ∨ 4 ≤ x) (H : post 0) : wpX_isRegister post x :=
  br_c (fun _ => H) (fun z => br_t (h.resolve_left z) H)
section
variable {cn ot : Int32} {rg : Nat → Int32} {md wh td yr yq pt kp : Nat → Int64} {dg : Nat → Int32}
theorem ys_nreg {post : Int32 → Prop} {x : Int32} (h : x < 0 ∨ 4 ≤ x) (H : post 0) : wpY_isRegister post (cn, ot, rg, md, wh, td, yr, yq, pt, kp, dg) x :=
  br_c (fun _ => H) (fun z => br_t ((fd_34 x).mpr (h.resolve_left z)) H)
end
/-- what keeping f in register d does: the answer and the registers -/
def fd_K (he : Nat → Int32) (d : Nat) (f : Nat → Int) (r : Int32) (he' : Nat → Int32) : Prop := (¬ fd_H0 f ∧ r = -1001 ∧ he' = he) ∨ (fd_H0 f ∧ (∀ i, i < 6 → he' (d * 6 + i) = fd_i (f i)) ∧ (∀ j, (j < d * 6 ∨ d * 6 + 6 ≤ j) → he' j = he j) ∧ ((f = fd_z ∧ r = -1) ∨ ∃ e, e < 6 ∧ fd_D f e ∧ r = nI e))
theorem fd_K_u {he h1 h2 : Nat → Int32} {d : Nat} {f : Nat → Int} {r1 r2 : Int32} (k1 : fd_K he d f r1 h1) (k2 : fd_K he d f r2 h2) : r2 = r1 ∧ h1 = h2 := by
  rcases k1 with ⟨a1, a2, a3⟩ | ⟨a1, a2, a3, a4⟩
  · rcases k2 with ⟨b1, b2, b3⟩ | ⟨b1, _⟩
    · exact ⟨by rw [a2, b2], by rw [a3, b3]⟩
    · exact absurd b1 a1
  · rcases k2 with ⟨b1, _⟩ | ⟨b1, b2, b3, b4⟩
    · exact absurd a1 b1
    · refine ⟨?_, funext fun j => ?_⟩
      · rcases a4 with ⟨z, e⟩ | ⟨e, _, hD, e2⟩
        · rcases b4 with ⟨_, e'⟩ | ⟨_, _, hD', _⟩
          · rw [e, e']
          · exact absurd z (fd_D_nz hD')
        · rcases b4 with ⟨z, _⟩ | ⟨e', _, hD', e2'⟩
          · exact absurd z (fd_D_nz hD)
          · rw [e2, e2', fd_D_u hD hD']
      · by_cases hj : j < d * 6 ∨ d * 6 + 6 ≤ j
        · rw [a3 j hj, b3 j hj]
        · have e : j = d * 6 + (j - d * 6) := by omega
          rw [e, a2 _ (by omega), b2 _ (by omega)]
theorem fd_K_ok {he he' : Nat → Int32} {d : Nat} {f : Nat → Int} {r : Int32} (hok : fd_ok he) (k : fd_K he d f r he') : fd_ok he' := by
  rcases k with ⟨_, _, a3⟩ | ⟨a1, a2, a3, _⟩
  · rw [a3]; exact hok
  · intro j hj
    by_cases h : j < d * 6 ∨ d * 6 + 6 ≤ j
    · rw [a3 j h]; exact hok j hj
    · have e : j = d * 6 + (j - d * 6) := by omega
      rw [e, a2 _ (by omega), fd_i_toInt (fd_k_lit (by have := a1.1 (j - d * 6); omega))]
      exact a1.1 _
theorem fd_l_m20 : fd_l (-20) = -20 := by decide
theorem xs_keepResult {post : Int32 → SX → Prop} {fc : Int32} {he : Nat → Int32} {re op qu rs wk fo : Nat → Int64} {d : Nat} {f : Nat → Int} (hd : d < 4) (hR : fd_R re f) (hB : fd_B f 4611686018427387904) (hL : fd_L f 5) (H : ∀ r he', fd_K he d f r he' → post r (fc, he', re, op, qu, rs, wk, fo)) : wpX_keepResult post (fc, he, re, op, qu, rs, wk, fo) (nI d) := by
  have hs : ∀ i, fd_s (f i) := fun i => fd_s_of (hB i) (Nat.le_refl _)
  refine fd_upl (fun n x => wX_keepResult_2 post (nI d) fc he re op qu rs wk fo n x) (fun j => -20 ≤ f j ∧ f j ≤ 20) 6 (fun h n => ?_) (fun n i hi h hW => ?_)
  · have h0 : fd_H0 f := ⟨fun i => by
      by_cases hi : i < 6
      · exact h i hi
      · rw [hL i (by omega)]; omega, hL⟩
    refine br_t (nI_le (Nat.le_refl 6) (by decide)) (fd_fill32 (fun n x t => wX_keepResult_46 post (nI d) fc n x t re op qu rs wk fo) 6 (d * 6) (fun i => fd_i (f i)) he (fun n t h1 h2 => ?_) (fun n i t hi _ hW => ?_))
    · exact br_t (nI_le (Nat.le_refl 6) (by decide)) (xs_deg_result hR hB (Nat.le_refl _) hL (fun hz => H _ t (Or.inr ⟨h0, h1, h2, Or.inl ⟨hz, rfl⟩⟩)) (fun e he hD => H _ t (Or.inr ⟨h0, h1, h2, Or.inr ⟨e, he, hD, rfl⟩⟩)))
    · exact br_f (nI_ge (b := 6) hi (by decide)) ⟨vp_in_nI hi (by decide), by rw [fd_ixX]; exact vp_in_nI (by omega) (by decide), nm_r (by rw [fd_ixX, nI_clamp (by omega), nI_clamp (by omega), hR i hi, fd_l_i]) (nm_r (nI_1 i) hW)⟩
  · have hfull : ¬ (-20 ≤ f i ∧ f i ≤ 20) → post (-1001) (fc, he, re, op, qu, rs, wk, fo) := fun hn => H _ he (Or.inl ⟨fun h0 => hn (h0.1 i), rfl, rfl⟩)
    refine br_f (nI_ge (b := 6) hi (by decide)) ⟨vp_in_nI hi (by decide), ?_⟩
    rw [nI_clamp (by omega), hR i hi]
    have l1 : (fd_l (f i) < -20) ↔ f i < -20 := by rw [← fd_l_m20]; exact fd_l_lt (b := -20) (hs i) (fd_s_lit (by decide))
    have l2 : (fd_l (f i) ≤ 20) ↔ f i ≤ 20 := fd_l_le (b := 20) (hs i) (fd_s_lit (by decide))
    refine br_c (fun z => hfull (by have := l1.mp z; omega)) (fun z => ⟨vp_in_nI hi (by decide), br_c (fun w => nm_r (nI_1 i) (hW ?_)) (fun w => hfull (by have : ¬ f i ≤ 20 := fun e => w (l2.mpr e); omega))⟩)
    have h1 : ¬ f i < -20 := fun e => z (l1.mpr e)
    have h2 := l2.mp w
    omega
/-- eleven coefficients -/
def fd_R11 (a : Nat → Int64) (f : Nat → Int) : Prop := ∀ i, i < 11 → a i = fd_l (f i)
theorem fd_56 {i : Nat} (hi : i < 11) : (nI i ≤ 5) ↔ i ≤ 5 := nI_leI (b := 5) (by omega) (by decide)
theorem fd_reg_K {he' : Nat → Int32} {d : Nat} {f : Nat → Int} (h0 : fd_H0 f) (h1 : ∀ i, i < 6 → he' (d * 6 + i) = fd_i (f i)) : fd_reg he' d = f := by
  funext i
  simp only [fd_reg]
  by_cases hi : i < 6
  · rw [if_pos hi, h1 i hi, fd_i_toInt (fd_k_lit (by have := h0.1 i; omega))]
  · rw [if_neg hi, h0.2 i (by omega)]
theorem ys_keep {post : Int32 → SY → Prop} {cn ot : Int32} {rg : Nat → Int32} {md wh td yr yq pt kp : Nat → Int64} {dg : Nat → Int32} {d : Nat} {f : Nat → Int} (hd : d < 4) (hR : fd_R11 md f) (hB : fd_B f 4611686018427387904) (hL : fd_L f 10) (H : ∀ r rg', fd_K rg d f r rg' → post r (cn, ot, rg', md, wh, td, yr, yq, pt, kp, dg)) : wpY_keep post (cn, ot, rg, md, wh, td, yr, yq, pt, kp, dg) (nI d) := by
  have hs : ∀ i, fd_s (f i) := fun i => fd_s_of (hB i) (Nat.le_refl _)
  refine fd_upl (fun n x => wY_keep_2 post (nI d) cn ot rg md wh td yr yq pt kp dg n x) (fun j => (-20 ≤ f j ∧ f j ≤ 20) ∧ (5 < j → f j = 0)) 11 (fun h n => ?_) (fun n i hi h hW => ?_)
  · have h0 : fd_H0 f := ⟨fun i => by
      by_cases hi : i < 11
      · exact (h i hi).1
      · rw [hL i (by omega)]; omega, fun j hj => by
      by_cases hj11 : j < 11
      · exact (h j hj11).2 hj
      · exact hL j (by omega)⟩
    refine br_t (nI_le (Nat.le_refl 11) (by decide)) (fd_fill32 (fun n x t => wY_keep_62 post (nI d) cn ot n x t md wh td yr yq pt kp dg) 6 (d * 6) (fun i => fd_i (f i)) rg (fun n t h1 h2 => ?_) (fun n i t hi _ hW => ?_))
    · have e := fd_reg_K h0 h1
      exact br_t (nI_le (Nat.le_refl 6) (by decide)) (ys_degree hd (fun hz => H _ t (Or.inr ⟨h0, h1, h2, Or.inl ⟨by rw [← e]; exact hz, rfl⟩⟩)) (fun e' he hD => H _ t (Or.inr ⟨h0, h1, h2, Or.inr ⟨e', he, by rw [← e]; exact hD, rfl⟩⟩)))
    · exact br_f (nI_ge (b := 6) hi (by decide)) ⟨vp_in_nI (by omega) (by decide), by rw [fd_ixZ]; exact vp_in_nI (by omega) (by decide), nm_r (by rw [fd_ixZ, nI_clamp (by omega), nI_clamp (by omega), hR i (by omega), fd_l_i]) (nm_r (nI_1 i) hW)⟩
  · have hfull : ¬ ((-20 ≤ f i ∧ f i ≤ 20) ∧ (5 < i → f i = 0)) → post (-1001) (cn, ot, rg, md, wh, td, yr, yq, pt, kp, dg) := fun hn => H _ rg (Or.inl ⟨fun h0 => hn ⟨h0.1 i, fun h5 => h0.2 i h5⟩, rfl, rfl⟩)
    refine br_f (nI_ge (b := 11) hi (by decide)) ⟨vp_in_nI hi (by decide), ?_⟩
    rw [nI_clamp (by omega), hR i hi]
    have l1 : (fd_l (f i) < -20) ↔ f i < -20 := by rw [← fd_l_m20]; exact fd_l_lt (b := -20) (hs i) (fd_s_lit (by decide))
    have l2 : (20 < fd_l (f i)) ↔ 20 < f i := fd_l_lt (a := 20) (fd_s_lit (by decide)) (hs i)
    refine br_c (fun z => hfull (by have := l1.mp z; omega)) (fun z => ⟨vp_in_nI hi (by decide), br_c (fun w => hfull (by have := l2.mp w; omega)) (fun w => ?_)⟩)
    have h1 : ¬ f i < -20 := fun e => z (l1.mpr e)
    have h2 : ¬ 20 < f i := fun e => w (l2.mpr e)
    refine br_c (fun v => nm_r (nI_1 i) (hW ⟨by omega, fun h5 => absurd ((fd_56 hi).mp v) (by omega)⟩)) (fun v => ⟨vp_in_nI hi (by decide), br_c (fun y => nm_r (nI_1 i) (hW ⟨by omega, fun _ => (fd_l_z (hs i)).mp y⟩)) (fun y => hfull fun hh => y ((fd_l_z (hs i)).mpr (hh.2 ?_)))⟩)
    have : ¬ i ≤ 5 := fun e => v ((fd_56 hi).mpr e)
    omega
/-! the relation -/
/-- both hold the same registers, and each coefficient is within -20 .. 20; all else is work space -/
def i_Rel (k : Nat) (u : SX) (v : SY) : Prop := u.2.1 = v.2.2.1 ∧ fd_ok u.2.1
theorem i_up {k : Nat} {u : SX} {v : SY} (h : i_Rel k u v) : i_Rel (k + 5) u v := h
theorem i_vc0 : wpX_init (fun u => wpY_init (fun v => i_Rel 0 u v)) := ⟨rfl, fun j _ => by
  show -20 ≤ (0 : Int32).toInt ∧ (0 : Int32).toInt ≤ 20
  decide⟩
theorem fd_r6 (x : Int32) : (∃ r, r < 6 ∧ x = nI r) ∨ (x < 0 ∨ 6 ≤ x) := by
  by_cases h0 : x < 0
  · exact Or.inr (Or.inl h0)
  · by_cases h4 : 6 ≤ x
    · exact Or.inr (Or.inr h4)
    · obtain ⟨j, hj, e⟩ := nI_of h0
      subst e
      refine Or.inl ⟨j, ?_, rfl⟩
      have : ¬ nI 6 ≤ nI j := h4
      rw [nI_leI (by decide) hj] at this
      omega
theorem fd_56x (x : Int32) : (5 < x) ↔ (6 ≤ x) := by
  rw [Int32.lt_iff_toInt_lt, Int32.le_iff_toInt_le]
  have h3 : (5 : Int32).toInt = 5 := by decide
  have h4 : (6 : Int32).toInt = 6 := by decide
  rw [h3, h4]; omega
theorem xs_pow {post : Int32 → Prop} {r : Nat} (hr : r < 6) (H : post 1) : wpX_isPower post (nI r) :=
  br_f (nI_pos (by omega)) (br_f (nI_ge (b := 6) hr (by decide)) H)
theorem xs_npow {post : Int32 → Prop} {x : Int32} (h : x < 0 ∨ 6 ≤ x) (H : post 0) : wpX_isPower post x :=
  br_c (fun _ => H) (fun z => br_t (h.resolve_left z) H)
theorem fd_in24 {r i : Nat} (hr : r < 4) (hi : i < 6) : vp_in (nI (r * 6 + i)) 24 := vp_in_nI (by omega) (by decide)
theorem i_vc_set {k : Nat} {u : SX} {v : SY} (I : i_Rel k u v) (hk : k + 5 ≤ 2560) (v1 : Int32) (v2 : Int32) (v3 : Int32) : wpX_set (fun r u' => wpY_set (fun r' v' => r' = r ∧ i_Rel (k + 5) u' v') v v1 v2 v3) u v1 v2 v3 := by
  obtain ⟨fc, he, re, op, qu, rs, wk, fo⟩ := u
  obtain ⟨cn, ot, rg, md, wh, td, yr, yq, pt, kp, dg⟩ := v
  obtain ⟨e, hok⟩ := I
  dsimp only at e hok
  subst e
  unfold wpX_set wpY_set
  dsimp only
  rcases fd_r4 v1 with ⟨r, hr, e⟩ | h1
  · subst e
    refine xs_reg hr (br_f (by decide) ?_)
    rcases fd_r6 v2 with ⟨i, hi, e⟩ | h2
    · subst e
      have h5 : ¬ (5 : Int32) < nI i := fun z => (nI_ge (b := 6) hi (by decide)) ((fd_56x _).mp z)
      have hin : vp_in (nI r * 6 + nI i) 24 := by rw [fd_ixX]; exact fd_in24 hr hi
      have hin' : vp_in (6 * nI r + nI i) 24 := by rw [fd_ixZ]; exact fd_in24 hr hi
      refine xs_pow hi (br_f (by decide) (br_c (fun z => ys_isRegister hr (br_f (by decide) (br_f (nI_pos (by omega)) (br_f h5 (br_t z ⟨rfl, rfl, hok⟩))))) (fun z => br_c (fun w => ⟨hin, fun a ea => ?_⟩) (fun w => ys_isRegister hr (br_f (by decide) (br_f (nI_pos (by omega)) (br_f h5 (br_f z (br_f w ⟨rfl, rfl, hok⟩)))))))))
      refine ys_isRegister hr (br_f (by decide) (br_f (nI_pos (by omega)) (br_f h5 (br_f z (br_t w ⟨hin', fun b eb => ⟨rfl, ?_, ?_⟩⟩)))))
      · show a = b
        rw [ea, eb, fd_ixX, fd_ixZ]
      · show fd_ok a
        intro j hj
        rw [ea, fd_ixX, nI_clamp (by omega)]
        by_cases ej : j = r * 6 + i
        · rw [ej, fd_us]
          have a1 := Int32.le_iff_toInt_le.mp w
          have a2 : ¬ v3.toInt < (-20 : Int32).toInt := fun y => z (Int32.lt_iff_toInt_lt.mpr y)
          have h3 : (20 : Int32).toInt = 20 := by decide
          have h4 : (-20 : Int32).toInt = -20 := by decide
          rw [h3] at a1
          rw [h4] at a2
          omega
        · rw [fd_un ej]; exact hok j hj
    · refine xs_npow h2 (br_t rfl (ys_isRegister hr (br_f (by decide) (br_c (fun _ => ⟨rfl, rfl, hok⟩) (fun z => br_t ((fd_56x _).mpr (h2.resolve_left z)) ⟨rfl, rfl, hok⟩)))))
  · exact xs_nreg h1 (br_t rfl (ys_nreg h1 (br_t rfl ⟨rfl, rfl, hok⟩)))
theorem i_vc_get {k : Nat} {u : SX} {v : SY} (I : i_Rel k u v) (hk : k + 5 ≤ 2560) (v1 : Int32) (v2 : Int32) : wpX_get (fun r => wpY_get (fun r' => r' = r ∧ i_Rel (k + 5) u v) v v1 v2) u v1 v2 := by
  obtain ⟨fc, he, re, op, qu, rs, wk, fo⟩ := u
  obtain ⟨cn, ot, rg, md, wh, td, yr, yq, pt, kp, dg⟩ := v
  obtain ⟨e, hok⟩ := I
  dsimp only at e hok
  subst e
  unfold wpX_get wpY_get
  dsimp only
  rcases fd_r4 v1 with ⟨r, hr, e⟩ | h1
  · subst e
    refine xs_reg hr (br_f (by decide) ?_)
    rcases fd_r6 v2 with ⟨i, hi, e⟩ | h2
    · subst e
      have h5 : ¬ (5 : Int32) < nI i := fun z => (nI_ge (b := 6) hi (by decide)) ((fd_56x _).mp z)
      refine xs_pow hi (br_f (by decide) ⟨by rw [fd_ixX]; exact fd_in24 hr hi, ys_isRegister hr (br_f (by decide) (br_f (nI_pos (by omega)) (br_f h5 ⟨by rw [fd_ixZ]; exact fd_in24 hr hi, by rw [fd_ixX, fd_ixZ], rfl, hok⟩)))⟩)
    · exact xs_npow h2 (br_t rfl (ys_isRegister hr (br_f (by decide) (br_c (fun _ => ⟨rfl, rfl, hok⟩) (fun z => br_t ((fd_56x _).mpr (h2.resolve_left z)) ⟨rfl, rfl, hok⟩)))))
  · exact xs_nreg h1 (br_t rfl (ys_nreg h1 (br_t rfl ⟨rfl, rfl, hok⟩)))
theorem i_vc_degree {k : Nat} {u : SX} {v : SY} (I : i_Rel k u v) (hk : k + 5 ≤ 2560) (v1 : Int32) : wpX_degree (fun r u' => wpY_degree (fun r' => r' = r ∧ i_Rel (k + 5) u' v) v v1) u v1 := by
  obtain ⟨fc, he, re, op, qu, rs, wk, fo⟩ := u
  obtain ⟨cn, ot, rg, md, wh, td, yr, yq, pt, kp, dg⟩ := v
  obtain ⟨e, hok⟩ := I
  dsimp only at e hok
  subst e
  unfold wpX_degree
  dsimp only
  rcases fd_r4 v1 with ⟨r, hr, e⟩ | h1
  · subst e
    refine xs_reg hr (br_f (by decide) (xs_load_result hr (fun re1 hre => ?_)))
    dsimp only
    have h0 := fd_reg_H0 hok hr
    refine xs_deg_result (fd_reg_R hre) (fd_H0_B h0) (by decide) h0.2 (fun hz => ?_) (fun d hd hD => ?_)
    · exact ys_degree hr (fun _ => ⟨rfl, rfl, hok⟩) (fun d' _ hD' => absurd hz (fd_D_nz hD'))
    · exact ys_degree hr (fun hz => absurd hz (fd_D_nz hD)) (fun d' _ hD' => ⟨by rw [fd_D_u hD hD'], rfl, hok⟩)
  · refine xs_nreg h1 (br_t rfl ?_)
    unfold wpY_degree
    dsimp only
    exact ys_nreg h1 (br_t rfl ⟨rfl, rfl, hok⟩)
