/-! derive and shift -/
def fd_der (f : Nat → Int) : Nat → Int := fun i => ((i : Int) + 1) * f (i + 1)
theorem fd_der_L {f : Nat → Int} (h : fd_L f 5) : fd_L (fd_der f) 4 := fun j hj => by
  simp only [fd_der]; rw [h (j + 1) (by omega)]; simp
theorem fd_der_B {f : Nat → Int} (h : fd_H0 f) (i : Nat) : (fd_der f i).natAbs ≤ 100 := by
  by_cases hi : i < 5
  · simp only [fd_der]
    rw [Int.natAbs_mul]
    have h1 := h.1 (i + 1)
    have h2 : ((i : Int) + 1).natAbs ≤ 5 := by omega
    have h3 : (f (i + 1)).natAbs ≤ 20 := by omega
    exact Nat.mul_le_mul h2 h3
  · rw [fd_der_L h.2 i (by omega)]; simp
theorem fd_one : (1 : Int32) = nI 0 + 1 := by decide
theorem xs_der36 {post : Int32 → SX → Prop} {fc : Int32} {he : Nat → Int32} {re op qu rs wk fo : Nat → Int64} {d : Nat} {f : Nat → Int} (hd : d < 4) (hre : ∀ i, i < 6 → re i = 0) (hop : fd_R op f) (h0 : fd_H0 f) (H : ∀ re r he', fd_K he d (fd_der f) r he' → post r (fc, he', re, op, qu, rs, wk, fo)) : ∃ n, wX_derive_36 post (nI d) fc n 1 he re op qu rs wk fo := by
  rw [fd_one]
  refine fd_fill (fun n x t => wX_derive_36 post (nI d) fc n (x + 1) he t op qu rs wk fo) 5 0 (fun i => fd_l (fd_der f i)) re (fun n t h1 h2 => ?_) (fun n i t hi _ hW => ?_)
  · refine br_t (nI_le (a := 6) (b := 6) (Nat.le_refl 6) (by decide)) (xs_keepResult hd (f := fd_der f) (fun i hi => ?_) (fun i => Nat.le_trans (fd_der_B h0 i) (by decide)) (fd_L_mono (fd_der_L h0.2) (by decide)) (fun r he' hK => H t r he' hK))
    by_cases h5 : i < 5
    · have := h1 i h5; rwa [Nat.zero_add] at this
    · rw [h2 i (by omega), hre i hi, fd_der_L h0.2 i (by omega)]; exact fd_l_0.symm
  · rw [nI_1] at hW
    rw [nI_1]
    refine br_f (nI_ge (a := i + 1) (b := 6) (by omega) (by decide)) ⟨vp_in_nI (by omega) (by decide), by rw [nI_pred]; exact vp_in_nI (by omega) (by decide), nm_r ?_ (nm_r (nI_1 (i + 1)) hW)⟩
    rw [nI_pred, nI_clamp (by omega), nI_clamp (by omega), Nat.zero_add, hop (i + 1) (by omega), fd_l64n (i + 1) (by omega), fd_l_mul]; rfl
theorem ys_der26 {post : Int32 → SY → Prop} {cn ot : Int32} {rg : Nat → Int32} {md wh td yr yq pt kp : Nat → Int64} {dg : Nat → Int32} {d a : Nat} (hd : d < 4) (ha : a < 4) (hmd : ∀ i, i < 11 → md i = 0) (h0 : fd_H0 (fd_reg rg a)) (H : ∀ md r rg', fd_K rg d (fd_der (fd_reg rg a)) r rg' → post r (cn, ot, rg', md, wh, td, yr, yq, pt, kp, dg)) : ∃ n, wY_derive_26 post (nI d) (nI a) cn ot n 1 rg md wh td yr yq pt kp dg := by
  rw [fd_one]
  refine fd_fill (fun n x t => wY_derive_26 post (nI d) (nI a) cn ot n (x + 1) rg t wh td yr yq pt kp dg) 5 0 (fun i => fd_l (fd_der (fd_reg rg a) i)) md (fun n t h1 h2 => ?_) (fun n i t hi _ hW => ?_)
  · refine br_t (nI_le (a := 6) (b := 6) (Nat.le_refl 6) (by decide)) (ys_keep hd (f := fd_der (fd_reg rg a)) (fun i hi => ?_) (fun i => Nat.le_trans (fd_der_B h0 i) (by decide)) (fd_L_mono (fd_der_L h0.2) (by decide)) (fun r he' hK => H t r he' hK))
    by_cases h5 : i < 5
    · have := h1 i h5; rwa [Nat.zero_add] at this
    · rw [h2 i (by omega), hmd i hi, fd_der_L h0.2 i (by omega)]; exact fd_l_0.symm
  · rw [nI_1] at hW
    rw [nI_1]
    refine br_f (nI_ge (a := i + 1) (b := 6) (by omega) (by decide)) ⟨by rw [fd_ixZ]; exact vp_in_nI (by omega) (by decide), by rw [nI_pred]; exact vp_in_nI (by omega) (by decide), nm_r ?_ (nm_r (nI_1 (i + 1)) hW)⟩
    rw [nI_pred, fd_ixZ, nI_clamp (by omega), nI_clamp (by omega), Nat.zero_add]
    have e : rg (a * 6 + (i + 1)) = fd_i (fd_reg rg a (i + 1)) := by
      simp only [fd_reg]; rw [if_pos (by omega), fd_i_of]
    have hb := fd_der_B h0 i
    rw [e, ← fd_i_nat, fd_i_mul]
    congr 1
    have e2 : ((i + 1 : Nat) : Int) * fd_reg rg a (i + 1) = fd_der (fd_reg rg a) i := by simp only [fd_der]; congr 1
    rw [e2, fd_i_l (fd_k_lit (by omega))]
theorem i_vc_derive {k : Nat} {u : SX} {v : SY} (I : i_Rel k u v) (hk : k + 5 ≤ 2560) (v1 : Int32) (v2 : Int32) : wpX_derive (fun r u' => wpY_derive (fun r' v' => r' = r ∧ i_Rel (k + 5) u' v') v v1 v2) u v1 v2 := by
  obtain ⟨fc, he, re, op, qu, rs, wk, fo⟩ := u
  obtain ⟨cn, ot, rg, md, wh, td, yr, yq, pt, kp, dg⟩ := v
  obtain ⟨e, hok⟩ := I
  dsimp only at e hok
  subst e
  unfold wpX_derive wpY_derive
  dsimp only
  rcases fd_r4 v1 with ⟨d, hd, e⟩ | h1
  · subst e
    refine xs_reg hd (br_f (by decide) ?_)
    rcases fd_r4 v2 with ⟨a, ha, e⟩ | h2
    · subst e
      have h0 := fd_reg_H0 hok ha
      refine xs_reg ha (br_f (by decide) (xs_load_operand ha (fun op1 hop => ?_)))
      dsimp only
      refine xs_clear_result (fun re1 hre => ?_)
      dsimp only
      refine xs_der36 hd hre (fd_reg_R hop) h0 (fun re2 r1 he1 hK => ?_)
      refine ys_isRegister hd (br_f (by decide) (ys_isRegister ha (br_f (by decide) (ys_clearMade (fun md1 hmd => ?_)))))
      dsimp only
      refine ys_der26 hd ha hmd h0 (fun md2 r2 he2 hK2 => ?_)
      obtain ⟨e1, e2⟩ := fd_K_u hK hK2
      exact ⟨e1, e2, fd_K_ok hok hK⟩
    · exact xs_nreg h2 (br_t rfl (ys_isRegister hd (br_f (by decide) (ys_nreg h2 (br_t rfl ⟨rfl, rfl, hok⟩)))))
  · exact xs_nreg h1 (br_t rfl (ys_nreg h1 (br_t rfl ⟨rfl, rfl, hok⟩)))
/-! shift -/
def fd_u1 (r : Nat → Int) (t : Int) (j : Nat) : Nat → Int := fun m => if m = j then r j + t * r (j + 1) else r m
def fd_in (t : Int) (i : Nat) : Nat → (Nat → Int) → (Nat → Int)
  | 0, r => r
  | k + 1, r => fd_in t i k (fd_u1 r t (i + k))
def fd_xo (t : Int) : Nat → Nat → (Nat → Int) → (Nat → Int)
  | _, 0, r => r
  | i, n + 1, r => fd_xo t (i + 1) n (fd_in t i (n + 1) r)
def fd_hs (m : Nat → Int) (t c : Int) : Nat → Int := fun j => if j = 0 then t * m 0 + c else m (j - 1) + t * m j
def fd_yo (t : Int) (f : Nat → Int) : Nat → (Nat → Int) → (Nat → Int)
  | 0, m => m
  | n + 1, m => fd_yo t f n (fd_hs m t (f n))
theorem fd_hs_L {m : Nat → Int} {t c : Int} {n : Nat} (h : fd_L m n) : fd_L (fd_hs m t c) (n + 1) := fun j hj => by
  simp only [fd_hs]; rw [if_neg (by omega), h (j - 1) (by omega), h j (by omega)]; simp
theorem fd_hs_B {m : Nat → Int} {t c : Int} {M : Nat} (h : fd_B m M) (ht : t.natAbs ≤ 3) (hc : c.natAbs ≤ 20) : fd_B (fd_hs m t c) (4 * M + 20) := by
  intro j
  simp only [fd_hs]
  by_cases hj : j = 0
  · rw [if_pos hj]
    have h1 : (t * m 0).natAbs ≤ 3 * M := by rw [Int.natAbs_mul]; exact Nat.mul_le_mul ht (h 0)
    omega
  · rw [if_neg hj]
    have h1 : (t * m j).natAbs ≤ 3 * M := by rw [Int.natAbs_mul]; exact Nat.mul_le_mul ht (h j)
    have h2 := h (j - 1)
    omega
theorem fd_in_ge (t : Int) (i k : Nat) : ∀ (r : Nat → Int) (m : Nat), i + k ≤ m → fd_in t i k r m = r m := by
  induction k with
  | zero => intro r m _; rfl
  | succ k ih =>
    intro r m hm
    rw [fd_in, ih _ m (by omega)]
    simp only [fd_u1]; rw [if_neg (by omega)]
theorem fd_xo_ge (t : Int) (n : Nat) : ∀ (i : Nat) (r : Nat → Int) (m : Nat), i + n ≤ 5 → 5 ≤ m → fd_xo t i n r m = r m := by
  induction n with
  | zero => intro i r m _ _; rfl
  | succ n ih =>
    intro i r m hi hm
    rw [fd_xo, ih (i + 1) _ m (by omega) hm, fd_in_ge t i (n + 1) r m (by omega)]
theorem fd_sh_Y (f : Nat → Int) (t : Int) : fd_L (fd_yo t f 6 fd_z) 5 := by
  have h0 : fd_L (fd_hs fd_z t (f 5)) 0 := fun j hj => by
    simp only [fd_hs]; rw [if_neg (by omega)]; simp [fd_z]
  exact fd_hs_L (fd_hs_L (fd_hs_L (fd_hs_L (fd_hs_L h0))))
theorem fd_sh_eq (f : Nat → Int) (t : Int) (hL : fd_L f 5) : fd_xo t 0 5 f = fd_yo t f 6 fd_z := by
  funext m
  match m with
  | 0 => simp [fd_xo, fd_in, fd_u1, fd_yo, fd_hs, fd_z]; grind
  | 1 => simp [fd_xo, fd_in, fd_u1, fd_yo, fd_hs, fd_z]; grind
  | 2 => simp [fd_xo, fd_in, fd_u1, fd_yo, fd_hs, fd_z]; grind
  | 3 => simp [fd_xo, fd_in, fd_u1, fd_yo, fd_hs, fd_z]; grind
  | 4 => simp [fd_xo, fd_in, fd_u1, fd_yo, fd_hs, fd_z]; grind
  | 5 => simp [fd_xo, fd_in, fd_u1, fd_yo, fd_hs, fd_z]
  | (n + 6) => rw [fd_sh_Y f t (n + 6) (by omega), fd_xo_ge t 5 0 f (n + 6) (by omega) (by omega), hL (n + 6) (by omega)]
theorem fd_sh_B (f : Nat → Int) (t : Int) (hf : fd_B f 20) (ht : t.natAbs ≤ 3) : fd_B (fd_yo t f 6 fd_z) 27300 := by
  have h0 : fd_B fd_z 0 := fun i => by simp [fd_z]
  exact fd_hs_B (fd_hs_B (fd_hs_B (fd_hs_B (fd_hs_B (fd_hs_B h0 ht (hf 5)) ht (hf 4)) ht (hf 3)) ht (hf 2)) ht (hf 1)) ht (hf 0)
theorem fd_lt6 {i : Nat} (hi : i < 6) : nI i + (-1) < nI i := by
  have hk : ∀ i : Fin 6, nI i.val + (-1) < nI i.val := by decide
  exact hk ⟨i, hi⟩
theorem xs_sh50 {post : Int32 → SX → Prop} {J : Int32 → (Nat → Int32) → (Nat → Int64) → (Nat → Int64) → (Nat → Int64) → (Nat → Int64) → (Nat → Int64) → (Nat → Int64) → Prop} {x1 fc : Int32} {he : Nat → Int32} {op qu rs wk fo : Nat → Int64} {t : Int} (ht : fd_k t) {i : Nat} : ∀ (k : Nat) (r : Nat → Int) (re : Nat → Int64), i + k ≤ 5 → fd_R re r → (∀ re', fd_R re' (fd_in t i k r) → J (nI (i + 1)) he re' op qu rs wk fo) → wX_shift_50 post J x1 (fd_i t) (nI i) fc (k + 1) (nI (i + k) + (-1)) he re op qu rs wk fo := by
  intro k
  induction k with
  | zero =>
    intro r re hk hR H
    exact br_t (fd_lt6 (by omega)) (nm_r (nI_1 i) (H re hR))
  | succ k ih =>
    intro r re hk hR H
    have e : i + (k + 1) = (i + k) + 1 := by omega
    rw [e, fd_m1]
    have e1 : nI (i + k) + 1 = nI (i + k + 1) := nI_1 _
    refine br_f (nI_nlt (by omega) (by omega)) ⟨vp_in_nI (by omega) (by decide), by rw [e1]; exact vp_in_nI (by omega) (by decide), vp_in_nI (by omega) (by decide), nm_r (e' := vp_updL re (i + k) (fd_l (r (i + k) + t * r (i + k + 1)))) ?_ (nm_e (ih (fd_u1 r t (i + k)) _ (by omega) (fun m hm => ?_) H))⟩
    · rw [e1, nI_clamp (by omega), nI_clamp (by omega), hR _ (by omega), hR _ (by omega), fd_i_l ht, fd_l_mul, fd_l_add]
    · simp only [fd_u1]
      by_cases hmk : m = i + k
      · rw [if_pos hmk, hmk, fd_uLs]
      · rw [if_neg hmk, fd_uLn hmk, hR m hm]
theorem xs_sh41 {post : Int32 → SX → Prop} {fc : Int32} {he : Nat → Int32} {op qu rs wk fo : Nat → Int64} {t : Int} (ht : fd_k t) {d : Nat} (hd : d < 4) {F : Nat → Int} (hB : fd_B F 4611686018427387904) (hL : fd_L F 5) (H : ∀ re r he', fd_K he d F r he' → post r (fc, he', re, op, qu, rs, wk, fo)) : ∀ (n i : Nat) (r : Nat → Int) (re : Nat → Int64), i + n = 5 → fd_R re r → fd_xo t i n r = F → wX_shift_41 post (nI d) (fd_i t) fc (n + 1) (nI i) he re op qu rs wk fo := by
  intro n
  induction n with
  | zero =>
    intro i r re hi hR e
    have e5 : i = 5 := by omega
    subst e5
    rw [fd_xo] at e
    rw [e] at hR
    exact br_t (nI_le (a := 5) (b := 5) (Nat.le_refl 5) (by decide)) (xs_keepResult hd hR hB hL (fun r he' hK => H re r he' hK))
  | succ n ih =>
    intro i r re hi hR e
    refine br_f (nI_ge (b := 5) (by omega) (by decide)) ⟨n + 1 + 1, ?_⟩
    have e4 : (4 : Int32) = nI (i + (n + 1)) + (-1) := by
      have : i + (n + 1) = 5 := by omega
      rw [this]; decide
    rw [e4]
    exact xs_sh50 ht (n + 1) r re (by omega) hR (fun re' hR' => ih (i + 1) _ re' (by omega) hR' e)
theorem ys_sh47 {post : Int32 → SY → Prop} {J : Int32 → (Nat → Int32) → (Nat → Int64) → (Nat → Int64) → (Nat → Int64) → (Nat → Int64) → (Nat → Int64) → (Nat → Int64) → (Nat → Int64) → (Nat → Int32) → Prop} {x1 cn ot : Int32} {rg : Nat → Int32} {md wh td yr yq pt kp : Nat → Int64} {dg : Nat → Int32} {t : Int} (ht : fd_k t) {a i : Nat} (ha : a < 4) (hi : i < 6) {m : Nat → Int} (hR : fd_R11 md m) (hm : fd_L m 5) (H : ∀ md', fd_R11 md' (fd_hs m t (fd_reg rg a i)) → J (nI i + (-1)) rg md' wh td yr yq pt kp dg) : ∃ n, wY_shift_47 post J x1 (nI a) (fd_i t) (nI i) cn ot n 6 rg md wh td yr yq pt kp dg := by
  have key : ∀ (j : Nat) (z : Nat → Int64), j ≤ 6 → (∀ k, j < k → k < 11 → z k = fd_l (fd_hs m t (fd_reg rg a i) k)) → (∀ k, k ≤ j → z k = fd_l (m k)) → wY_shift_47 post J x1 (nI a) (fd_i t) (nI i) cn ot (j + 1) (nI j) rg z wh td yr yq pt kp dg := by
    intro j
    induction j with
    | zero =>
      intro z hj h1 h2
      refine br_t (nI_le (a := 0) (b := 0) (Nat.le_refl 0) (by decide)) ⟨by rw [fd_ixZ]; exact vp_in_nI (by omega) (by decide), nm_r (e' := vp_updL z 0 (fd_l (fd_hs m t (fd_reg rg a i) 0))) ?_ (nm_e (H _ (fun k hk => ?_)))⟩
      · rw [fd_ixZ, nI_clamp (by omega), h2 0 (Nat.le_refl 0), fd_i_l ht, fd_of32, fd_l_mul, fd_l_add]
        simp only [fd_hs, fd_reg]; rw [if_pos trivial, if_pos hi]
      · by_cases hk0 : k = 0
        · rw [hk0, fd_uLs]
        · rw [fd_uLn hk0]; exact h1 k (by omega) hk
    | succ j ih =>
      intro z hj h1 h2
      refine br_f (nI_nle (by omega) (by omega)) ⟨by rw [nI_pred]; exact vp_in_nI (by omega) (by decide), vp_in_nI (by omega) (by decide), vp_in_nI (by omega) (by decide), nm_r (e' := vp_updL z (j + 1) (fd_l (fd_hs m t (fd_reg rg a i) (j + 1)))) ?_ (nm_r (fd_m1 j) (ih _ (by omega) (fun k hk hk2 => ?_) (fun k hk => ?_)))⟩
      · rw [nI_pred, nI_clamp (by omega), nI_clamp (by omega), h2 j (by omega), h2 (j + 1) (by omega), fd_i_l ht, fd_l_mul, fd_l_add]
        simp only [fd_hs]; rw [if_neg (by omega)]; rfl
      · by_cases hkj : k = j + 1
        · rw [hkj, fd_uLs]
        · rw [fd_uLn hkj]; exact h1 k (by omega) hk2
      · rw [fd_uLn (by omega)]; exact h2 k (by omega)
  refine ⟨7, key 6 md (Nat.le_refl 6) (fun k hk hk2 => ?_) (fun k hk => hR k (by omega))⟩
  rw [hR k hk2, fd_hs_L hm k (by omega), hm k (by omega)]
theorem ys_sh38 {post : Int32 → SY → Prop} {cn ot : Int32} {rg : Nat → Int32} {wh td yr yq pt kp : Nat → Int64} {dg : Nat → Int32} {t : Int} (ht : fd_k t) {d a : Nat} (hd : d < 4) (ha : a < 4) {F : Nat → Int} (hB : fd_B F 4611686018427387904) (hL : fd_L F 5) (H : ∀ md r rg', fd_K rg d F r rg' → post r (cn, ot, rg', md, wh, td, yr, yq, pt, kp, dg)) : ∀ (n : Nat) (m : Nat → Int) (md : Nat → Int64), n ≤ 6 → fd_R11 md m → (∀ j, 6 - n ≤ j → m j = 0) → fd_yo t (fd_reg rg a) n m = F → wY_shift_38 post (nI d) (nI a) (fd_i t) cn ot (n + 1) (nI n + (-1)) rg md wh td yr yq pt kp dg := by
  intro n
  induction n with
  | zero =>
    intro m md _ hR _ e
    rw [fd_yo] at e
    rw [e] at hR
    exact br_t (by decide) (ys_keep hd hR hB (fd_L_mono hL (by decide)) (fun r rg' hK => H md r rg' hK))
  | succ n ih =>
    intro m md hn hR hm e
    rw [fd_m1]
    refine br_f (nI_pos (by omega)) (ys_sh47 ht ha (by omega) hR (fun j hj => hm j (by omega)) (fun md' hR' => ih _ md' (by omega) hR' (fun j hj => ?_) e))
    simp only [fd_hs]
    rw [if_neg (by omega), hm (j - 1) (by omega), hm j (by omega)]; simp
theorem fd_i_3 {t : Int} (h1 : -3 ≤ t) (h2 : t ≤ 3) : ¬ fd_i t < -3 ∧ fd_i t ≤ 3 := by
  have hm : fd_i (-3) = -3 := by decide
  have hp : fd_i 3 = 3 := by decide
  constructor
  · rw [← hm, fd_i_lt (fd_k_lit (by omega)) (fd_k_lit (by decide))]; omega
  · rw [← hp, fd_i_le (fd_k_lit (by omega)) (fd_k_lit (by decide))]; exact h2
theorem xs_shift {post : Int32 → SX → Prop} {fc : Int32} {he : Nat → Int32} {re op qu rs wk fo : Nat → Int64} {d a : Nat} {t : Int} (hd : d < 4) (ha : a < 4) (hok : fd_ok he) (h1 : -3 ≤ t) (h2 : t ≤ 3) (H : ∀ re r he', fd_K he d (fd_yo t (fd_reg he a) 6 fd_z) r he' → post r (fc, he', re, op, qu, rs, wk, fo)) : wpX_shift post (fc, he, re, op, qu, rs, wk, fo) (nI d) (nI a) (fd_i t) := by
  have h0 := fd_reg_H0 hok ha
  obtain ⟨z, w⟩ := fd_i_3 h1 h2
  unfold wpX_shift
  dsimp only
  refine xs_reg hd (br_f (by decide) (xs_reg ha (br_f (by decide) (br_f z (br_t w (xs_load_result ha (fun re1 hre => ⟨5 + 1, ?_⟩)))))))
  exact xs_sh41 (fd_k_lit (by omega)) hd (fd_B_mono (fd_sh_B _ _ (fd_H0_B h0) (by omega)) (by decide)) (fd_sh_Y _ _) H 5 0 (fd_reg he a) re1 (by omega) (fd_reg_R hre) (fd_sh_eq _ _ h0.2)
theorem ys_shift {post : Int32 → SY → Prop} {cn ot : Int32} {rg : Nat → Int32} {md wh td yr yq pt kp : Nat → Int64} {dg : Nat → Int32} {d a : Nat} {t : Int} (hd : d < 4) (ha : a < 4) (hok : fd_ok rg) (h1 : -3 ≤ t) (h2 : t ≤ 3) (H : ∀ md r rg', fd_K rg d (fd_yo t (fd_reg rg a) 6 fd_z) r rg' → post r (cn, ot, rg', md, wh, td, yr, yq, pt, kp, dg)) : wpY_shift post (cn, ot, rg, md, wh, td, yr, yq, pt, kp, dg) (nI d) (nI a) (fd_i t) := by
  have h0 := fd_reg_H0 hok ha
  obtain ⟨z, w⟩ := fd_i_3 h1 h2
  unfold wpY_shift
  dsimp only
  refine ys_isRegister hd (br_f (by decide) (ys_isRegister ha (br_f (by decide) (br_f z (br_t w (ys_clearMade (fun md1 hmd => ⟨6 + 1, ?_⟩)))))))
  exact ys_sh38 (fd_k_lit (by omega)) hd ha (fd_B_mono (fd_sh_B _ _ (fd_H0_B h0) (by omega)) (by decide)) (fd_sh_Y _ _) H 6 fd_z md1 (Nat.le_refl 6) (fun i hi => by rw [hmd i hi]; exact fd_l_0.symm) (fun _ _ => rfl) rfl
theorem i_vc_shift {k : Nat} {u : SX} {v : SY} (I : i_Rel k u v) (hk : k + 5 ≤ 2560) (v1 : Int32) (v2 : Int32) (v3 : Int32) : wpX_shift (fun r u' => wpY_shift (fun r' v' => r' = r ∧ i_Rel (k + 5) u' v') v v1 v2 v3) u v1 v2 v3 := by
  obtain ⟨fc, he, re, op, qu, rs, wk, fo⟩ := u
  obtain ⟨cn, ot, rg, md, wh, td, yr, yq, pt, kp, dg⟩ := v
  obtain ⟨e, hok⟩ := I
  dsimp only at e hok
  subst e
  rcases fd_r4 v1 with ⟨d, hd, e⟩ | h1
  · subst e
    rcases fd_r4 v2 with ⟨a, ha, e⟩ | h2
    · subst e
      by_cases hb : v3 < -3 ∨ ¬ v3 ≤ 3
      · unfold wpX_shift wpY_shift
        dsimp only
        refine xs_reg hd (br_f (by decide) (xs_reg ha (br_f (by decide) ?_)))
        refine br_c (fun z => ys_isRegister hd (br_f (by decide) (ys_isRegister ha (br_f (by decide) (br_t z ⟨rfl, rfl, hok⟩))))) (fun z => br_f (hb.resolve_left z) (ys_isRegister hd (br_f (by decide) (ys_isRegister ha (br_f (by decide) (br_f z (br_f (hb.resolve_left z) ⟨rfl, rfl, hok⟩)))))))
      · have z : ¬ v3 < -3 := fun h => hb (Or.inl h)
        have w : v3 ≤ 3 := Classical.byContradiction fun h => hb (Or.inr h)
        have a1 := Int32.le_iff_toInt_le.mp w
        have a2 : ¬ v3.toInt < (-3 : Int32).toInt := fun y => z (Int32.lt_iff_toInt_lt.mpr y)
        have h3 : (3 : Int32).toInt = 3 := by decide
        have h4 : (-3 : Int32).toInt = -3 := by decide
        rw [h3] at a1
        rw [h4] at a2
        rw [← fd_i_of v3]
        refine xs_shift hd ha hok (by omega) a1 (fun re1 r1 he1 hK => ys_shift hd ha hok (by omega) a1 (fun md2 r2 he2 hK2 => ?_))
        obtain ⟨e1, e2⟩ := fd_K_u hK hK2
        exact ⟨e1, e2, fd_K_ok hok hK⟩
    · unfold wpX_shift wpY_shift
      dsimp only
      exact xs_reg hd (br_f (by decide) (xs_nreg h2 (br_t rfl (ys_isRegister hd (br_f (by decide) (ys_nreg h2 (br_t rfl ⟨rfl, rfl, hok⟩)))))))
  · unfold wpX_shift wpY_shift
    dsimp only
    exact xs_nreg h1 (br_t rfl (ys_nreg h1 (br_t rfl ⟨rfl, rfl, hok⟩)))
