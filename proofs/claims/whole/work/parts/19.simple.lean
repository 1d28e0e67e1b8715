/-! products; simple -/
def fd_tr (n : Nat) (a : Nat → Int) : Nat → Int := fun i => if i < n then a i else 0
theorem fd_tr_0 (a b : Nat → Int) : fd_mul (fd_tr 0 a) b = fd_z := by
  have e : fd_tr 0 a = fd_z := by funext i; simp [fd_tr, fd_z]
  rw [e, fd_z_mul]
theorem fd_tr_step (n : Nat) (a b : Nat → Int) (k : Nat) : fd_mul (fd_tr (n + 1) a) b k = fd_mul (fd_tr n a) b k + (if n ≤ k then a n * b (k - n) else 0) := by
  have e : fd_tr (n + 1) a = fd_add (fd_tr n a) (fd_mo (a n) n) := by
    funext i
    simp only [fd_tr, fd_add, fd_mo]
    by_cases h : i = n
    · subst h; rw [if_pos (by omega), if_neg (by omega), if_pos rfl]; omega
    · by_cases h2 : i < n
      · rw [if_pos (by omega), if_pos h2, if_neg h]; omega
      · rw [if_neg (by omega), if_neg h2, if_neg h]; omega
  rw [e, fd_add_mul, fd_mo_mul]; rfl
theorem fd_tr_all {a : Nat → Int} {n m : Nat} (h : fd_L a n) (hm : n < m) : fd_tr m a = a := by
  funext i
  simp only [fd_tr]
  by_cases hi : i < m
  · rw [if_pos hi]
  · rw [if_neg hi, h i (by omega)]
section
variable {post : SX → Prop} {fc : Int32} {he : Nat → Int32} {re op qu rs wk fo : Nat → Int64}
theorem xs_mul28 {J : Int32 → (Nat → Int32) → (Nat → Int64) → (Nat → Int64) → (Nat → Int64) → (Nat → Int64) → (Nat → Int64) → (Nat → Int64) → Prop} {i : Nat} (hi : i < 6) (H : ∀ t, (∀ j, i + j < 6 → t (i + j) = re (i + j) + wk i * op j) → (∀ j, j < i → t j = re j) → J (nI (i + 1)) he t op qu rs wk fo) : ∃ n, wX_multiplyByOperand_28 post J (nI i) fc n 0 he re op qu rs wk fo := by
  refine fd_fill (fun n x t => wX_multiplyByOperand_28 post J (nI i) fc n x he t op qu rs wk fo) (6 - i) i (fun j => re (i + j) + wk i * op j) re (fun n t h1 h2 => ?_) (fun n j t hj h2 hW => ?_)
  · refine br_t ?_ (nm_r (nI_1 i) (H t (fun j hj => h1 j (by omega)) (fun j hj => h2 j (Or.inl hj))))
    rw [nI_add]; exact nI_le (a := 6) (by omega) (by omega)
  · have e : nI i + nI j = nI (i + j) := nI_add i j
    refine br_f (by rw [e]; exact nI_ge (b := 6) (by omega) (by decide)) ⟨by rw [e]; exact vp_in_nI (by omega) (by decide), vp_in_nI (by omega) (by decide), vp_in_nI (by omega) (by decide), by rw [e]; exact vp_in_nI (by omega) (by decide), nm_r ?_ (nm_r (nI_1 j) hW)⟩
    rw [e, nI_clamp (by omega), nI_clamp (by omega), nI_clamp (by omega), h2 (i + j) (by omega)]
theorem xs_mulOp {a b : Nat → Int} (ha : fd_R re a) (hL : fd_L a 5) (hb : fd_R op b) (H : ∀ re wk, fd_R re (fd_mul a b) → post (fc, he, re, op, qu, rs, wk, fo)) : wpX_multiplyByOperand post (fc, he, re, op, qu, rs, wk, fo) := by
  unfold wpX_multiplyByOperand
  dsimp only
  refine xs_copy_result_work (fun wk1 hwk => ?_)
  dsimp only
  refine xs_clear_result (fun re1 hre => ?_)
  dsimp only
  have key : ∀ (k i : Nat) (re : Nat → Int64), i + k = 6 → fd_R re (fd_mul (fd_tr i a) b) → wX_multiplyByOperand_20 post fc (k + 1) (nI i) he re op qu rs wk1 fo := by
    intro k
    induction k with
    | zero =>
      intro i re hi hR
      have e : i = 6 := by omega
      subst e
      rw [fd_tr_all hL (by decide)] at hR
      exact br_t (nI_le (Nat.le_refl 6) (by decide)) (H re wk1 hR)
    | succ k ih =>
      intro i re hi hR
      refine br_f (nI_ge (b := 6) (by omega) (by decide)) (xs_mul28 (by omega) (fun t h1 h2 => ih (i + 1) t (by omega) (fun m hm => ?_)))
      rw [fd_tr_step]
      by_cases hmi : i ≤ m
      · have h3 := h1 (m - i) (by omega)
        have e3 : i + (m - i) = m := by omega
        rw [e3, hR m hm, hwk i (by omega), ha i (by omega), hb (m - i) (by omega), fd_l_mul, fd_l_add] at h3
        rw [if_pos hmi]; exact h3
      · rw [if_neg hmi, h2 m (by omega), hR m hm]; congr 1; omega
  exact ⟨7, key 6 0 re1 (by omega) (fun i hi => by rw [hre i hi, fd_tr_0]; exact fd_l_0.symm)⟩
end
section
variable {cn ot : Int32} {rg : Nat → Int32} {md wh td yr yq pt kp : Nat → Int64} {dg : Nat → Int32}
theorem ys_mul12 {post : SY → Prop} {J : Int32 → (Nat → Int32) → (Nat → Int64) → (Nat → Int64) → (Nat → Int64) → (Nat → Int64) → (Nat → Int64) → (Nat → Int64) → (Nat → Int64) → (Nat → Int32) → Prop} {k i : Nat} {a b : Nat → Int} (hk : k < 6) (hi : i < 11) (ha : ∀ j, j ≤ i → md j = fd_l (a j)) (hb : ∀ j, j < 6 → kp (k * 6 + j) = fd_l (b j)) (hL : fd_L b 5) (H : ∀ t, t = vp_updL md i (fd_l (fd_mul b a i)) → J (nI i + (-1)) rg t wh td yr yq pt kp dg) : ∃ n, wY_multiply_12 post J (nI k) (nI i) cn ot rg md wh td yr yq pt kp dg n 0 0 := by
  have key : ∀ (n j : Nat), j + n = 6 → wY_multiply_12 post J (nI k) (nI i) cn ot rg md wh td yr yq pt kp dg (n + 1) (fd_l (fd_mul (fd_tr j b) a i)) (nI j) := by
    intro n
    induction n with
    | zero =>
      intro j hj
      have e : j = 6 := by omega
      subst e
      rw [fd_tr_all hL (by decide)]
      refine br_t (nI_le (Nat.le_refl 6) (by decide)) ⟨vp_in_nI hi (by decide), fun t et => nm_e (H t ?_)⟩
      rw [et, nI_clamp (by omega)]
    | succ n ih =>
      intro j hj
      have h := ih (j + 1) (by omega)
      rw [fd_tr_step] at h
      refine br_f (nI_ge (b := 6) (by omega) (by decide)) ?_
      by_cases hij : i < j
      · rw [if_neg (by omega)] at h
        refine br_t (nI_lt hij (by omega)) (nm_r (nI_1 j) ?_)
        have e : fd_mul (fd_tr j b) a i + 0 = fd_mul (fd_tr j b) a i := by omega
        rw [e] at h
        exact h
      · rw [if_pos (by omega)] at h
        have e : nI i - nI j = nI (i - j) := fd_isub (by omega)
        refine br_f (nI_nlt (by omega) (by omega)) ⟨by rw [e]; exact vp_in_nI (by omega) (by decide), by rw [fd_ixZ]; exact vp_in_nI (by omega) (by decide), nm_r ?_ (nm_r (nI_1 j) h)⟩
        rw [e, fd_ixZ, nI_clamp (by omega), nI_clamp (by omega), ha (i - j) (by omega), hb j (by omega), fd_l_mul, fd_l_add, Int.mul_comm]
  have h0 := key 6 0 (by omega)
  rw [fd_tr_0] at h0
  exact ⟨7, h0⟩
theorem ys_multiply {post : SY → Prop} {k : Nat} {a b : Nat → Int} (hk : k < 6) (ha : fd_R11 md a) (hb : ∀ j, j < 6 → kp (k * 6 + j) = fd_l (b j)) (hL : fd_L b 5) (H : ∀ md, fd_R11 md (fd_mul a b) → post (cn, ot, rg, md, wh, td, yr, yq, pt, kp, dg)) : wpY_multiply post (cn, ot, rg, md, wh, td, yr, yq, pt, kp, dg) (nI k) := by
  have key : ∀ (i : Nat) (t : Nat → Int64), i ≤ 11 → (∀ j, j < i → t j = fd_l (a j)) → (∀ j, i ≤ j → j < 11 → t j = fd_l (fd_mul a b j)) → wY_multiply_3 post (nI k) cn ot (i + 1) (nI i + (-1)) rg t wh td yr yq pt kp dg := by
    intro i
    induction i with
    | zero =>
      intro t _ _ h2
      exact br_t (by decide) (H t (fun j hj => h2 j (Nat.zero_le j) hj))
    | succ i ih =>
      intro t hi h1 h2
      rw [fd_m1]
      refine br_f (nI_pos (by omega)) (ys_mul12 hk (by omega) (fun j hj => h1 j (by omega)) hb hL (fun t' et => ih t' (by omega) (fun j hj => ?_) (fun j hj hj2 => ?_)))
      · rw [et, fd_uLn (by omega)]; exact h1 j (by omega)
      · by_cases e : j = i
        · rw [e, et, fd_uLs, fd_mul_comm]
        · rw [et, fd_uLn e]; exact h2 j (by omega) hj2
  exact ⟨12, key 11 md (Nat.le_refl _) (fun j hj => ha j hj) (fun j h1 h2 => absurd h1 (by omega))⟩
theorem ys_equals {post : Int32 → Prop} {k m : Nat} {p q : Nat → Int} (hk : k < 6) (hm : m < 6) (hp : ∀ j, j < 6 → kp (k * 6 + j) = fd_l (p j)) (hq : ∀ j, j < 6 → pt (m * 6 + j) = fd_l (q j)) (hpB : fd_B p 170000) (hqB : fd_B q 170000) (hp5 : fd_L p 5) (hq5 : fd_L q 5) (H1 : p = q → post 1) (H0 : p ≠ q → post 0) : wpY_equals post (cn, ot, rg, md, wh, td, yr, yq, pt, kp, dg) (nI k) (nI m) := by
  refine fd_upl (fun n x => wY_equals_2 post (nI k) (nI m) cn ot rg md wh td yr yq pt kp dg n x) (fun j => p j = q j) 6 (fun h n => ?_) (fun n i hi h hW => ?_)
  · refine br_t (nI_le (Nat.le_refl 6) (by decide)) (H1 (funext fun j => ?_))
    by_cases hj : j < 6
    · exact h j hj
    · rw [hp5 j (by omega), hq5 j (by omega)]
  · refine br_f (nI_ge (b := 6) hi (by decide)) ⟨by rw [fd_ixZ]; exact vp_in_nI (by omega) (by decide), by rw [fd_ixZ]; exact vp_in_nI (by omega) (by decide), ?_⟩
    rw [fd_ixZ, fd_ixZ, nI_clamp (by omega), nI_clamp (by omega), hp i hi, hq i hi]
    have hps : fd_s (p i) := fd_s_of (hpB i) (by decide)
    have hqs : fd_s (q i) := fd_s_of (hqB i) (by decide)
    exact br_c (fun z => nm_r (nI_1 i) (hW ((fd_l_eq hps hqs).mp z))) (fun z => H0 (fun e => z (by rw [e])))
theorem ys_keepParts {post : SY → Prop} (H : ∀ kp, (∀ j, j < 36 → kp j = pt j) → post (cn, cn, rg, md, wh, td, yr, yq, pt, kp, dg)) : wpY_keepParts post (cn, ot, rg, md, wh, td, yr, yq, pt, kp, dg) := by
  refine fd_fill (fun n x t => wY_keepParts_10 post cn cn n x rg md wh td yr yq pt t dg) 36 0 pt kp (fun n t h1 _ => ?_) (fun n i t hi _ hW => ?_)
  · exact br_t (nI_le (Nat.le_refl 36) (by decide)) (H t (fun i hi => by have := h1 i hi; rwa [Nat.zero_add] at this))
  · exact br_f (nI_ge (b := 36) hi (by decide)) ⟨vp_in_nI hi (by decide), vp_in_nI hi (by decide), nm_r (by rw [nI_clamp (by omega), Nat.zero_add]) (nm_r (nI_1 i) hW)⟩
end
theorem fd_AL_copy {a b : Nat → Int64} {L : List (Nat → Int)} (h : fd_AL a L) (hlen : L.length ≤ 5) (hab : ∀ j, j < 36 → b j = a j) : fd_AL b L := fun k hk i hi => by
  rw [hab _ (by omega)]; exact h k hk i hi
noncomputable def fd_ite (c : Prop) (a b : Nat → Int) : Nat → Int := @ite _ c (Classical.propDecidable c) a b
theorem fd_ite_t {c : Prop} {a b : Nat → Int} (h : c) : fd_ite c a b = a := if_pos h
theorem fd_ite_f {c : Prop} {a b : Nat → Int} (h : ¬ c) : fd_ite c a b = b := if_neg h
/-- the product of those that differ from the one before -/
noncomputable def fd_dp (L : List (Nat → Int)) : Nat → (Nat → Int)
  | 0 => fd_c 1
  | k + 1 => fd_ite (1 ≤ k ∧ L.getD k fd_z = L.getD (k - 1) fd_z) (fd_dp L k) (fd_mul (fd_dp L k) (L.getD k fd_z))
theorem fd_take_succ {L : List (Nat → Int)} {k : Nat} (hk : k < L.length) : fd_prod (L.take (k + 1)) = fd_mul (fd_prod (L.take k)) (L.getD k fd_z) := by
  rw [fd_getD_eq hk, List.take_succ_eq_append_getElem hk, fd_prod_snoc]
theorem fd_dp_dv {L : List (Nat → Int)} (hI : ∀ p ∈ L, fd_Irr p) : ∀ k, k ≤ L.length → fd_dv (fd_dp L k) (fd_prod (L.take k)) := by
  intro k
  induction k with
  | zero => intro _; rw [List.take_zero, fd_prod]; exact fd_dv_refl _
  | succ k ih =>
    intro hk
    have hF : fd_F (L.getD k fd_z) := fd_irr_F (hI _ (fd_getD_mem (by omega)))
    obtain ⟨q, hq, e⟩ := ih (by omega)
    rw [fd_take_succ (by omega), fd_dp]
    by_cases hc : 1 ≤ k ∧ L.getD k fd_z = L.getD (k - 1) fd_z
    · rw [fd_ite_t hc, ← e]
      exact fd_dv_mul_r _ hF ⟨q, hq, rfl⟩
    · rw [fd_ite_f hc, ← e]
      refine ⟨q, hq, ?_⟩
      rw [fd_mul_assoc, fd_mul_comm _ q, ← fd_mul_assoc]
theorem fd_take_dv {L : List (Nat → Int)} (hI : ∀ p ∈ L, fd_Irr p) (k : Nat) : fd_dv (fd_prod (L.take k)) (fd_prod L) := by
  refine ⟨fd_prod (L.drop k), fd_F_prod _ fun p hp => fd_irr_F (hI p (List.mem_of_mem_drop hp)), ?_⟩
  rw [← fd_prod_app, List.take_append_drop]
theorem fd_dv_bL {F g : Nat → Int} (hF : fd_H F) (hg : fd_F g) (h : fd_dv g F) : fd_B g 170000 ∧ fd_L g 5 := by
  obtain ⟨q, hq, e⟩ := h
  refine ⟨fun i => fd_bB hF hg hq e i, ?_⟩
  obtain ⟨d, hd⟩ := fd_D_ex (fd_L_F hF.2.1) hF.2.2
  obtain ⟨a, b, ha, hb, hab⟩ := fd_D_split hg hq e hd
  have := fd_D_le hd hF.2.1
  exact fd_L_mono ha.2 (by omega)
theorem fd_dp_F {L : List (Nat → Int)} (hI : ∀ p ∈ L, fd_Irr p) : ∀ k, k ≤ L.length → fd_F (fd_dp L k) := by
  intro k
  induction k with
  | zero => intro _; exact fd_F_c 1
  | succ k ih =>
    intro hk
    rw [fd_dp]
    by_cases hc : 1 ≤ k ∧ L.getD k fd_z = L.getD (k - 1) fd_z
    · rw [fd_ite_t hc]; exact ih (by omega)
    · rw [fd_ite_f hc]
      exact fd_F_mul (ih (by omega)) (fd_irr_F (hI _ (fd_getD_mem (by omega))))
theorem fd_dp_b {f : Nat → Int} {L : List (Nat → Int)} (h0 : fd_H0 f) (hz : f ≠ fd_z) (h : fd_Fac f L) {k : Nat} (hk : k ≤ L.length) : fd_B (fd_dp L k) 170000 ∧ fd_L (fd_dp L k) 5 := by
  obtain ⟨c, hc, e⟩ := h.2.2.2.2 hz
  refine fd_dv_bL ⟨h0.1, h0.2, hz⟩ (fd_dp_F h.1 k hk) (fd_dv_trans (fd_dp_dv h.1 k hk) (fd_dv_trans (fd_take_dv h.1 k) ?_))
  rw [e]; exact fd_dv_sm c (fd_dv_refl _)
theorem xs_isFoundBefore {post : Int32 → Prop} {fc : Int32} {he : Nat → Int32} {re op qu rs wk fo : Nat → Int64} {L : List (Nat → Int)} {k : Nat} (hLB : fd_LB L) (hlen : L.length ≤ 5) (hfo : fd_AL fo L) (hk : k < L.length) (H1 : 1 ≤ k ∧ L.getD k fd_z = L.getD (k - 1) fd_z → post 1) (H0 : ¬ (1 ≤ k ∧ L.getD k fd_z = L.getD (k - 1) fd_z) → post 0) : wpX_isFoundBefore post (fc, he, re, op, qu, rs, wk, fo) (nI k) := by
  by_cases hk1 : 1 ≤ k
  · obtain ⟨_, hpB, hp5⟩ := hLB _ (fd_getD_mem hk)
    obtain ⟨_, hqB, hq5⟩ := hLB _ (fd_getD_mem (by omega : k - 1 < L.length))
    have e1 : nI k - 1 = nI (k - 1) := fd_isub (b := 1) hk1
    refine br_t (nI_le (a := 1) hk1 (by omega)) (fd_upl (fun n x => wX_isFoundBefore_9 post (nI k) fc he re op qu rs wk fo n x) (fun j => L.getD k fd_z j = L.getD (k - 1) fd_z j) 6 (fun h n => ?_) (fun n i hi h hW => ?_))
    · refine br_t (nI_le (Nat.le_refl 6) (by decide)) (H1 ⟨hk1, funext fun j => ?_⟩)
      by_cases hj : j < 6
      · exact h j hj
      · rw [hp5 j (by omega), hq5 j (by omega)]
    · refine br_f (nI_ge (b := 6) hi (by decide)) ⟨by rw [fd_ixX]; exact vp_in_nI (by omega) (by decide), by rw [e1, fd_ixX]; exact vp_in_nI (by omega) (by decide), ?_⟩
      rw [e1, fd_ixX, fd_ixX, nI_clamp (by omega), nI_clamp (by omega), hfo k hk i hi, hfo (k - 1) (by omega) i hi]
      have hps : fd_s (L.getD k fd_z i) := fd_s_of (hpB i) (by decide)
      have hqs : fd_s (L.getD (k - 1) fd_z i) := fd_s_of (hqB i) (by decide)
      exact br_c (fun z => nm_r (nI_1 i) (hW ((fd_l_eq hps hqs).mp z))) (fun z => H0 (fun e => z (by rw [e.2])))
  · exact br_f (nI_ge (a := k) (b := 1) (by omega) (by decide)) (H0 (fun e => hk1 e.1))
theorem xs_prodDiff {post : SX → Prop} {he : Nat → Int32} {re op qu rs wk fo : Nat → Int64} {L : List (Nat → Int)} {f : Nat → Int} (h0 : fd_H0 f) (hz : f ≠ fd_z) (hF : fd_Fac f L) (hfo : fd_AL fo L) (H : ∀ re op wk, fd_R re (fd_dp L L.length) → post (nI L.length, he, re, op, qu, rs, wk, fo)) : wpX_makeProductOfDifferent post (nI L.length, he, re, op, qu, rs, wk, fo) := by
  unfold wpX_makeProductOfDifferent
  dsimp only
  have hlen := hF.2.2.1
  have hLB := fd_Fac_LB h0 hF
  refine xs_clear_result (fun re1 hre => ?_)
  dsimp only
  have key : ∀ (n k : Nat) (re op wk : Nat → Int64), k + n = L.length → fd_R re (fd_dp L k) → wX_makeProductOfDifferent_16 post (n + 1) (nI k) (nI L.length) he re op qu rs wk fo := by
    intro n
    induction n with
    | zero =>
      intro k re op wk hk hR
      have e : k = L.length := by omega
      subst e
      exact br_t (nI_le (Nat.le_refl _) (by omega)) (H re op wk hR)
    | succ n ih =>
      intro k re op wk hk hR
      refine br_f (nI_ge (by omega) (by omega)) (xs_isFoundBefore hLB hlen hfo (by omega) (fun hc => br_f (by decide) (nm_r (nI_1 k) (ih (k + 1) re op wk (by omega) ?_))) (fun hc => br_t rfl (xs_loadFound_operand (by omega) (fun op1 hop => ?_))))
      · rw [fd_dp, fd_ite_t hc]; exact hR
      · dsimp only
        refine xs_mulOp (b := L.getD k fd_z) hR (fd_dp_b h0 hz hF (by omega)).2 (fun i hi => by rw [hop i hi]; exact hfo k (by omega) i hi) (fun re2 wk2 hR2 => ?_)
        dsimp only
        refine nm_r (nI_1 k) (ih (k + 1) re2 op1 wk2 (by omega) ?_)
        rw [fd_dp, fd_ite_f hc]; exact hR2
  refine nm_e ⟨L.length + 1, key L.length 0 _ op wk (by omega) (fun i hi => ?_)⟩
  rw [fd_dp]
  by_cases hi0 : i = 0
  · rw [hi0, fd_uLs]; decide
  · rw [fd_uLn hi0, hre i hi]; simp only [fd_c]; rw [if_neg hi0]; exact fd_l_0.symm
theorem ys_simple50 {post : Int32 → SY → Prop} {ot : Int32} {rg : Nat → Int32} {wh td yr yq pt kp : Nat → Int64} {dg : Nat → Int32} {d : Nat} {L : List (Nat → Int)} {f : Nat → Int} (hd : d < 4) (h0 : fd_H0 f) (hz : f ≠ fd_z) (hF : fd_Fac f L) (hpt : fd_AL pt L) (hkp : fd_AL kp L) (H : ∀ md r rg', fd_K rg d (fd_dp L L.length) r rg' → post r (nI L.length, ot, rg', md, wh, td, yr, yq, pt, kp, dg)) : ∀ (n k : Nat) (md : Nat → Int64), k + n = L.length → fd_R11 md (fd_dp L k) → wY_simple_50 post (nI d) (n + 1) (nI k) (nI L.length) ot rg md wh td yr yq pt kp dg := by
  have hlen := hF.2.2.1
  have hLB := fd_Fac_LB h0 hF
  intro n
  induction n with
  | zero =>
    intro k md hk hR
    have e : k = L.length := by omega
    subst e
    obtain ⟨hB, hL5⟩ := fd_dp_b h0 hz hF (Nat.le_refl L.length)
    exact br_t (nI_le (Nat.le_refl _) (by omega)) (ys_keep hd hR (fd_B_mono hB (by decide)) (fd_L_mono hL5 (by decide)) (fun r rg' hK => H md r rg' hK))
  | succ n ih =>
    intro k md hk hR
    obtain ⟨_, hpB, hp5⟩ := hLB _ (fd_getD_mem (by omega : k < L.length))
    have hgo : ¬ (1 ≤ k ∧ L.getD k fd_z = L.getD (k - 1) fd_z) → wY_simple_73 post (wY_simple_50 post (nI d) (n + 1)) (nI d) (nI k) (nI L.length) ot rg md wh td yr yq pt kp dg := fun hc => by
      unfold wY_simple_73
      refine ys_multiply (by omega) hR (hkp k (by omega)) hp5 (fun md2 hR2 => ?_)
      dsimp only
      refine nm_r (nI_1 k) (ih (k + 1) md2 (by omega) ?_)
      rw [fd_dp, fd_ite_f hc]; exact hR2
    refine br_f (nI_ge (by omega) (by omega)) ?_
    by_cases hk0 : k = 0
    · subst hk0
      exact br_t rfl (hgo (fun hc => absurd hc.1 (by decide)))
    · obtain ⟨_, hqB, hq5⟩ := hLB _ (fd_getD_mem (by omega : k - 1 < L.length))
      have e1 : nI k - 1 = nI (k - 1) := fd_isub (b := 1) (by omega)
      refine br_f (nI_ne0 (by omega) (by omega)) ?_
      rw [e1]
      refine ys_equals (by omega) (by omega) (hkp k (by omega)) (hpt (k - 1) (by omega)) hpB hqB hp5 hq5 (fun e => br_f (by decide) (nm_r (nI_1 k) (ih (k + 1) md (by omega) ?_))) (fun e => br_t rfl (hgo (fun hc => e hc.2)))
      rw [fd_dp, fd_ite_t ⟨by omega, e⟩]; exact hR
theorem i_vc_simple {k : Nat} {u : SX} {v : SY} (I : i_Rel k u v) (hk : k + 5 ≤ 2560) (v1 : Int32) (v2 : Int32) : wpX_simple (fun r u' => wpY_simple (fun r' v' => r' = r ∧ i_Rel (k + 5) u' v') v v1 v2) u v1 v2 := by
  obtain ⟨fc, he, re, op, qu, rs, wk, fo⟩ := u
  obtain ⟨cn, ot, rg, md, wh, td, yr, yq, pt, kp, dg⟩ := v
  obtain ⟨e, hok⟩ := I
  dsimp only at e hok
  subst e
  unfold wpX_simple
  dsimp only
  rcases fd_r4 v1 with ⟨d, hd, e⟩ | h1
  · subst e
    refine xs_reg hd (br_f (by decide) ?_)
    rcases fd_r4 v2 with ⟨r, hr, e⟩ | h2
    · subst e
      have h0 := fd_reg_H0 hok hr
      refine xs_reg hr (br_f (by decide) (xs_load_result hr (fun re1 hre => ?_)))
      dsimp only
      refine xs_deg_result (fd_reg_R hre) (fd_H0_B h0) (by decide) h0.2 (fun hz => br_t (by decide) ?_) (fun dd hdd hD => br_f (nI_pos (by omega)) ?_)
      · -- the zero polynomial
        unfold wX_simple_46
        refine xs_keepResult hd (fd_reg_R hre) (fd_B_mono (fd_H0_B h0) (by decide)) h0.2 (fun r1 he1 hK => ?_)
        dsimp only
        unfold wpY_simple
        dsimp only
        refine ys_isRegister hd (br_f (by decide) (ys_isRegister hr (br_f (by decide) (ys_split hr hok (fun L wh td yr yq pt hF hpt => ?_)))))
        have eL := hF.2.2.2.1 hz
        subst eL
        dsimp only
        refine ys_keepParts (fun kp1 hkp => ?_)
        dsimp only
        refine ys_clearMade (fun md1 hmd => ?_)
        dsimp only
        refine ys_degree hr (fun _ => br_t (by decide) ⟨1, ?_⟩) (fun d' _ hD' => absurd hz (fd_D_nz hD'))
        refine br_t (nI_le (a := 0) (b := 0) (Nat.le_refl 0) (by decide)) (ys_keep hd (f := fd_reg he r) (fun i hi => by rw [hmd i hi, hz]; exact fd_l_0.symm) (fd_B_mono (fd_H0_B h0) (by decide)) (fd_L_mono h0.2 (by decide)) (fun r2 he2 hK2 => ?_))
        dsimp only
        obtain ⟨e1, e2⟩ := fd_K_u hK hK2
        exact ⟨e1, e2, fd_K_ok hok hK⟩
      · have hz := fd_D_nz hD
        refine xs_findFactors hr hok (fun L op qu rs wk fo hF hfo => ?_)
        dsimp only
        refine xs_prodDiff h0 hz hF hfo (fun re2 op2 wk2 hR => ?_)
        dsimp only
        unfold wX_simple_46
        obtain ⟨hB, hL5⟩ := fd_dp_b h0 hz hF (Nat.le_refl L.length)
        refine xs_keepResult hd hR (fd_B_mono hB (by decide)) hL5 (fun r1 he1 hK => ?_)
        dsimp only
        unfold wpY_simple
        dsimp only
        refine ys_isRegister hd (br_f (by decide) (ys_isRegister hr (br_f (by decide) (ys_split hr hok (fun L' wh td yr yq pt hF' hpt => ?_)))))
        rw [← fd_Fac_u hF hF'] at hpt ⊢
        dsimp only
        refine ys_keepParts (fun kp1 hkp => ?_)
        dsimp only
        refine ys_clearMade (fun md1 hmd => ?_)
        dsimp only
        refine ys_degree hr (fun z => absurd z hz) (fun d' hd' hD' => br_f (nI_pos (by omega)) (nm_e ⟨L.length + 1, ?_⟩))
        refine ys_simple50 hd h0 hz hF hpt (fd_AL_copy hpt hF.2.2.1 hkp) (fun md2 r2 he2 hK2 => ?_) L.length 0 _ (by omega) (fun i hi => ?_)
        · obtain ⟨e1, e2⟩ := fd_K_u hK hK2
          exact ⟨e1, e2, fd_K_ok hok hK⟩
        · rw [fd_dp]
          by_cases hi0 : i = 0
          · rw [hi0, fd_uLs]; decide
          · rw [fd_uLn hi0, hmd i hi]; simp only [fd_c]; rw [if_neg hi0]; exact fd_l_0.symm
    · refine xs_nreg h2 (br_t rfl ?_)
      unfold wpY_simple
      dsimp only
      exact ys_isRegister hd (br_f (by decide) (ys_nreg h2 (br_t rfl ⟨rfl, rfl, hok⟩)))
  · refine xs_nreg h1 (br_t rfl ?_)
    unfold wpY_simple
    dsimp only
    exact ys_nreg h1 (br_t rfl ⟨rfl, rfl, hok⟩)
