/-! content and primitive part -/
def fd_H0 (f : Nat → Int) : Prop := (∀ i, -20 ≤ f i ∧ f i ≤ 20) ∧ fd_L f 5
theorem fd_H0_B {f : Nat → Int} (h : fd_H0 f) : fd_B f 20 := fun i => by have := h.1 i; omega
def fd_all (c : Nat) (f : Nat → Int) : Prop := ∀ i, (c : Int) ∣ f i
theorem fd_all6 {c : Nat} {f : Nat → Int} (hL : fd_L f 5) (h : ∀ i, i < 6 → (c : Int) ∣ f i) : fd_all c f := fun i => by
  by_cases hi : i < 6
  · exact h i hi
  · rw [hL i (by omega)]; exact ⟨0, by simp⟩
/-- the content: the largest common divisor among 1 .. 20 -/
def fd_cont (f : Nat → Int) (c : Nat) : Prop := 1 ≤ c ∧ c ≤ 20 ∧ fd_all c f ∧ ∀ c', c < c' → c' ≤ 20 → ¬ fd_all c' f
theorem fd_cont_pr {f : Nat → Int} {c d : Nat} (h0 : fd_H0 f) (hc : fd_cont f c) (hD : fd_D f d) (k : Int) (hk : k = if 0 ≤ f d then (c : Int) else -(c : Int)) (F : Nat → Int) (hF : f = fd_sm k F) : k ≠ 0 ∧ fd_H F ∧ fd_pr F ∧ fd_D F d ∧ 0 < F d := by
  obtain ⟨h1, h2, h3, h4⟩ := hc
  have hk0 : k ≠ 0 := by rw [hk]; split <;> omega
  have hka : k.natAbs = c := by rw [hk]; split <;> omega
  have hFi : ∀ i, k * F i = f i := fun i => by rw [hF]; rfl
  have hFb : ∀ i, (F i).natAbs ≤ (f i).natAbs := by
    intro i
    rw [← hFi i, Int.natAbs_mul]
    exact Nat.le_mul_of_pos_left _ (by omega)
  have hz : ∀ i, f i = 0 → F i = 0 := fun i hi => by have := hFb i; omega
  have hDF : fd_D F d := ⟨fun e => hD.1 (by rw [← hFi d, e]; simp), fun j hj => hz j (hD.2 j hj)⟩
  refine ⟨hk0, ⟨fun i => ?_, fun j hj => hz j (h0.2 j hj), fd_D_nz hDF⟩, fun m hm => ?_, hDF, ?_⟩
  · have a1 := hFb i
    have a2 := h0.1 i
    omega
  · have hm1 : m ≠ 0 := by
      intro e
      have := hm d
      rw [e] at this
      exact hDF.1 (Int.zero_dvd.mp this)
    have hall : fd_all (c * m) f := by
      intro i
      obtain ⟨x, hx⟩ := hm i
      rw [← hFi i, hx]
      rw [Int.ofNat_dvd_left, Int.natAbs_mul, Int.natAbs_mul, hka, Int.natAbs_natCast, ← Nat.mul_assoc]
      exact ⟨_, rfl⟩
    have hle : c * m ≤ 20 := by
      have h5 := hall d
      rw [Int.ofNat_dvd_left] at h5
      have h6 := Nat.le_of_dvd (Int.natAbs_pos.mpr hD.1) h5
      have := h0.1 d
      omega
    apply Classical.byContradiction
    intro hne
    have h7 : c * 2 ≤ c * m := Nat.mul_le_mul_left c (by omega)
    exact h4 (c * m) (by omega) hle hall
  · have hne := hDF.1
    have e := hFi d
    apply Classical.byContradiction
    intro hn
    by_cases hs : 0 ≤ f d
    · rw [if_pos hs] at hk
      have : k * F d < 0 := Int.mul_neg_of_pos_of_neg (by omega) (by omega)
      omega
    · rw [if_neg hs] at hk
      have : 0 < k * F d := Int.mul_pos_of_neg_of_neg (by omega) (by omega)
      omega
theorem fd_l64n (c : Nat) (hc : c < 2 ^ 31) : (nI c).toInt64 = fd_l (c : Int) := by rw [nI_l hc, fd_l_nat]
theorem xs_dividesAll_rest {post : Int32 → Prop} {fc : Int32} {he : Nat → Int32} {re op qu rs wk fo : Nat → Int64} {f : Nat → Int} {c : Nat} (hR : fd_R rs f) (h0 : fd_H0 f) (hc : 1 ≤ c) (hc2 : c ≤ 20) (H1 : fd_all c f → post 1) (H0 : ¬ fd_all c f → post 0) : wpX_dividesAll__rest post (fc, he, re, op, qu, rs, wk, fo) (nI c) := by
  have hcs : fd_s (c : Int) := fd_s_lit (by omega)
  refine fd_upl (fun n x => wX_dividesAll__rest_2 post (nI c) fc he re op qu rs wk fo n x) (fun j => (c : Int) ∣ f j) 6 (fun h n => ?_) (fun n i hi h hW => ?_)
  · exact br_t (nI_le (Nat.le_refl 6) (by decide)) (H1 (fd_all6 h0.2 h))
  · refine br_f (nI_ge (b := 6) hi (by decide)) (br_f (nI_ne0 hc (by omega)) ⟨vp_in_nI hi (by decide), ?_, ?_⟩)
    · rw [fd_l64n c (by omega)]; exact fun z => absurd ((fd_l_z hcs).mp z) (by omega)
    · rw [fd_l64n c (by omega), nI_clamp (by omega), hR i hi]
      have hs : fd_s (f i) := fd_s_of (fd_H0_B h0 i) (by decide)
      exact br_c (fun z => nm_r (nI_1 i) (hW ((fd_l_rem0 hs hcs).mp z))) (fun z => H0 (fun ha => z ((fd_l_rem0 hs hcs).mpr (ha i))))
theorem xs_contentOf_rest {post : Int32 → Prop} {fc : Int32} {he : Nat → Int32} {re op qu rs wk fo : Nat → Int64} {f : Nat → Int} (hR : fd_R rs f) (h0 : fd_H0 f) (Hz : f = fd_z → post 0) (H : ∀ c d, fd_D f d → fd_cont f c → post (nI c)) : wpX_contentOf__rest post (fc, he, re, op, qu, rs, wk, fo) := by
  unfold wpX_contentOf__rest
  dsimp only
  refine xs_deg_rest hR (fd_H0_B h0) (by decide) h0.2 (fun hz => br_f (by decide) (Hz hz)) (fun d hd hD => br_t (nI_pos' (by omega)) ⟨20, ?_⟩)
  have key : ∀ k, k ≤ 19 → (∀ c', k + 1 < c' → c' ≤ 20 → ¬ fd_all c' f) → wX_contentOf__rest_12 post fc he re op qu rs wk fo (k + 1) (nI (k + 1)) := by
    intro k
    induction k with
    | zero =>
      intro _ hn
      exact br_t (nI_le (a := 1) (b := 1) (Nat.le_refl 1) (by decide)) (H 1 d hD ⟨Nat.le_refl 1, by decide, fun i => ⟨f i, by simp⟩, hn⟩)
    | succ k ih =>
      intro hk hn
      refine br_f (nI_ge (a := 1) (b := k + 1 + 1) (by omega) (by omega)) (xs_dividesAll_rest hR h0 (by omega) (by omega) (fun ha => br_f (by decide) (H (k + 1 + 1) d hD ⟨by omega, by omega, ha, hn⟩)) (fun ha => br_t rfl (nm_r (fd_m1 (k + 1)) (ih (by omega) (fun c' h1 h2 => ?_)))))
      by_cases e : c' = k + 1 + 1
      · rw [e]; exact ha
      · exact hn c' (by omega) h2
  exact key 19 (by omega) (fun c' h1 h2 => absurd h1 (by omega))
theorem xs_prim24_rest {post : SX → Prop} {fc : Int32} {he : Nat → Int32} {re op qu rs wk fo : Nat → Int64} {f F' : Nat → Int} {k : Int} {x1 : Int32} (hx : x1.toInt64 = fd_l k) (hk : k ≠ 0) (hks : fd_s k) (hR : fd_R rs f) (h0 : fd_H0 f) (hF : f = fd_sm k F') (H : ∀ t, fd_R t F' → post (fc, he, re, op, qu, t, wk, fo)) : ∃ n, wX_makePrimitive__rest_24 post x1 fc n 0 he re op qu rs wk fo := by
  refine fd_fill (fun n x t => wX_makePrimitive__rest_24 post x1 fc n x he re op qu t wk fo) 6 0 (fun i => fd_l (F' i)) rs (fun n t h1 _ => ?_) (fun n i t hi h2 hW => ?_)
  · exact br_t (nI_le (Nat.le_refl 6) (by decide)) (H t (fun i hi => by have := h1 i hi; rwa [Nat.zero_add] at this))
  · refine br_f (nI_ge (b := 6) hi (by decide)) ⟨vp_in_nI hi (by decide), ?_, vp_in_nI hi (by decide), nm_r ?_ (nm_r (nI_1 i) hW)⟩
    · rw [hx]; exact fun z => hk ((fd_l_z hks).mp z)
    · have hs : fd_s (f i) := fd_s_of (fd_H0_B h0 i) (by decide)
      have hfi : k * F' i = f i := by rw [hF]; rfl
      rw [hx, nI_clamp (by omega), h2 i (by omega), hR i hi, fd_l_divx hs hks ⟨F' i, hfi.symm⟩, Nat.zero_add, ← hfi, Int.mul_ediv_cancel_left _ hk]
theorem xs_makePrimitive_rest {post : SX → Prop} {fc : Int32} {he : Nat → Int32} {re op qu rs wk fo : Nat → Int64} {f : Nat → Int} (hR : fd_R rs f) (h0 : fd_H0 f) (Hz : f = fd_z → post (fc, he, re, op, qu, rs, wk, fo)) (H : ∀ t F k d, fd_R t F → k ≠ 0 → f = fd_sm k F → fd_H F → fd_pr F → fd_D F d → 0 < F d → post (fc, he, re, op, qu, t, wk, fo)) : wpX_makePrimitive__rest post (fc, he, re, op, qu, rs, wk, fo) := by
  unfold wpX_makePrimitive__rest
  dsimp only
  refine xs_contentOf_rest hR h0 (fun hz => br_t rfl (Hz hz)) (fun c d hD hc => br_f (nI_ne0 hc.1 (by have := hc.2.1; omega)) (xs_leadOf_rest hR (fd_H0_B h0) (by decide) h0.2 (fun hz => absurd hz (fd_D_nz hD)) (fun d' hd' hD' => ?_)))
  have e := fd_D_u hD' hD
  subst e
  have hs : fd_s (f d') := fd_s_of (fd_H0_B h0 d') (by decide)
  have hcl : c < 2 ^ 31 := by have := hc.2.1; omega
  have hck : fd_s (c : Int) := fd_s_lit (by have := hc.2.1; omega)
  have hle : (0 ≤ fd_l (f d')) ↔ 0 ≤ f d' := by
    rw [← fd_l_0]; exact fd_l_le (fd_s_lit (by decide)) hs
  by_cases hsg : 0 ≤ f d'
  · refine br_t (hle.mpr hsg) ?_
    obtain ⟨F, hF⟩ := fd_div_all (f := f) (m := (c : Int)) hc.2.2.1
    obtain ⟨g1, g2, g3, g4, g5⟩ := fd_cont_pr h0 hc hD (c : Int) (by rw [if_pos hsg]) F hF
    exact xs_prim24_rest (fd_l64n c hcl) g1 hck hR h0 hF (fun t ht => H t F _ d' ht g1 hF g2 g3 g4 g5)
  · refine br_f (fun z => hsg (hle.mp z)) (nm_e ?_)
    obtain ⟨F, hF⟩ := fd_div_all (f := f) (m := -(c : Int)) (fun i => Int.neg_dvd.mpr (hc.2.2.1 i))
    obtain ⟨g1, g2, g3, g4, g5⟩ := fd_cont_pr h0 hc hD (-(c : Int)) (by rw [if_neg hsg]) F hF
    have hcn : (-nI c).toInt64 = fd_l (-(c : Int)) := by
      rw [← fd_i_nat, fd_i_neg, fd_i_l (fd_k_lit (by have := hc.2.1; omega))]
    exact xs_prim24_rest hcn g1 ⟨by have := hck.1; have := hck.2; omega, by have := hck.1; have := hck.2; omega⟩ hR h0 hF (fun t ht => H t F _ d' ht g1 hF g2 g3 g4 g5)
theorem xs_dividesAll_result {post : Int32 → Prop} {fc : Int32} {he : Nat → Int32} {re op qu rs wk fo : Nat → Int64} {f : Nat → Int} {c : Nat} (hR : fd_R re f) (h0 : fd_H0 f) (hc : 1 ≤ c) (hc2 : c ≤ 20) (H1 : fd_all c f → post 1) (H0 : ¬ fd_all c f → post 0) : wpX_dividesAll__result post (fc, he, re, op, qu, rs, wk, fo) (nI c) := by
  have hcs : fd_s (c : Int) := fd_s_lit (by omega)
  refine fd_upl (fun n x => wX_dividesAll__result_2 post (nI c) fc he re op qu rs wk fo n x) (fun j => (c : Int) ∣ f j) 6 (fun h n => ?_) (fun n i hi h hW => ?_)
  · exact br_t (nI_le (Nat.le_refl 6) (by decide)) (H1 (fd_all6 h0.2 h))
  · refine br_f (nI_ge (b := 6) hi (by decide)) (br_f (nI_ne0 hc (by omega)) ⟨vp_in_nI hi (by decide), ?_, ?_⟩)
    · rw [fd_l64n c (by omega)]; exact fun z => absurd ((fd_l_z hcs).mp z) (by omega)
    · rw [fd_l64n c (by omega), nI_clamp (by omega), hR i hi]
      have hs : fd_s (f i) := fd_s_of (fd_H0_B h0 i) (by decide)
      exact br_c (fun z => nm_r (nI_1 i) (hW ((fd_l_rem0 hs hcs).mp z))) (fun z => H0 (fun ha => z ((fd_l_rem0 hs hcs).mpr (ha i))))
theorem xs_contentOf_result {post : Int32 → Prop} {fc : Int32} {he : Nat → Int32} {re op qu rs wk fo : Nat → Int64} {f : Nat → Int} (hR : fd_R re f) (h0 : fd_H0 f) (Hz : f = fd_z → post 0) (H : ∀ c d, fd_D f d → fd_cont f c → post (nI c)) : wpX_contentOf__result post (fc, he, re, op, qu, rs, wk, fo) := by
  unfold wpX_contentOf__result
  dsimp only
  refine xs_deg_result hR (fd_H0_B h0) (by decide) h0.2 (fun hz => br_f (by decide) (Hz hz)) (fun d hd hD => br_t (nI_pos' (by omega)) ⟨20, ?_⟩)
  have key : ∀ k, k ≤ 19 → (∀ c', k + 1 < c' → c' ≤ 20 → ¬ fd_all c' f) → wX_contentOf__result_12 post fc he re op qu rs wk fo (k + 1) (nI (k + 1)) := by
    intro k
    induction k with
    | zero =>
      intro _ hn
      exact br_t (nI_le (a := 1) (b := 1) (Nat.le_refl 1) (by decide)) (H 1 d hD ⟨Nat.le_refl 1, by decide, fun i => ⟨f i, by simp⟩, hn⟩)
    | succ k ih =>
      intro hk hn
      refine br_f (nI_ge (a := 1) (b := k + 1 + 1) (by omega) (by omega)) (xs_dividesAll_result hR h0 (by omega) (by omega) (fun ha => br_f (by decide) (H (k + 1 + 1) d hD ⟨by omega, by omega, ha, hn⟩)) (fun ha => br_t rfl (nm_r (fd_m1 (k + 1)) (ih (by omega) (fun c' h1 h2 => ?_)))))
      by_cases e : c' = k + 1 + 1
      · rw [e]; exact ha
      · exact hn c' (by omega) h2
  exact key 19 (by omega) (fun c' h1 h2 => absurd h1 (by omega))
theorem xs_prim24_result {post : SX → Prop} {fc : Int32} {he : Nat → Int32} {re op qu rs wk fo : Nat → Int64} {f F' : Nat → Int} {k : Int} {x1 : Int32} (hx : x1.toInt64 = fd_l k) (hk : k ≠ 0) (hks : fd_s k) (hR : fd_R re f) (h0 : fd_H0 f) (hF : f = fd_sm k F') (H : ∀ t, fd_R t F' → post (fc, he, t, op, qu, rs, wk, fo)) : ∃ n, wX_makePrimitive__result_24 post x1 fc n 0 he re op qu rs wk fo := by
  refine fd_fill (fun n x t => wX_makePrimitive__result_24 post x1 fc n x he t op qu rs wk fo) 6 0 (fun i => fd_l (F' i)) re (fun n t h1 _ => ?_) (fun n i t hi h2 hW => ?_)
  · exact br_t (nI_le (Nat.le_refl 6) (by decide)) (H t (fun i hi => by have := h1 i hi; rwa [Nat.zero_add] at this))
  · refine br_f (nI_ge (b := 6) hi (by decide)) ⟨vp_in_nI hi (by decide), ?_, vp_in_nI hi (by decide), nm_r ?_ (nm_r (nI_1 i) hW)⟩
    · rw [hx]; exact fun z => hk ((fd_l_z hks).mp z)
    · have hs : fd_s (f i) := fd_s_of (fd_H0_B h0 i) (by decide)
      have hfi : k * F' i = f i := by rw [hF]; rfl
      rw [hx, nI_clamp (by omega), h2 i (by omega), hR i hi, fd_l_divx hs hks ⟨F' i, hfi.symm⟩, Nat.zero_add, ← hfi, Int.mul_ediv_cancel_left _ hk]
theorem xs_makePrimitive_result {post : SX → Prop} {fc : Int32} {he : Nat → Int32} {re op qu rs wk fo : Nat → Int64} {f : Nat → Int} (hR : fd_R re f) (h0 : fd_H0 f) (Hz : f = fd_z → post (fc, he, re, op, qu, rs, wk, fo)) (H : ∀ t F k d, fd_R t F → k ≠ 0 → f = fd_sm k F → fd_H F → fd_pr F → fd_D F d → 0 < F d → post (fc, he, t, op, qu, rs, wk, fo)) : wpX_makePrimitive__result post (fc, he, re, op, qu, rs, wk, fo) := by
  unfold wpX_makePrimitive__result
  dsimp only
  refine xs_contentOf_result hR h0 (fun hz => br_t rfl (Hz hz)) (fun c d hD hc => br_f (nI_ne0 hc.1 (by have := hc.2.1; omega)) (xs_leadOf_result hR (fd_H0_B h0) (by decide) h0.2 (fun hz => absurd hz (fd_D_nz hD)) (fun d' hd' hD' => ?_)))
  have e := fd_D_u hD' hD
  subst e
  have hs : fd_s (f d') := fd_s_of (fd_H0_B h0 d') (by decide)
  have hcl : c < 2 ^ 31 := by have := hc.2.1; omega
  have hck : fd_s (c : Int) := fd_s_lit (by have := hc.2.1; omega)
  have hle : (0 ≤ fd_l (f d')) ↔ 0 ≤ f d' := by
    rw [← fd_l_0]; exact fd_l_le (fd_s_lit (by decide)) hs
  by_cases hsg : 0 ≤ f d'
  · refine br_t (hle.mpr hsg) ?_
    obtain ⟨F, hF⟩ := fd_div_all (f := f) (m := (c : Int)) hc.2.2.1
    obtain ⟨g1, g2, g3, g4, g5⟩ := fd_cont_pr h0 hc hD (c : Int) (by rw [if_pos hsg]) F hF
    exact xs_prim24_result (fd_l64n c hcl) g1 hck hR h0 hF (fun t ht => H t F _ d' ht g1 hF g2 g3 g4 g5)
  · refine br_f (fun z => hsg (hle.mp z)) (nm_e ?_)
    obtain ⟨F, hF⟩ := fd_div_all (f := f) (m := -(c : Int)) (fun i => Int.neg_dvd.mpr (hc.2.2.1 i))
    obtain ⟨g1, g2, g3, g4, g5⟩ := fd_cont_pr h0 hc hD (-(c : Int)) (by rw [if_neg hsg]) F hF
    have hcn : (-nI c).toInt64 = fd_l (-(c : Int)) := by
      rw [← fd_i_nat, fd_i_neg, fd_i_l (fd_k_lit (by have := hc.2.1; omega))]
    exact xs_prim24_result hcn g1 ⟨by have := hck.1; have := hck.2; omega, by have := hck.1; have := hck.2; omega⟩ hR h0 hF (fun t ht => H t F _ d' ht g1 hF g2 g3 g4 g5)
