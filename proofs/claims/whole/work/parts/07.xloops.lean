/-! the simple loops of the component -/
theorem fd_downS (W : Nat → Int32 → Prop) (p : Nat → Prop) (e : Nat) (s : Int32) (hse : s = nI e + (-1))
    (hx : (∀ j, j < e → p j) → ∀ n, W (n + 1) (-1))
    (hs : ∀ n i, i < e → (∀ j, i < j → j < e → p j) → (p i → W n (nI i + (-1))) → W (n + 1) (nI i)) : ∃ n, W n s := by
  rw [hse]; exact fd_down W p e hx hs
theorem xs_copy_result_work {post : SX → Prop} {fc : Int32} {he : Nat → Int32} {re op qu rs wk fo : Nat → Int64} (H : ∀ t, (∀ i, i < 6 → t i = re i) → post (fc, he, re, op, qu, rs, t, fo)) : wpX_copy__result_work post (fc, he, re, op, qu, rs, wk, fo) := by
  refine fd_fill (fun n x t => wX_copy__result_work_2 post fc n x he re op qu rs t fo) 6 0 re wk (fun n t h1 _ => ?_) (fun n i t hi _ hW => ?_)
  · exact br_t (nI_le (Nat.le_refl 6) (by decide)) (H t (fun i hi => by have := h1 i hi; rwa [Nat.zero_add] at this))
  · exact br_f (nI_ge (b := 6) hi (by decide)) ⟨vp_in_nI hi (by decide), vp_in_nI hi (by decide), nm_r (by rw [nI_clamp (by omega), Nat.zero_add]) (nm_r (nI_1 i) hW)⟩
theorem xs_copy_rest_work {post : SX → Prop} {fc : Int32} {he : Nat → Int32} {re op qu rs wk fo : Nat → Int64} (H : ∀ t, (∀ i, i < 6 → t i = rs i) → post (fc, he, re, op, qu, rs, t, fo)) : wpX_copy__rest_work post (fc, he, re, op, qu, rs, wk, fo) := by
  refine fd_fill (fun n x t => wX_copy__rest_work_2 post fc n x he re op qu rs t fo) 6 0 rs wk (fun n t h1 _ => ?_) (fun n i t hi _ hW => ?_)
  · exact br_t (nI_le (Nat.le_refl 6) (by decide)) (H t (fun i hi => by have := h1 i hi; rwa [Nat.zero_add] at this))
  · exact br_f (nI_ge (b := 6) hi (by decide)) ⟨vp_in_nI hi (by decide), vp_in_nI hi (by decide), nm_r (by rw [nI_clamp (by omega), Nat.zero_add]) (nm_r (nI_1 i) hW)⟩
theorem xs_copy_quotient_rest {post : SX → Prop} {fc : Int32} {he : Nat → Int32} {re op qu rs wk fo : Nat → Int64} (H : ∀ t, (∀ i, i < 6 → t i = qu i) → post (fc, he, re, op, qu, t, wk, fo)) : wpX_copy__quotient_rest post (fc, he, re, op, qu, rs, wk, fo) := by
  refine fd_fill (fun n x t => wX_copy__quotient_rest_2 post fc n x he re op qu t wk fo) 6 0 qu rs (fun n t h1 _ => ?_) (fun n i t hi _ hW => ?_)
  · exact br_t (nI_le (Nat.le_refl 6) (by decide)) (H t (fun i hi => by have := h1 i hi; rwa [Nat.zero_add] at this))
  · exact br_f (nI_ge (b := 6) hi (by decide)) ⟨vp_in_nI hi (by decide), vp_in_nI hi (by decide), nm_r (by rw [nI_clamp (by omega), Nat.zero_add]) (nm_r (nI_1 i) hW)⟩
theorem xs_copy_quotient_result {post : SX → Prop} {fc : Int32} {he : Nat → Int32} {re op qu rs wk fo : Nat → Int64} (H : ∀ t, (∀ i, i < 6 → t i = qu i) → post (fc, he, t, op, qu, rs, wk, fo)) : wpX_copy__quotient_result post (fc, he, re, op, qu, rs, wk, fo) := by
  refine fd_fill (fun n x t => wX_copy__quotient_result_2 post fc n x he t op qu rs wk fo) 6 0 qu re (fun n t h1 _ => ?_) (fun n i t hi _ hW => ?_)
  · exact br_t (nI_le (Nat.le_refl 6) (by decide)) (H t (fun i hi => by have := h1 i hi; rwa [Nat.zero_add] at this))
  · exact br_f (nI_ge (b := 6) hi (by decide)) ⟨vp_in_nI hi (by decide), vp_in_nI hi (by decide), nm_r (by rw [nI_clamp (by omega), Nat.zero_add]) (nm_r (nI_1 i) hW)⟩
theorem xs_clear_result {post : SX → Prop} {fc : Int32} {he : Nat → Int32} {re op qu rs wk fo : Nat → Int64} (H : ∀ t, (∀ i, i < 6 → t i = 0) → post (fc, he, t, op, qu, rs, wk, fo)) : wpX_clear__result post (fc, he, re, op, qu, rs, wk, fo) := by
  refine fd_fill (fun n x t => wX_clear__result_2 post fc n x he t op qu rs wk fo) 6 0 (fun _ => 0) re (fun n t h1 _ => ?_) (fun n i t hi _ hW => ?_)
  · exact br_t (nI_le (Nat.le_refl 6) (by decide)) (H t (fun i hi => by have := h1 i hi; rwa [Nat.zero_add] at this))
  · exact br_f (nI_ge (b := 6) hi (by decide)) ⟨vp_in_nI hi (by decide), nm_r (by rw [nI_clamp (by omega), Nat.zero_add]) (nm_r (nI_1 i) hW)⟩
theorem xs_clear_operand {post : SX → Prop} {fc : Int32} {he : Nat → Int32} {re op qu rs wk fo : Nat → Int64} (H : ∀ t, (∀ i, i < 6 → t i = 0) → post (fc, he, re, t, qu, rs, wk, fo)) : wpX_clear__operand post (fc, he, re, op, qu, rs, wk, fo) := by
  refine fd_fill (fun n x t => wX_clear__operand_2 post fc n x he re t qu rs wk fo) 6 0 (fun _ => 0) op (fun n t h1 _ => ?_) (fun n i t hi _ hW => ?_)
  · exact br_t (nI_le (Nat.le_refl 6) (by decide)) (H t (fun i hi => by have := h1 i hi; rwa [Nat.zero_add] at this))
  · exact br_f (nI_ge (b := 6) hi (by decide)) ⟨vp_in_nI hi (by decide), nm_r (by rw [nI_clamp (by omega), Nat.zero_add]) (nm_r (nI_1 i) hW)⟩
theorem xs_load_result {post : SX → Prop} {fc : Int32} {he : Nat → Int32} {re op qu rs wk fo : Nat → Int64} {r : Nat} (hr : r < 4) (H : ∀ t, (∀ i, i < 6 → t i = (he (r * 6 + i)).toInt64) → post (fc, he, t, op, qu, rs, wk, fo)) : wpX_load__result post (fc, he, re, op, qu, rs, wk, fo) (nI r) := by
  refine fd_fill (fun n x t => wX_load__result_2 post (nI r) fc n x he t op qu rs wk fo) 6 0 (fun i => (he (r * 6 + i)).toInt64) re (fun n t h1 _ => ?_) (fun n i t hi _ hW => ?_)
  · exact br_t (nI_le (Nat.le_refl 6) (by decide)) (H t (fun i hi => by have := h1 i hi; rwa [Nat.zero_add] at this))
  · exact br_f (nI_ge (b := 6) hi (by decide)) ⟨by rw [fd_ixX]; exact vp_in_nI (by omega) (by decide), vp_in_nI hi (by decide), nm_r (by rw [fd_ixX, nI_clamp (by omega), nI_clamp (by omega), Nat.zero_add]) (nm_r (nI_1 i) hW)⟩
theorem xs_load_rest {post : SX → Prop} {fc : Int32} {he : Nat → Int32} {re op qu rs wk fo : Nat → Int64} {r : Nat} (hr : r < 4) (H : ∀ t, (∀ i, i < 6 → t i = (he (r * 6 + i)).toInt64) → post (fc, he, re, op, qu, t, wk, fo)) : wpX_load__rest post (fc, he, re, op, qu, rs, wk, fo) (nI r) := by
  refine fd_fill (fun n x t => wX_load__rest_2 post (nI r) fc n x he re op qu t wk fo) 6 0 (fun i => (he (r * 6 + i)).toInt64) rs (fun n t h1 _ => ?_) (fun n i t hi _ hW => ?_)
  · exact br_t (nI_le (Nat.le_refl 6) (by decide)) (H t (fun i hi => by have := h1 i hi; rwa [Nat.zero_add] at this))
  · exact br_f (nI_ge (b := 6) hi (by decide)) ⟨by rw [fd_ixX]; exact vp_in_nI (by omega) (by decide), vp_in_nI hi (by decide), nm_r (by rw [fd_ixX, nI_clamp (by omega), nI_clamp (by omega), Nat.zero_add]) (nm_r (nI_1 i) hW)⟩
theorem xs_load_operand {post : SX → Prop} {fc : Int32} {he : Nat → Int32} {re op qu rs wk fo : Nat → Int64} {r : Nat} (hr : r < 4) (H : ∀ t, (∀ i, i < 6 → t i = (he (r * 6 + i)).toInt64) → post (fc, he, re, t, qu, rs, wk, fo)) : wpX_load__operand post (fc, he, re, op, qu, rs, wk, fo) (nI r) := by
  refine fd_fill (fun n x t => wX_load__operand_2 post (nI r) fc n x he re t qu rs wk fo) 6 0 (fun i => (he (r * 6 + i)).toInt64) op (fun n t h1 _ => ?_) (fun n i t hi _ hW => ?_)
  · exact br_t (nI_le (Nat.le_refl 6) (by decide)) (H t (fun i hi => by have := h1 i hi; rwa [Nat.zero_add] at this))
  · exact br_f (nI_ge (b := 6) hi (by decide)) ⟨by rw [fd_ixX]; exact vp_in_nI (by omega) (by decide), vp_in_nI hi (by decide), nm_r (by rw [fd_ixX, nI_clamp (by omega), nI_clamp (by omega), Nat.zero_add]) (nm_r (nI_1 i) hW)⟩
theorem xs_loadFound_result {post : SX → Prop} {fc : Int32} {he : Nat → Int32} {re op qu rs wk fo : Nat → Int64} {r : Nat} (hr : r < 5) (H : ∀ t, (∀ i, i < 6 → t i = fo (r * 6 + i)) → post (fc, he, t, op, qu, rs, wk, fo)) : wpX_loadFound__result post (fc, he, re, op, qu, rs, wk, fo) (nI r) := by
  refine fd_fill (fun n x t => wX_loadFound__result_2 post (nI r) fc n x he t op qu rs wk fo) 6 0 (fun i => fo (r * 6 + i)) re (fun n t h1 _ => ?_) (fun n i t hi _ hW => ?_)
  · exact br_t (nI_le (Nat.le_refl 6) (by decide)) (H t (fun i hi => by have := h1 i hi; rwa [Nat.zero_add] at this))
  · exact br_f (nI_ge (b := 6) hi (by decide)) ⟨by rw [fd_ixX]; exact vp_in_nI (by omega) (by decide), vp_in_nI hi (by decide), nm_r (by rw [fd_ixX, nI_clamp (by omega), nI_clamp (by omega), Nat.zero_add]) (nm_r (nI_1 i) hW)⟩
theorem xs_loadFound_operand {post : SX → Prop} {fc : Int32} {he : Nat → Int32} {re op qu rs wk fo : Nat → Int64} {r : Nat} (hr : r < 5) (H : ∀ t, (∀ i, i < 6 → t i = fo (r * 6 + i)) → post (fc, he, re, t, qu, rs, wk, fo)) : wpX_loadFound__operand post (fc, he, re, op, qu, rs, wk, fo) (nI r) := by
  refine fd_fill (fun n x t => wX_loadFound__operand_2 post (nI r) fc n x he re t qu rs wk fo) 6 0 (fun i => fo (r * 6 + i)) op (fun n t h1 _ => ?_) (fun n i t hi _ hW => ?_)
  · exact br_t (nI_le (Nat.le_refl 6) (by decide)) (H t (fun i hi => by have := h1 i hi; rwa [Nat.zero_add] at this))
  · exact br_f (nI_ge (b := 6) hi (by decide)) ⟨by rw [fd_ixX]; exact vp_in_nI (by omega) (by decide), vp_in_nI hi (by decide), nm_r (by rw [fd_ixX, nI_clamp (by omega), nI_clamp (by omega), Nat.zero_add]) (nm_r (nI_1 i) hW)⟩
theorem xs_degreeOf_result {post : Int32 → Prop} {fc : Int32} {he : Nat → Int32} {re op qu rs wk fo : Nat → Int64} (H0 : (∀ i, i < 6 → re i = 0) → post (-1)) (H1 : ∀ d, d < 6 → re d ≠ 0 → (∀ j, d < j → j < 6 → re j = 0) → post (nI d)) : wpX_degreeOf__result post (fc, he, re, op, qu, rs, wk, fo) := by
  refine fd_downS (fun n x => wX_degreeOf__result_2 post fc he re op qu rs wk fo n x) (fun j => re j = 0) 6 5 (by decide) (fun h n => ?_) (fun n i hi h hW => ?_)
  · exact br_t (by decide) (H0 h)
  · exact br_f (nI_pos (by omega)) ⟨vp_in_nI hi (by decide), br_c (fun z => nm_e (hW (by rwa [nI_clamp (by omega)] at z))) (fun z => H1 i hi (by rwa [nI_clamp (by omega)] at z) h)⟩
theorem xs_deg_result {post : Int32 → Prop} {fc : Int32} {he : Nat → Int32} {re op qu rs wk fo : Nat → Int64} {f : Nat → Int} {M : Nat} (hR : fd_R re f) (hB : fd_B f M) (hM : M ≤ 4611686018427387904) (hL : fd_L f 5) (H0 : f = fd_z → post (-1)) (H1 : ∀ d, d < 6 → fd_D f d → post (nI d)) : wpX_degreeOf__result post (fc, he, re, op, qu, rs, wk, fo) := by
  refine xs_degreeOf_result (fun h => H0 (funext fun i => ?_)) (fun d hd h1 h2 => H1 d hd ⟨fun e => h1 ((fd_R0 hR hB hM hd).mpr e), fun j hj => ?_⟩)
  · by_cases hi : i < 6
    · exact (fd_R0 hR hB hM hi).mp (h i hi)
    · exact hL i (by omega)
  · by_cases hj6 : j < 6
    · exact (fd_R0 hR hB hM hj6).mp (h2 j hj hj6)
    · exact hL j (by omega)
theorem xs_degreeOf_work {post : Int32 → Prop} {fc : Int32} {he : Nat → Int32} {re op qu rs wk fo : Nat → Int64} (H0 : (∀ i, i < 6 → wk i = 0) → post (-1)) (H1 : ∀ d, d < 6 → wk d ≠ 0 → (∀ j, d < j → j < 6 → wk j = 0) → post (nI d)) : wpX_degreeOf__work post (fc, he, re, op, qu, rs, wk, fo) := by
  refine fd_downS (fun n x => wX_degreeOf__work_2 post fc he re op qu rs wk fo n x) (fun j => wk j = 0) 6 5 (by decide) (fun h n => ?_) (fun n i hi h hW => ?_)
  · exact br_t (by decide) (H0 h)
  · exact br_f (nI_pos (by omega)) ⟨vp_in_nI hi (by decide), br_c (fun z => nm_e (hW (by rwa [nI_clamp (by omega)] at z))) (fun z => H1 i hi (by rwa [nI_clamp (by omega)] at z) h)⟩
theorem xs_deg_work {post : Int32 → Prop} {fc : Int32} {he : Nat → Int32} {re op qu rs wk fo : Nat → Int64} {f : Nat → Int} {M : Nat} (hR : fd_R wk f) (hB : fd_B f M) (hM : M ≤ 4611686018427387904) (hL : fd_L f 5) (H0 : f = fd_z → post (-1)) (H1 : ∀ d, d < 6 → fd_D f d → post (nI d)) : wpX_degreeOf__work post (fc, he, re, op, qu, rs, wk, fo) := by
  refine xs_degreeOf_work (fun h => H0 (funext fun i => ?_)) (fun d hd h1 h2 => H1 d hd ⟨fun e => h1 ((fd_R0 hR hB hM hd).mpr e), fun j hj => ?_⟩)
  · by_cases hi : i < 6
    · exact (fd_R0 hR hB hM hi).mp (h i hi)
    · exact hL i (by omega)
  · by_cases hj6 : j < 6
    · exact (fd_R0 hR hB hM hj6).mp (h2 j hj hj6)
    · exact hL j (by omega)
theorem xs_degreeOf_rest {post : Int32 → Prop} {fc : Int32} {he : Nat → Int32} {re op qu rs wk fo : Nat → Int64} (H0 : (∀ i, i < 6 → rs i = 0) → post (-1)) (H1 : ∀ d, d < 6 → rs d ≠ 0 → (∀ j, d < j → j < 6 → rs j = 0) → post (nI d)) : wpX_degreeOf__rest post (fc, he, re, op, qu, rs, wk, fo) := by
  refine fd_downS (fun n x => wX_degreeOf__rest_2 post fc he re op qu rs wk fo n x) (fun j => rs j = 0) 6 5 (by decide) (fun h n => ?_) (fun n i hi h hW => ?_)
  · exact br_t (by decide) (H0 h)
  · exact br_f (nI_pos (by omega)) ⟨vp_in_nI hi (by decide), br_c (fun z => nm_e (hW (by rwa [nI_clamp (by omega)] at z))) (fun z => H1 i hi (by rwa [nI_clamp (by omega)] at z) h)⟩
theorem xs_deg_rest {post : Int32 → Prop} {fc : Int32} {he : Nat → Int32} {re op qu rs wk fo : Nat → Int64} {f : Nat → Int} {M : Nat} (hR : fd_R rs f) (hB : fd_B f M) (hM : M ≤ 4611686018427387904) (hL : fd_L f 5) (H0 : f = fd_z → post (-1)) (H1 : ∀ d, d < 6 → fd_D f d → post (nI d)) : wpX_degreeOf__rest post (fc, he, re, op, qu, rs, wk, fo) := by
  refine xs_degreeOf_rest (fun h => H0 (funext fun i => ?_)) (fun d hd h1 h2 => H1 d hd ⟨fun e => h1 ((fd_R0 hR hB hM hd).mpr e), fun j hj => ?_⟩)
  · by_cases hi : i < 6
    · exact (fd_R0 hR hB hM hi).mp (h i hi)
    · exact hL i (by omega)
  · by_cases hj6 : j < 6
    · exact (fd_R0 hR hB hM hj6).mp (h2 j hj hj6)
    · exact hL j (by omega)
theorem xs_degreeOf_operand {post : Int32 → Prop} {fc : Int32} {he : Nat → Int32} {re op qu rs wk fo : Nat → Int64} (H0 : (∀ i, i < 6 → op i = 0) → post (-1)) (H1 : ∀ d, d < 6 → op d ≠ 0 → (∀ j, d < j → j < 6 → op j = 0) → post (nI d)) : wpX_degreeOf__operand post (fc, he, re, op, qu, rs, wk, fo) := by
  refine fd_downS (fun n x => wX_degreeOf__operand_2 post fc he re op qu rs wk fo n x) (fun j => op j = 0) 6 5 (by decide) (fun h n => ?_) (fun n i hi h hW => ?_)
  · exact br_t (by decide) (H0 h)
  · exact br_f (nI_pos (by omega)) ⟨vp_in_nI hi (by decide), br_c (fun z => nm_e (hW (by rwa [nI_clamp (by omega)] at z))) (fun z => H1 i hi (by rwa [nI_clamp (by omega)] at z) h)⟩
theorem xs_deg_operand {post : Int32 → Prop} {fc : Int32} {he : Nat → Int32} {re op qu rs wk fo : Nat → Int64} {f : Nat → Int} {M : Nat} (hR : fd_R op f) (hB : fd_B f M) (hM : M ≤ 4611686018427387904) (hL : fd_L f 5) (H0 : f = fd_z → post (-1)) (H1 : ∀ d, d < 6 → fd_D f d → post (nI d)) : wpX_degreeOf__operand post (fc, he, re, op, qu, rs, wk, fo) := by
  refine xs_degreeOf_operand (fun h => H0 (funext fun i => ?_)) (fun d hd h1 h2 => H1 d hd ⟨fun e => h1 ((fd_R0 hR hB hM hd).mpr e), fun j hj => ?_⟩)
  · by_cases hi : i < 6
    · exact (fd_R0 hR hB hM hi).mp (h i hi)
    · exact hL i (by omega)
  · by_cases hj6 : j < 6
    · exact (fd_R0 hR hB hM hj6).mp (h2 j hj hj6)
    · exact hL j (by omega)
theorem xs_leadOf_rest {post : Int64 → Prop} {fc : Int32} {he : Nat → Int32} {re op qu rs wk fo : Nat → Int64} {f : Nat → Int} {M : Nat} (hR : fd_R rs f) (hB : fd_B f M) (hM : M ≤ 4611686018427387904) (hL : fd_L f 5) (H0 : f = fd_z → post 0) (H1 : ∀ d, d < 6 → fd_D f d → post (fd_l (f d))) : wpX_leadOf__rest post (fc, he, re, op, qu, rs, wk, fo) := by
  unfold wpX_leadOf__rest
  dsimp only
  refine xs_deg_rest hR hB hM hL (fun h => br_f (by decide) (H0 h)) (fun d hd h1 => br_t (nI_pos' (by omega)) ⟨vp_in_nI hd (by decide), ?_⟩)
  rw [nI_clamp (by omega), hR d hd]; exact H1 d hd h1
theorem xs_leadOf_result {post : Int64 → Prop} {fc : Int32} {he : Nat → Int32} {re op qu rs wk fo : Nat → Int64} {f : Nat → Int} {M : Nat} (hR : fd_R re f) (hB : fd_B f M) (hM : M ≤ 4611686018427387904) (hL : fd_L f 5) (H0 : f = fd_z → post 0) (H1 : ∀ d, d < 6 → fd_D f d → post (fd_l (f d))) : wpX_leadOf__result post (fc, he, re, op, qu, rs, wk, fo) := by
  unfold wpX_leadOf__result
  dsimp only
  refine xs_deg_result hR hB hM hL (fun h => br_f (by decide) (H0 h)) (fun d hd h1 => br_t (nI_pos' (by omega)) ⟨vp_in_nI hd (by decide), ?_⟩)
  rw [nI_clamp (by omega), hR d hd]; exact H1 d hd h1
theorem xs_leadOf_operand {post : Int64 → Prop} {fc : Int32} {he : Nat → Int32} {re op qu rs wk fo : Nat → Int64} {f : Nat → Int} {M : Nat} (hR : fd_R op f) (hB : fd_B f M) (hM : M ≤ 4611686018427387904) (hL : fd_L f 5) (H0 : f = fd_z → post 0) (H1 : ∀ d, d < 6 → fd_D f d → post (fd_l (f d))) : wpX_leadOf__operand post (fc, he, re, op, qu, rs, wk, fo) := by
  unfold wpX_leadOf__operand
  dsimp only
  refine xs_deg_operand hR hB hM hL (fun h => br_f (by decide) (H0 h)) (fun d hd h1 => br_t (nI_pos' (by omega)) ⟨vp_in_nI hd (by decide), ?_⟩)
  rw [nI_clamp (by omega), hR d hd]; exact H1 d hd h1
theorem xs_addFound_operand {post : SX → Prop} {c : Nat} {he : Nat → Int32} {re op qu rs wk fo : Nat → Int64} (hc : c < 5) (H : ∀ t, (∀ i, i < 6 → t (c * 6 + i) = op i) → (∀ j, j < c * 6 → t j = fo j) → post (nI (c + 1), he, re, op, qu, rs, wk, t)) : wpX_addFound__operand post (nI c, he, re, op, qu, rs, wk, fo) := by
  refine br_t (nI_lt (b := 5) hc (by decide)) (fd_fill (fun n x t => wX_addFound__operand_11 post (nI c) n x he re op qu rs wk t) 6 (c * 6) op fo (fun n t h1 h2 => ?_) (fun n i t hi _ hW => ?_))
  · exact br_t (nI_le (Nat.le_refl 6) (by decide)) (nm_r (nI_1 c) (H t h1 (fun j hj => h2 j (Or.inl hj))))
  · exact br_f (nI_ge (b := 6) hi (by decide)) ⟨vp_in_nI hi (by decide), by rw [fd_ixX]; exact vp_in_nI (by omega) (by decide), nm_r (by rw [fd_ixX, nI_clamp (by omega), nI_clamp (by omega)]) (nm_r (nI_1 i) hW)⟩
theorem xs_addFound_rest {post : SX → Prop} {c : Nat} {he : Nat → Int32} {re op qu rs wk fo : Nat → Int64} (hc : c < 5) (H : ∀ t, (∀ i, i < 6 → t (c * 6 + i) = rs i) → (∀ j, j < c * 6 → t j = fo j) → post (nI (c + 1), he, re, op, qu, rs, wk, t)) : wpX_addFound__rest post (nI c, he, re, op, qu, rs, wk, fo) := by
  refine br_t (nI_lt (b := 5) hc (by decide)) (fd_fill (fun n x t => wX_addFound__rest_11 post (nI c) n x he re op qu rs wk t) 6 (c * 6) rs fo (fun n t h1 h2 => ?_) (fun n i t hi _ hW => ?_))
  · exact br_t (nI_le (Nat.le_refl 6) (by decide)) (nm_r (nI_1 c) (H t h1 (fun j hj => h2 j (Or.inl hj))))
  · exact br_f (nI_ge (b := 6) hi (by decide)) ⟨vp_in_nI hi (by decide), by rw [fd_ixX]; exact vp_in_nI (by omega) (by decide), nm_r (by rw [fd_ixX, nI_clamp (by omega), nI_clamp (by omega)]) (nm_r (nI_1 i) hW)⟩
