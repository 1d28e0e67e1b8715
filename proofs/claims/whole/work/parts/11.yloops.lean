/-! the simple loops of the reference -/
theorem fd_ixZ (r i : Nat) : 6 * nI r + nI i = nI (r * 6 + i) := by rw [fd_ixY, Nat.mul_comm]
/-- a loop that looks up from 0 and keeps the last index where z fails -/
theorem fd_scan (W : Nat → Int32 → Int32 → Prop) (z : Nat → Prop) (N : Nat) (x0 : Int32)
    (hx0 : (∀ j, j < N → z j) → ∀ n, W (n + 1) x0 (nI N))
    (hx1 : ∀ d, d < N → ¬ z d → (∀ j, d < j → j < N → z j) → ∀ n, W (n + 1) (nI d) (nI N))
    (hs0 : ∀ n i x, i < N → z i → W n x (nI (i + 1)) → W (n + 1) x (nI i))
    (hs1 : ∀ n i x, i < N → ¬ z i → W n (nI i) (nI (i + 1)) → W (n + 1) x (nI i)) : ∃ n, W n x0 (nI 0) := by
  have key : ∀ k i x, i + k = N → ((∀ j, j < i → z j) ∧ x = x0 ∨ ∃ d, d < i ∧ ¬ z d ∧ (∀ j, d < j → j < i → z j) ∧ x = nI d) → W (k + 1) x (nI i) := by
    intro k
    induction k with
    | zero =>
      intro i x hi h
      have e : i = N := by omega
      subst e
      rcases h with ⟨h1, h2⟩ | ⟨d, h1, h2, h3, h4⟩
      · rw [h2]; exact hx0 h1 0
      · rw [h4]; exact hx1 d h1 h2 h3 0
    | succ k ih =>
      intro i x hi h
      by_cases hz : z i
      · refine hs0 (k + 1) i x (by omega) hz (ih (i + 1) x (by omega) ?_)
        rcases h with ⟨h1, h2⟩ | ⟨d, h1, h2, h3, h4⟩
        · left
          refine ⟨fun j hj => ?_, h2⟩
          by_cases e : j = i
          · rw [e]; exact hz
          · exact h1 j (by omega)
        · right
          refine ⟨d, by omega, h2, fun j h5 h6 => ?_, h4⟩
          by_cases e : j = i
          · rw [e]; exact hz
          · exact h3 j h5 (by omega)
      · exact hs1 (k + 1) i x (by omega) hz (ih (i + 1) (nI i) (by omega) (Or.inr ⟨i, by omega, hz, fun j h5 h6 => absurd h5 (by omega), rfl⟩))
  exact ⟨_, key N 0 x0 (by omega) (Or.inl ⟨fun j hj => absurd hj (Nat.not_lt_zero j), rfl⟩)⟩
/-- two arrays filled at once -/
theorem fd_fill2 (W : Nat → Int32 → (Nat → Int64) → (Nat → Int64) → Prop) (N : Nat) (g g' a0 b0 : Nat → Int64)
    (hx : ∀ n a b, (∀ j, j < N → a j = g j) → (∀ j, j < N → b j = g' j) → W (n + 1) (nI N) a b)
    (hs : ∀ n i a b, i < N → W n (nI (i + 1)) (vp_updL a i (g i)) (vp_updL b i (g' i)) → W (n + 1) (nI i) a b) : ∃ n, W n (nI 0) a0 b0 := by
  have key : ∀ k i a b, i + k = N → (∀ j, j < i → a j = g j) → (∀ j, j < i → b j = g' j) → W (k + 1) (nI i) a b := by
    intro k
    induction k with
    | zero =>
      intro i a b hi h1 h2
      have e : i = N := by omega
      subst e
      exact hx 0 a b h1 h2
    | succ k ih =>
      intro i a b hi h1 h2
      refine hs (k + 1) i a b (by omega) (ih (i + 1) _ _ (by omega) (fun j hj => ?_) (fun j hj => ?_))
      · by_cases e : j = i
        · subst e; exact fd_uLs
        · rw [fd_uLn (by omega)]; exact h1 j (by omega)
      · by_cases e : j = i
        · subst e; exact fd_uLs
        · rw [fd_uLn (by omega)]; exact h2 j (by omega)
  exact ⟨N + 1, key N 0 a0 b0 (by omega) (fun j hj => absurd hj (Nat.not_lt_zero j)) (fun j hj => absurd hj (Nat.not_lt_zero j))⟩
section
variable {cn ot : Int32} {rg : Nat → Int32} {md wh td yr yq pt kp : Nat → Int64} {dg : Nat → Int32}
theorem ys_isRegister {post : Int32 → Prop} {r : Nat} (hr : r < 4) (H : post 1) : wpY_isRegister post (cn, ot, rg, md, wh, td, yr, yq, pt, kp, dg) (nI r) :=
  br_f (nI_pos (by omega)) (br_f (nI_nlt (a := 3) (b := r) (by omega) (by omega)) H)
theorem ys_clearMade {post : SY → Prop} (H : ∀ t, (∀ i, i < 11 → t i = 0) → post (cn, ot, rg, t, wh, td, yr, yq, pt, kp, dg)) : wpY_clearMade post (cn, ot, rg, md, wh, td, yr, yq, pt, kp, dg) := by
  refine fd_fill (fun n x t => wY_clearMade_2 post cn ot n x rg t wh td yr yq pt kp dg) 11 0 (fun _ => 0) md (fun n t h1 _ => ?_) (fun n i t hi _ hW => ?_)
  · exact br_t (nI_le (Nat.le_refl 11) (by decide)) (H t (fun i hi => by have := h1 i hi; rwa [Nat.zero_add] at this))
  · exact br_f (nI_ge (b := 11) hi (by decide)) ⟨vp_in_nI hi (by decide), nm_r (by rw [nI_clamp (by omega), Nat.zero_add]) (nm_r (nI_1 i) hW)⟩
theorem ys_take {post : SY → Prop} {r : Nat} (hr : r < 4) (H : ∀ t, (∀ i, i < 6 → t i = (rg (r * 6 + i)).toInt64) → post (cn, ot, rg, md, t, td, yr, yq, pt, kp, dg)) : wpY_take post (cn, ot, rg, md, wh, td, yr, yq, pt, kp, dg) (nI r) := by
  refine fd_fill (fun n x t => wY_take_2 post (nI r) cn ot n x rg md t td yr yq pt kp dg) 6 0 (fun i => (rg (r * 6 + i)).toInt64) wh (fun n t h1 _ => ?_) (fun n i t hi _ hW => ?_)
  · exact br_t (nI_le (Nat.le_refl 6) (by decide)) (H t (fun i hi => by have := h1 i hi; rwa [Nat.zero_add] at this))
  · exact br_f (nI_ge (b := 6) hi (by decide)) ⟨by rw [fd_ixZ]; exact vp_in_nI (by omega) (by decide), vp_in_nI hi (by decide), nm_r (by rw [fd_ixZ, nI_clamp (by omega), nI_clamp (by omega), Nat.zero_add]) (nm_r (nI_1 i) hW)⟩
theorem ys_degreeOfWhole {post : Int32 → Prop} (H0 : (∀ i, i < 6 → wh i = 0) → post (-1)) (H1 : ∀ d, d < 6 → wh d ≠ 0 → (∀ j, d < j → j < 6 → wh j = 0) → post (nI d)) : wpY_degreeOfWhole post (cn, ot, rg, md, wh, td, yr, yq, pt, kp, dg) := by
  refine fd_scan (fun n x y => wY_degreeOfWhole_4 post cn ot rg md wh td yr yq pt kp dg n x y) (fun j => wh j = 0) 6 (-1) (fun h n => ?_) (fun d hd h1 h2 n => ?_) (fun n i x hi hz hW => ?_) (fun n i x hi hz hW => ?_)
  · exact br_t (nI_le (Nat.le_refl 6) (by decide)) (H0 h)
  · exact br_t (nI_le (Nat.le_refl 6) (by decide)) (H1 d hd h1 h2)
  · exact br_f (nI_ge (b := 6) hi (by decide)) ⟨vp_in_nI hi (by decide), br_t (by rw [nI_clamp (by omega)]; exact hz) (nm_r (nI_1 i) hW)⟩
  · exact br_f (nI_ge (b := 6) hi (by decide)) ⟨vp_in_nI hi (by decide), br_f (by rw [nI_clamp (by omega)]; exact hz) (nm_r (nI_1 i) hW)⟩
theorem ys_topModulo {post : Int32 → Prop} (H0 : (∀ i, i < 6 → wh i = 0) → post (-1)) (H1 : ∀ d, d < 6 → wh d ≠ 0 → (∀ j, d < j → j < 6 → wh j = 0) → post (nI d)) : wpY_topModulo post (cn, ot, rg, md, wh, td, yr, yq, pt, kp, dg) := by
  refine fd_scan (fun n x y => wY_topModulo_4 post cn ot rg md wh td yr yq pt kp dg n x y) (fun j => wh j = 0) 6 (-1) (fun h n => ?_) (fun d hd h1 h2 n => ?_) (fun n i x hi hz hW => ?_) (fun n i x hi hz hW => ?_)
  · exact br_t (nI_le (Nat.le_refl 6) (by decide)) (H0 h)
  · exact br_t (nI_le (Nat.le_refl 6) (by decide)) (H1 d hd h1 h2)
  · exact br_f (nI_ge (b := 6) hi (by decide)) ⟨vp_in_nI hi (by decide), br_t (by rw [nI_clamp (by omega)]; exact hz) (nm_r (nI_1 i) hW)⟩
  · exact br_f (nI_ge (b := 6) hi (by decide)) ⟨vp_in_nI hi (by decide), br_f (by rw [nI_clamp (by omega)]; exact hz) (nm_r (nI_1 i) hW)⟩
theorem ys_degreeOfPart {post : Int32 → Prop} {k : Nat} (hk : k < 6) (H0 : (∀ i, i < 6 → pt (k * 6 + i) = 0) → post 0) (H1 : ∀ d, d < 6 → pt (k * 6 + d) ≠ 0 → (∀ j, d < j → j < 6 → pt (k * 6 + j) = 0) → post (nI d)) : wpY_degreeOfPart post (cn, ot, rg, md, wh, td, yr, yq, pt, kp, dg) (nI k) := by
  refine fd_scan (fun n x y => wY_degreeOfPart_4 post (nI k) cn ot rg md wh td yr yq pt kp dg n x y) (fun j => pt (k * 6 + j) = 0) 6 0 (fun h n => ?_) (fun d hd h1 h2 n => ?_) (fun n i x hi hz hW => ?_) (fun n i x hi hz hW => ?_)
  · exact br_t (nI_le (Nat.le_refl 6) (by decide)) (H0 h)
  · exact br_t (nI_le (Nat.le_refl 6) (by decide)) (H1 d hd h1 h2)
  · exact br_f (nI_ge (b := 6) hi (by decide)) ⟨by rw [fd_ixZ]; exact vp_in_nI (by omega) (by decide), br_t (by rw [fd_ixZ, nI_clamp (by omega)]; exact hz) (nm_r (nI_1 i) hW)⟩
  · exact br_f (nI_ge (b := 6) hi (by decide)) ⟨by rw [fd_ixZ]; exact vp_in_nI (by omega) (by decide), br_f (by rw [fd_ixZ, nI_clamp (by omega)]; exact hz) (nm_r (nI_1 i) hW)⟩
theorem ys_degreeR {post : Int32 → Prop} {r : Nat} (hr : r < 4) (H0 : (∀ i, i < 6 → rg (r * 6 + i) = 0) → post (-1)) (H1 : ∀ d, d < 6 → rg (r * 6 + d) ≠ 0 → (∀ j, d < j → j < 6 → rg (r * 6 + j) = 0) → post (nI d)) : wpY_degree post (cn, ot, rg, md, wh, td, yr, yq, pt, kp, dg) (nI r) := by
  unfold wpY_degree
  dsimp only
  refine ys_isRegister hr (br_f (by decide) ?_)
  refine fd_scan (fun n x y => wY_degree_16 post (nI r) cn ot rg md wh td yr yq pt kp dg n x y) (fun j => rg (r * 6 + j) = 0) 6 (-1) (fun h n => ?_) (fun d hd h1 h2 n => ?_) (fun n i x hi hz hW => ?_) (fun n i x hi hz hW => ?_)
  · exact br_t (nI_le (Nat.le_refl 6) (by decide)) (H0 h)
  · exact br_t (nI_le (Nat.le_refl 6) (by decide)) (H1 d hd h1 h2)
  · exact br_f (nI_ge (b := 6) hi (by decide)) ⟨by rw [fd_ixZ]; exact vp_in_nI (by omega) (by decide), br_t (by rw [fd_ixZ, nI_clamp (by omega)]; exact hz) (nm_r (nI_1 i) hW)⟩
  · exact br_f (nI_ge (b := 6) hi (by decide)) ⟨by rw [fd_ixZ]; exact vp_in_nI (by omega) (by decide), br_f (by rw [fd_ixZ, nI_clamp (by omega)]; exact hz) (nm_r (nI_1 i) hW)⟩
theorem fd_i0 (x : Int32) : x = 0 ↔ x.toInt = 0 := by
  constructor
  · intro h; rw [h]; rfl
  · intro h; exact Int32.toInt_inj.mp (by rw [h]; rfl)
theorem ys_degree {post : Int32 → Prop} {r : Nat} (hr : r < 4) (H0 : fd_reg rg r = fd_z → post (-1)) (H1 : ∀ d, d < 6 → fd_D (fd_reg rg r) d → post (nI d)) : wpY_degree post (cn, ot, rg, md, wh, td, yr, yq, pt, kp, dg) (nI r) := by
  refine ys_degreeR hr (fun h => H0 (funext fun i => ?_)) (fun d hd h1 h2 => H1 d hd ⟨?_, fun j hj => ?_⟩)
  · simp only [fd_reg, fd_z]
    by_cases hi : i < 6
    · rw [if_pos hi]; exact (fd_i0 _).mp (h i hi)
    · rw [if_neg hi]
  · simp only [fd_reg]; rw [if_pos hd]; exact fun z => h1 ((fd_i0 _).mpr z)
  · simp only [fd_reg]
    by_cases hj6 : j < 6
    · rw [if_pos hj6]; exact (fd_i0 _).mp (h2 j hj hj6)
    · rw [if_neg hj6]
theorem ys_deg {post : Int32 → Prop} {f : Nat → Int} {M : Nat} (hR : fd_R wh f) (hB : fd_B f M) (hM : M ≤ 4611686018427387904) (hL : fd_L f 5) (H0 : f = fd_z → post (-1)) (H1 : ∀ d, d < 6 → fd_D f d → post (nI d)) : wpY_degreeOfWhole post (cn, ot, rg, md, wh, td, yr, yq, pt, kp, dg) := by
  refine ys_degreeOfWhole (fun h => H0 (funext fun i => ?_)) (fun d hd h1 h2 => H1 d hd ⟨fun e => h1 ((fd_R0 hR hB hM hd).mpr e), fun j hj => ?_⟩)
  · by_cases hi : i < 6
    · exact (fd_R0 hR hB hM hi).mp (h i hi)
    · exact hL i (by omega)
  · by_cases hj6 : j < 6
    · exact (fd_R0 hR hB hM hj6).mp (h2 j hj hj6)
    · exact hL j (by omega)
theorem ys_top {post : Int32 → Prop} {f : Nat → Int} {M : Nat} (hR : fd_R wh f) (hB : fd_B f M) (hM : M ≤ 4611686018427387904) (hL : fd_L f 5) (H0 : f = fd_z → post (-1)) (H1 : ∀ d, d < 6 → fd_D f d → post (nI d)) : wpY_topModulo post (cn, ot, rg, md, wh, td, yr, yq, pt, kp, dg) := by
  refine ys_topModulo (fun h => H0 (funext fun i => ?_)) (fun d hd h1 h2 => H1 d hd ⟨fun e => h1 ((fd_R0 hR hB hM hd).mpr e), fun j hj => ?_⟩)
  · by_cases hi : i < 6
    · exact (fd_R0 hR hB hM hi).mp (h i hi)
    · exact hL i (by omega)
  · by_cases hj6 : j < 6
    · exact (fd_R0 hR hB hM hj6).mp (h2 j hj hj6)
    · exact hL j (by omega)
theorem ys_addPart {post : SY → Prop} {c : Nat} (hc : c < 6) (H : ∀ t, (∀ i, i < 6 → t (c * 6 + i) = td i) → (∀ j, j < c * 6 → t j = pt j) → post (nI (c + 1), ot, rg, md, wh, td, yr, yq, t, kp, dg)) : wpY_addPart post (nI c, ot, rg, md, wh, td, yr, yq, pt, kp, dg) := by
  refine fd_fill (fun n x t => wY_addPart_2 post (nI c) ot n x rg md wh td yr yq t kp dg) 6 (c * 6) td pt (fun n t h1 h2 => ?_) (fun n i t hi _ hW => ?_)
  · exact br_t (nI_le (Nat.le_refl 6) (by decide)) (nm_r (nI_1 c) (H t h1 (fun j hj => h2 j (Or.inl hj))))
  · exact br_f (nI_ge (b := 6) hi (by decide)) ⟨vp_in_nI hi (by decide), by rw [fd_ixZ]; exact vp_in_nI (by omega) (by decide), nm_r (by rw [fd_ixZ, nI_clamp (by omega), nI_clamp (by omega)]) (nm_r (nI_1 i) hW)⟩
theorem ys_give {post : SY → Prop} {t m l : Int} (H : ∀ t', fd_R t' (fd_q t m l) → post (cn, ot, rg, md, wh, t', yr, yq, pt, kp, dg)) : wpY_give post (cn, ot, rg, md, wh, td, yr, yq, pt, kp, dg) (fd_l l) (fd_l m) (fd_l t) := by
  unfold wpY_give
  dsimp only
  intro a0 e0 a1 e1 a2 e2 a3 e3 a4 e4 a5 e5
  refine H a5 (fun i hi => ?_)
  subst e5 e4 e3 e2 e1 e0
  match i, hi with
  | 0, _ => rw [fd_uLn (by decide), fd_uLn (by decide), fd_uLn (by decide), fd_uLn (by decide), fd_uLn (by decide), fd_uLs]; rfl
  | 1, _ => rw [fd_uLn (by decide), fd_uLn (by decide), fd_uLn (by decide), fd_uLn (by decide), fd_uLs]; rfl
  | 2, _ => rw [fd_uLn (by decide), fd_uLn (by decide), fd_uLn (by decide), fd_uLs]; rfl
  | 3, _ => rw [fd_uLn (by decide), fd_uLn (by decide), fd_uLs]; exact fd_l_0.symm
  | 4, _ => rw [fd_uLn (by decide), fd_uLs]; exact fd_l_0.symm
  | 5, _ => rw [fd_uLs]; exact fd_l_0.symm
end
