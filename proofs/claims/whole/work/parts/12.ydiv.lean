/-! the reference's division -/
section
variable {cn ot : Int32} {rg : Nat → Int32} {md wh td yr yq pt kp : Nat → Int64} {dg : Nat → Int32}
theorem ys_div153 {post : Int32 → SY → Prop} {w : Nat → Int} (hR : fd_R yr w) (hB : fd_B w 4611686018427387904) (hL : fd_L w 5) (H1 : w = fd_z → post 1 (cn, ot, rg, md, wh, td, yr, yq, pt, kp, dg)) (H0 : w ≠ fd_z → post 0 (cn, ot, rg, md, wh, td, yr, yq, pt, kp, dg)) : ∃ n, wY_divides_153 post cn ot rg md wh td yr yq pt kp dg n 0 := by
  refine fd_upl (fun n x => wY_divides_153 post cn ot rg md wh td yr yq pt kp dg n x) (fun j => w j = 0) 6 (fun h n => ?_) (fun n i hi h hW => ?_)
  · refine br_t (nI_le (Nat.le_refl 6) (by decide)) (H1 (funext fun i => ?_))
    by_cases hi : i < 6
    · exact h i hi
    · exact hL i (by omega)
  · refine br_f (nI_ge (b := 6) hi (by decide)) ⟨vp_in_nI hi (by decide), ?_⟩
    rw [nI_clamp (by omega)]
    exact br_c (fun z => nm_r (nI_1 i) (hW ((fd_R0 hR hB (Nat.le_refl _) hi).mp z))) (fun z => H0 (fun e => z ((fd_R0 hR hB (Nat.le_refl _) hi).mpr (by rw [e]; rfl))))
theorem ys_div109 {post : Int32 → SY → Prop} {J : Int32 → (Nat → Int32) → (Nat → Int64) → (Nat → Int64) → (Nat → Int64) → (Nat → Int64) → (Nat → Int64) → (Nat → Int64) → (Nat → Int64) → (Nat → Int32) → Prop} {x3 x6 : Int64} {d s : Nat} (hd : s + d < 6) (H : ∀ t, (∀ j, j ≤ d → t (s + j) = yr (s + j) - x6 * td j) → (∀ j, (j < s ∨ s + d < j) → t j = yr j) → J (nI s + (-1)) rg md wh td t yq pt kp dg) : ∃ n, wY_divides_109 post J (nI d) x3 (nI s) x6 cn ot n 0 rg md wh td yr yq pt kp dg := by
  refine fd_fill (fun n x t => wY_divides_109 post J (nI d) x3 (nI s) x6 cn ot n x rg md wh td t yq pt kp dg) (d + 1) s (fun j => yr (s + j) - x6 * td j) yr (fun n t h1 h2 => ?_) (fun n i t hi h2 hW => ?_)
  · exact br_t (nI_lt (by omega) (by omega)) (nm_e (H t (fun j hj => h1 j (by omega)) (fun j hj => h2 j (by omega))))
  · have e : nI s + nI i = nI (s + i) := nI_add s i
    refine br_f (nI_nlt (by omega) (by omega)) ⟨by rw [e]; exact vp_in_nI (by omega) (by decide), vp_in_nI (by omega) (by decide), by rw [e]; exact vp_in_nI (by omega) (by decide), nm_r ?_ (nm_r (nI_1 i) hW)⟩
    rw [e, nI_clamp (by omega), nI_clamp (by omega), h2 (s + i) (by omega)]
end
theorem fd_tdiv_dvd {a b : Int} : a.tdiv b * b = a ↔ b ∣ a := by
  constructor
  · intro h; exact ⟨a.tdiv b, by rw [Int.mul_comm]; exact h.symm⟩
  · intro h; exact Int.tdiv_mul_cancel h
theorem fd_tdiv_s {a b : Int} (h : fd_s a) : fd_s (a.tdiv b * b) := by
  have h1 : (a.tdiv b * b).natAbs ≤ a.natAbs := by
    rw [Int.natAbs_mul, Int.natAbs_tdiv]; exact Nat.div_mul_le_self _ _
  have h4 := h.1
  have h5 := h.2
  exact ⟨by omega, by omega⟩
theorem ys_div50 {post : Int32 → SY → Prop} {cn ot : Int32} {rg : Nat → Int32} {md wh td pt kp : Nat → Int64} {dg : Nat → Int32} {f g : Nat → Int} {d G : Nat} (hg : fd_D g d) (hd : d < 6) (htd : fd_R td g) (hG : fd_B g G) (hGs : G ≤ 4611686018427387904)
    (H1 : ∀ yr yq q, fd_R yq q → fd_L q 5 → fd_mul g q = f → post 1 (cn, ot, rg, md, wh, td, yr, yq, pt, kp, dg))
    (H0 : ¬ fd_dv g f → ∀ yr yq, ((∃ z, ¬ g d ∣ z) ∨ ∃ w q, fd_R yr w ∧ fd_DI f g w q d 0 ∧ fd_B w 4611686018427387904) → post 0 (cn, ot, rg, md, wh, td, yr, yq, pt, kp, dg)) :
    ∀ (s M : Nat) (x : Int32) (yr yq : Nat → Int64) (w q : Nat → Int), s + d ≤ 6 → (s = 0 → x < 0) → (s ≠ 0 → x = nI s + (-1)) → fd_R yr w → fd_R yq q → (∀ j, j < s → q j = 0) → fd_DI f g w q d s → fd_B w M → M * (1 + G) ^ s ≤ 4611686018427387904 → wY_divides_50 post (nI d) (fd_l (g d)) cn ot (s + 1) x rg md wh td yr yq pt kp dg := by
  intro s
  induction s with
  | zero =>
    intro M x yr yq w q hsd hx _ hT hq hq0 hDI hw hM
    have hM1 : fd_B w 4611686018427387904 := fun i => Nat.le_trans (hw i) (by simpa using hM)
    refine br_t (hx rfl) (ys_div153 hT hM1 (fun j hj => hDI.2.1 j (by omega)) (fun hz => ?_) (fun hz => ?_))
    · rw [hz] at hDI
      exact H1 yr yq q hq hDI.2.2 (fd_DI_0 hDI)
    · exact H0 (fd_DI_end hg hDI hz) yr yq (Or.inr ⟨w, q, hT, hDI, hM1⟩)
  | succ s ih =>
    intro M x yr yq w q hsd _ hx hT hq hq0 hDI hw hM
    rw [hx (by omega), fd_m1]
    have hM1 : M ≤ 4611686018427387904 := Nat.le_trans (Nat.le_mul_of_pos_right M (Nat.pow_pos (by omega))) hM
    have hG1 : fd_s (g d) := fd_s_of (hG d) hGs
    have e : nI s + nI d = nI (s + d) := nI_add s d
    have hl : ¬ fd_l (g d) = 0 := fun z => hg.1 ((fd_l_z hG1).mp z)
    have hw1 : fd_s (w (s + d)) := fd_s_of (hw _) hM1
    have eT : yr (nI s + nI d).toNatClampNeg = fd_l (w (s + d)) := by rw [e, nI_clamp (by omega), hT _ (by omega)]
    refine br_f (nI_pos (by omega)) ⟨by rw [e]; exact vp_in_nI (by omega) (by decide), br_f hl ⟨hl, ?_⟩⟩
    rw [eT]
    refine nm_r (fd_l_div hw1 hG1) ⟨by rw [e]; exact vp_in_nI (by omega) (by decide), ?_⟩
    have hiff : fd_l ((w (s + d)).tdiv (g d)) * fd_l (g d) = fd_l (w (s + d)) ↔ g d ∣ w (s + d) := by
      rw [fd_l_mul, fd_l_eq (fd_tdiv_s hw1) hw1]; exact fd_tdiv_dvd
    by_cases hdv : g d ∣ w (s + d)
    · refine br_t (hiff.mpr hdv) ⟨vp_in_nI (by omega) (by decide), ?_⟩
      have eq' : vp_updL yq (nI s).toNatClampNeg (fd_l ((w (s + d)).tdiv (g d))) = vp_updL yq s (fd_l (w (s + d) / g d)) := by
        rw [nI_clamp (by omega), Int.tdiv_eq_ediv_of_dvd hdv]
      refine nm_r eq' (ys_div109 (by omega) (fun t h1 h2 => ?_))
      have hx : (w (s + d) / g d).natAbs ≤ M := Nat.le_trans (fd_ediv_le hg.1 hdv) (hw _)
      have hDI' := fd_DI_step hg (by omega) hDI (hq0 s (by omega)) hdv
      have hRt : fd_R t (fd_ws w g (w (s + d) / g d) s) := by
        intro k hk
        simp only [fd_ws]
        by_cases hks : s ≤ k
        · rw [if_pos hks]
          by_cases hkd : k ≤ s + d
          · have h3 := h1 (k - s) (by omega)
            have e3 : s + (k - s) = k := by omega
            rw [e3, Int.tdiv_eq_ediv_of_dvd hdv, hT k hk, htd (k - s) (by omega), fd_l_mul, fd_l_sub] at h3
            exact h3
          · rw [h2 k (by omega), hT k hk, hg.2 (k - s) (by omega)]; simp
        · rw [if_neg hks, h2 k (by omega), hT k hk]; simp
      have hRq : fd_R (vp_updL yq s (fd_l (w (s + d) / g d))) (fd_qs q (w (s + d) / g d) s) := by
        intro k hk
        simp only [fd_qs]
        by_cases hks : k = s
        · rw [if_pos hks, hks, fd_uLs]
        · rw [if_neg hks, fd_uLn hks, hq k hk]
      have hq0' : ∀ j, j < s → fd_qs q (w (s + d) / g d) s j = 0 := fun j hj => by
        simp only [fd_qs]; rw [if_neg (by omega)]; exact hq0 j (by omega)
      refine ih (M * (1 + G)) _ _ _ _ _ (by omega) (fun h => ?_) (fun _ => rfl) hRt hRq hq0' hDI' (fd_ws_B hw hG hx) ?_
      · rw [h]; decide
      · rw [Nat.pow_succ] at hM
        rw [Nat.mul_assoc, Nat.mul_comm (1 + G)]; exact hM
    · exact br_f (fun z => hdv (hiff.mp z)) (H0 (fd_DI_no hg hDI hdv) yr yq (Or.inl ⟨_, hdv⟩))
theorem fd_neg_sub {a b : Nat} (ha : a < 6) (hb : b < 6) (h : a < b) : nI a - nI b < 0 := by
  have hk : ∀ (a b : Fin 6), a.val < b.val → nI a.val - nI b.val < 0 := by decide
  exact hk ⟨a, ha⟩ ⟨b, hb⟩ h
theorem fd_neg_sub1 {b : Nat} (hb : b < 6) : (-1 : Int32) - nI b < 0 := by
  have hk : ∀ (b : Fin 6), (-1 : Int32) - nI b.val < 0 := by decide
  exact hk ⟨b, hb⟩
theorem ys_divides {post : Int32 → SY → Prop} {cn ot : Int32} {rg : Nat → Int32} {md wh td yr yq pt kp : Nat → Int64} {dg : Nat → Int32} {f g : Nat → Int} {d G M : Nat} (hg : fd_D g d) (hd : d < 6) (htd : fd_R td g) (hG : fd_B g G) (hGs : G ≤ 4611686018427387904) (hf : fd_R wh f) (hL : fd_L f 5) (hB : fd_B f M) (hMs : M ≤ 4611686018427387904) (hM : ∀ e, fd_D f e → M * (1 + G) ^ (e + 1 - d) ≤ 4611686018427387904)
    (H1 : ∀ yr yq q, fd_R yq q → fd_L q 5 → fd_mul g q = f → post 1 (cn, ot, rg, md, wh, td, yr, yq, pt, kp, dg))
    (H0 : ¬ fd_dv g f → ∀ yr yq, ((∃ z, ¬ g d ∣ z) ∨ ∃ w q, fd_R yr w ∧ fd_DI f g w q d 0 ∧ fd_B w 4611686018427387904) → post 0 (cn, ot, rg, md, wh, td, yr, yq, pt, kp, dg)) : wpY_divides post (cn, ot, rg, md, wh, td, yr, yq, pt, kp, dg) (nI d) := by
  unfold wpY_divides
  dsimp only
  have go : ∀ (x2 : Int32) (s : Nat), s + d ≤ 6 → (s = 0 → x2 - nI d < 0) → (s ≠ 0 → x2 - nI d = nI s + (-1)) → (∀ j, s + d ≤ j → f j = 0) → M * (1 + G) ^ s ≤ 4611686018427387904 → ∃ n7, wY_divides_7 post (nI d) x2 cn ot n7 0 rg md wh td yr yq pt kp dg := by
    intro x2 s hsd hs0 hs1 hz hM
    refine fd_fill2 (fun n x a b => wY_divides_7 post (nI d) x2 cn ot n x rg md wh td a b pt kp dg) 6 wh (fun _ => 0) yr yq (fun n a b h1 h2 => ?_) (fun n i a b hi hW => ?_)
    · refine br_t (nI_le (Nat.le_refl 6) (by decide)) ⟨vp_in_nI hd (by decide), nm_r (e' := fd_l (g d)) (by rw [nI_clamp (by omega), htd d hd]) (nm_e ⟨s + 1, ?_⟩)⟩
      exact ys_div50 hg hd htd hG hGs H1 H0 s M _ a b f fd_z hsd hs0 hs1 (fun i hi => by rw [h1 i hi, hf i hi]) (fun i hi => by rw [h2 i hi]; exact fd_l_0.symm) (fun _ _ => rfl) (fd_DI_init hz) hB hM
    · exact br_f (nI_ge (b := 6) hi (by decide)) ⟨vp_in_nI hi (by decide), vp_in_nI hi (by decide), nm_r (by rw [nI_clamp (by omega)]) ⟨vp_in_nI hi (by decide), nm_r (by rw [nI_clamp (by omega)]) (nm_r (nI_1 i) hW)⟩⟩
  refine ys_deg hf hB hMs hL (fun hz => ?_) (fun e he hD => ?_)
  · exact go (-1) 0 (by omega) (fun _ => fd_neg_sub1 hd) (fun h => absurd rfl h) (fun j _ => by rw [hz]; rfl) (by simpa using hMs)
  · by_cases hed : e < d
    · exact go (nI e) 0 (by omega) (fun _ => fd_neg_sub he hd hed) (fun h => absurd rfl h) (fun j hj => hD.2 j (by omega)) (by simpa using hMs)
    · refine go (nI e) (e + 1 - d) (by omega) (fun h => absurd h (by omega)) (fun _ => ?_) (fun j hj => hD.2 j (by omega)) (hM e hD)
      have e6 : e + 1 - d = (e - d) + 1 := by omega
      rw [e6, fd_m1]; exact fd_isub (by omega)
/-! taking a divisor out as often as it goes -/
theorem ys_out29 {post : SY → Prop} {J : Int32 → Int32 → Int32 → (Nat → Int32) → (Nat → Int64) → (Nat → Int64) → (Nat → Int64) → (Nat → Int64) → (Nat → Int64) → (Nat → Int64) → (Nat → Int64) → (Nat → Int32) → Prop} {x1 x2 : Int32} {cn ot : Int32} {rg : Nat → Int32} {md wh td yr yq pt kp : Nat → Int64} {dg : Nat → Int32} (H : ∀ t, (∀ i, i < 6 → t i = yq i) → J (x2 + 1) cn ot rg md t td yr yq pt kp dg) : ∃ n, wY_takeOut_29 post J x1 x2 cn ot n 0 rg md wh td yr yq pt kp dg := by
  refine fd_fill (fun n x t => wY_takeOut_29 post J x1 x2 cn ot n x rg md t td yr yq pt kp dg) 6 0 yq wh (fun n t h1 _ => ?_) (fun n i t hi _ hW => ?_)
  · exact br_t (nI_le (Nat.le_refl 6) (by decide)) (nm_e (H t (fun i hi => by have := h1 i hi; rwa [Nat.zero_add] at this)))
  · exact br_f (nI_ge (b := 6) hi (by decide)) ⟨vp_in_nI hi (by decide), vp_in_nI hi (by decide), nm_r (by rw [nI_clamp (by omega), Nat.zero_add]) (nm_r (nI_1 i) hW)⟩
theorem fd_powY (d e : Nat) (hd : 1 ≤ d) (he : e ≤ 5) : 170000 * (1 + 100) ^ (e + 1 - d) ≤ 4611686018427387904 := by
  have h1 : (1 + 100) ^ (e + 1 - d) ≤ (1 + 100) ^ 5 := Nat.pow_le_pow_right (by decide) (by omega)
  exact Nat.le_trans (Nat.mul_le_mul_left _ h1) (by decide)
section
variable {post : SY → Prop} {ot : Int32} {rg : Nat → Int32} {md td kp : Nat → Int64} {dg : Nat → Int32} {F : Nat → Int} {t m l : Int} {d : Nat}
theorem ys_out2b (hF : fd_H F) (hd1 : 1 ≤ d) (hd2 : d ≤ 2) (hD : fd_D (fd_q t m l) d) (hB : fd_B (fd_q t m l) 100) (htd : fd_R td (fd_q t m l))
    {f : Nat → Int} {L : List (Nat → Int)} {wh pt : Nat → Int64} (hst : fd_St F f L) (hn : ¬ fd_dv (fd_q t m l) f) (hwh : fd_R wh f)
    (H : ∀ yr yq, post (nI L.length, ot, rg, md, wh, td, yr, yq, pt, kp, dg)) :
    ∀ (j k : Nat) (yr yq : Nat → Int64), k + j = 5 → wY_takeOut_2 post (nI d) (j + 1) (nI k) (nI L.length) ot rg md wh td yr yq pt kp dg := by
  intro j
  induction j with
  | zero =>
    intro k yr yq hk
    have e : k = 5 := by omega
    subst e
    exact br_t (nI_le (a := 5) (b := 5) (Nat.le_refl 5) (by decide)) (H yr yq)
  | succ j ih =>
    intro k yr yq hk
    have hL5 := fd_St_L5 hF.2.1 hst
    refine br_f (nI_ge (b := 5) (by omega) (by decide)) (ys_deg hwh (fd_St_B hF hst) (by decide) hL5 (fun z => absurd z (fd_St_nz hst)) (fun e he hDf => br_c (fun z => nm_r (nI_1 k) (ih (k + 1) yr yq (by omega))) (fun z => ?_)))
    refine ys_divides hD (by omega) htd hB (by decide) hwh hL5 (fd_St_B hF hst) (by decide) (fun e he => fd_powY d e hd1 (fd_D_le he hL5)) (fun yr1 yq1 q hq hqL e' => absurd ⟨q, fd_L_F hqL, e'⟩ hn) (fun _ yr1 yq1 _ => ?_)
    dsimp only
    exact br_t rfl (nm_r (nI_1 k) (ih (k + 1) yr1 yq1 (by omega)))
theorem ys_out2a (hF : fd_H F) (hd1 : 1 ≤ d) (hd2 : d ≤ 2) (hD : fd_D (fd_q t m l) d) (hB : fd_B (fd_q t m l) 100) (htd : fd_R td (fd_q t m l))
    (P : (Nat → Int) → List (Nat → Int) → Prop) (hSt : ∀ f L, P f L → fd_St F f L)
    (hT : ∀ f f' L, P f L → fd_F f' → fd_mul (fd_q t m l) f' = f → P f' (L ++ [fd_q t m l]))
    (H : ∀ f L wh yr yq pt, P f L → ¬ fd_dv (fd_q t m l) f → fd_R wh f → fd_AL pt L → post (nI L.length, ot, rg, md, wh, td, yr, yq, pt, kp, dg)) :
    ∀ (j k : Nat) (f : Nat → Int) (L : List (Nat → Int)) (wh yr yq pt : Nat → Int64), k + j = 5 → k ≤ L.length → P f L → fd_R wh f → fd_AL pt L → wY_takeOut_2 post (nI d) (j + 1) (nI k) (nI L.length) ot rg md wh td yr yq pt kp dg := by
  intro j
  induction j with
  | zero =>
    intro k f L wh yr yq pt hk hkL hP hwh hpt
    have hst := hSt f L hP
    have e : k = 5 := by omega
    subst e
    refine br_t (nI_le (a := 5) (b := 5) (Nat.le_refl 5) (by decide)) (H f L wh yr yq pt hP (fun hdv => ?_) hwh hpt)
    obtain ⟨_, _, e, hDf, _⟩ := id hst
    have h1 := fd_St_len hF.2.1 hst hDf
    obtain ⟨q, hq, eq'⟩ := hdv
    obtain ⟨a, b, ha, hb, hab⟩ := fd_D_split (fd_D_F hD) hq eq' hDf
    have := fd_D_u ha hD
    omega
  | succ j ih =>
    intro k f L wh yr yq pt hk hkL hP hwh hpt
    have hst := hSt f L hP
    have hL5 := fd_St_L5 hF.2.1 hst
    refine br_f (nI_ge (b := 5) (by omega) (by decide)) (ys_deg hwh (fd_St_B hF hst) (by decide) hL5 (fun z => absurd z (fd_St_nz hst)) (fun e he hDf => br_c (fun z => ?_) (fun z => ?_)))
    · have hlt : e < d := (nI_ltI (by omega) (by omega)).mp z
      have hn : ¬ fd_dv (fd_q t m l) f := fun hdv => by
        obtain ⟨q, hq, eq'⟩ := hdv
        obtain ⟨a, b, ha, hb, hab⟩ := fd_D_split (fd_D_F hD) hq eq' hDf
        have := fd_D_u ha hD
        omega
      exact nm_r (nI_1 k) (ys_out2b hF hd1 hd2 hD hB htd hst hn hwh (fun yr yq => H f L wh yr yq pt hP hn hwh hpt) j (k + 1) yr yq (by omega))
    · refine ys_divides hD (by omega) htd hB (by decide) hwh hL5 (fd_St_B hF hst) (by decide) (fun e he => fd_powY d e hd1 (fd_D_le he hL5)) (fun yr1 yq1 q hq hqL e' => ?_) (fun hn yr1 yq1 _ => ?_)
      · dsimp only
        have hlen : L.length < 5 := by
          have h1 := fd_St_len hF.2.1 hst hDf
          obtain ⟨a, b, ha, hb, hab⟩ := fd_D_split (fd_D_F hD) (fd_L_F hqL) e' hDf
          have := fd_D_u ha hD
          omega
        refine br_f (by decide) (ys_addPart (by omega) (fun pt1 h1 h2 => ?_))
        dsimp only
        refine ys_out29 (fun wh1 hwh1 => ?_)
        rw [nI_1 k]
        have := ih (k + 1) q (L ++ [fd_q t m l]) wh1 yr1 yq1 pt1 (by omega) (by rw [List.length_append, List.length_singleton]; omega) (hT f q L hP (fd_L_F hqL) e') (fun i hi => by rw [hwh1 i hi, hq i hi]) (fd_AL_snoc hpt h1 h2 htd)
        rw [List.length_append, List.length_singleton] at this
        exact this
      · dsimp only
        exact br_t rfl (nm_r (nI_1 k) (ys_out2b hF hd1 hd2 hD hB htd hst hn hwh (fun yr yq => H f L wh yr yq pt hP hn hwh hpt) j (k + 1) yr1 yq1 (by omega)))
theorem ys_takeOut (hF : fd_H F) (hd1 : 1 ≤ d) (hd2 : d ≤ 2) (hD : fd_D (fd_q t m l) d) (hB : fd_B (fd_q t m l) 100) (htd : fd_R td (fd_q t m l))
    (P : (Nat → Int) → List (Nat → Int) → Prop) (hSt : ∀ f L, P f L → fd_St F f L)
    (hT : ∀ f f' L, P f L → fd_F f' → fd_mul (fd_q t m l) f' = f → P f' (L ++ [fd_q t m l]))
    {f : Nat → Int} {L : List (Nat → Int)} {wh yr yq pt : Nat → Int64} (hP : P f L) (hwh : fd_R wh f) (hpt : fd_AL pt L)
    (H : ∀ f L wh yr yq pt, P f L → ¬ fd_dv (fd_q t m l) f → fd_R wh f → fd_AL pt L → post (nI L.length, ot, rg, md, wh, td, yr, yq, pt, kp, dg)) : wpY_takeOut post (nI L.length, ot, rg, md, wh, td, yr, yq, pt, kp, dg) (nI d) :=
  ⟨5 + 1, ys_out2a hF hd1 hd2 hD hB htd P hSt hT H 5 0 f L wh yr yq pt (by omega) (by omega) hP hwh hpt⟩
end
/-! values at a point -/
def fd_ev (f : Nat → Int) (x : Int) : Nat → Int → Int
  | 0, v => v
  | n + 1, v => fd_ev f x n (v * x + f n)
theorem ys_valueAt {post : Int64 → Prop} {cn ot : Int32} {rg : Nat → Int32} {md wh td yr yq pt kp : Nat → Int64} {dg : Nat → Int32} {f : Nat → Int} {x : Int} (hx : fd_k x) (hf : fd_R wh f) (H : post (fd_l (fd_ev f x 6 0))) : wpY_valueAt post (cn, ot, rg, md, wh, td, yr, yq, pt, kp, dg) (fd_i x) := by
  have key : ∀ (k : Nat) (v : Int), k ≤ 6 → post (fd_l (fd_ev f x k v)) → wY_valueAt_5 post (fd_i x) cn ot rg md wh td yr yq pt kp dg (k + 1) (fd_l v) (nI k + (-1)) := by
    intro k
    induction k with
    | zero => intro v _ h; exact br_t (by decide) h
    | succ k ih =>
      intro v hk h
      rw [fd_m1]
      refine br_f (nI_pos (by omega)) ⟨vp_in_nI (by omega) (by decide), nm_r (e' := fd_l (v * x + f k)) ?_ (nm_e (ih _ (by omega) h))⟩
      rw [nI_clamp (by omega), hf k (by omega), fd_i_l hx, fd_l_mul, fd_l_add]
  exact ⟨7, key 6 0 (Nat.le_refl 6) H⟩
theorem fd_ev_1 (f : Nat → Int) : fd_ev f 1 6 0 = f 0 + f 1 + f 2 + f 3 + f 4 + f 5 := by
  simp only [fd_ev]; omega
theorem fd_ev_m1 (f : Nat → Int) : fd_ev f (-1) 6 0 = f 0 - f 1 + f 2 - f 3 + f 4 - f 5 := by
  simp only [fd_ev]; omega
