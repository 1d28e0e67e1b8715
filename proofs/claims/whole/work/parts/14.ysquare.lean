/-! the reference's search for factors of degree 2 -/
theorem fd_q_r {t m l : Int} {f : Nat → Int} (ht : t ≠ 0) (hL : fd_L f 5) (h : fd_dv (fd_q t m l) f) : ∃ r : Nat → Int, f 0 = l * r 0 ∧ f 1 = l * r 1 + m * r 0 ∧ f 2 = l * r 2 + m * r 1 + t * r 0 ∧ f 3 = l * r 3 + m * r 2 + t * r 1 ∧ f 4 = m * r 3 + t * r 2 ∧ f 5 = t * r 3 := by
  obtain ⟨r, hr, e⟩ := h
  have hr4 : ∀ j, 3 < j → r j = 0 := by
    by_cases hz : r = fd_z
    · intro j _; rw [hz]; rfl
    · obtain ⟨b, hb⟩ := fd_D_ex hr hz
      have h1 := fd_D_mul (fd_q_D2 m l ht) hb
      rw [e] at h1
      have := fd_D_le h1 hL
      intro j hj
      exact hb.2 j (by omega)
  refine ⟨r, by rw [← e, fd_q_mul0], by rw [← e, fd_q_mul1], by rw [← e, fd_q_mul2], by rw [← e, fd_q_mul2], ?_, ?_⟩
  · rw [← e, fd_q_mul2, hr4 4 (by omega)]; simp
  · rw [← e, fd_q_mul2, hr4 5 (by omega), hr4 4 (by omega)]; simp
theorem fd_q_up {t m l : Int} {f : Nat → Int} (ht : t ≠ 0) (hL : fd_L f 5) (h : fd_dv (fd_q t m l) f) : (t + m + l) ∣ fd_ev f 1 6 0 := by
  obtain ⟨r, h0, h1, h2, h3, h4, h5⟩ := fd_q_r ht hL h
  rw [fd_ev_1, h0, h1, h2, h3, h4, h5]
  exact ⟨r 0 + r 1 + r 2 + r 3, by grind⟩
theorem fd_q_down {t m l : Int} {f : Nat → Int} (ht : t ≠ 0) (hL : fd_L f 5) (h : fd_dv (fd_q t m l) f) : (t - m + l) ∣ fd_ev f (-1) 6 0 := by
  obtain ⟨r, h0, h1, h2, h3, h4, h5⟩ := fd_q_r ht hL h
  rw [fd_ev_m1, h0, h1, h2, h3, h4, h5]
  exact ⟨r 0 - r 1 + r 2 - r 3, by grind⟩
theorem fd_lin_mul (a c b e : Int) : fd_mul (fd_q 0 a c) (fd_q 0 b e) = fd_q (a * b) (a * e + c * b) (c * e) := by
  funext i
  match i with
  | 0 => rw [fd_q_mul0]; rfl
  | 1 => rw [fd_q_mul1, fd_q_1, fd_q_0, fd_q_1]; omega
  | 2 => rw [fd_q_mul2 0 a c _ 0]; show c * 0 + a * b + 0 * e = a * b; simp
  | (k + 3) => rw [fd_q_mul2 0 a c _ (k + 1), fd_q_L1 b e (k + 1 + 2) (by omega), fd_q_L1 b e (k + 1 + 1) (by omega), fd_q_L _ _ _ (k + 3) (by omega)]; simp
theorem fd_LF_1 {t m l : Int} {f : Nat → Int} (hl : fd_LF f) (h : fd_dv (fd_q t m l) f) : t + m + l ≠ 0 := by
  intro e
  refine hl (fd_q 0 1 (-1)) (fd_q_D1 (-1) (by decide)) (fd_dv_trans ⟨fd_q 0 t (t + m), fd_q_F _ _ _, ?_⟩ h)
  rw [fd_lin_mul]
  have e1 : 1 * t = t := by omega
  have e2 : 1 * (t + m) + -1 * t = m := by omega
  have e3 : -1 * (t + m) = l := by omega
  rw [e1, e2, e3]
theorem fd_LF_m1 {t m l : Int} {f : Nat → Int} (hl : fd_LF f) (h : fd_dv (fd_q t m l) f) : t - m + l ≠ 0 := by
  intro e
  refine hl (fd_q 0 1 1) (fd_q_D1 1 (by decide)) (fd_dv_trans ⟨fd_q 0 t (m - t), fd_q_F _ _ _, ?_⟩ h)
  rw [fd_lin_mul]
  have e1 : 1 * t = t := by omega
  have e2 : 1 * (m - t) + 1 * t = m := by omega
  have e3 : 1 * (m - t) = l := by omega
  rw [e2, e1, e3]
theorem fd_LF_0 {t m : Int} {f : Nat → Int} (hl : fd_LF f) : ¬ fd_dv (fd_q t m 0) f := by
  intro h
  refine hl (fd_q 0 1 0) (fd_q_D1 0 (by decide)) (fd_dv_trans ⟨fd_q 0 t m, fd_q_F _ _ _, ?_⟩ h)
  rw [fd_lin_mul]
  have e1 : 1 * t = t := by omega
  have e2 : 1 * m + 0 * t = m := by omega
  have e3 : 0 * m = 0 := by omega
  rw [e1, e2, e3]
theorem fd_ev_s1 {f : Nat → Int} (h : fd_B f 170000) : fd_s (fd_ev f 1 6 0) := by
  rw [fd_ev_1]
  have h0 := h 0; have h1 := h 1; have h2 := h 2; have h3 := h 3; have h4 := h 4; have h5 := h 5
  exact ⟨by omega, by omega⟩
theorem fd_ev_sm1 {f : Nat → Int} (h : fd_B f 170000) : fd_s (fd_ev f (-1) 6 0) := by
  rw [fd_ev_m1]
  have h0 := h 0; have h1 := h 1; have h2 := h 2; have h3 := h 3; have h4 := h 4; have h5 := h 5
  exact ⟨by omega, by omega⟩
section
variable {post : SY → Prop} {ot : Int32} {rg : Nat → Int32} {md kp : Nat → Int64} {dg : Nat → Int32}
theorem ys_mid19 {F : Nat → Int} {L1 : List (Nat → Int)} {a c : Int} (hF : fd_H F) (hp : fd_pr F) (ha1 : 1 ≤ a) (ha2 : a ≤ 20) (hc1 : -20 ≤ c) (hc2 : c ≤ 20)
    (H : ∀ f L wh td yr yq pt, (∃ L2, L = L1 ++ L2 ∧ fd_P3 F f L1 L2 a c 101) → fd_R wh f → fd_AL pt L → post (nI L.length, ot, rg, md, wh, td, yr, yq, pt, kp, dg)) :
    ∀ (k : Nat) (b : Int) (f : Nat → Int) (L : List (Nat → Int)) (wh td yr yq pt : Nat → Int64), k ≤ 201 → b = 101 - (k : Int) → (∃ L2, L = L1 ++ L2 ∧ fd_P3 F f L1 L2 a c b) → fd_R wh f → fd_AL pt L → wY_tryMiddle_19 post (fd_l a) (fd_l c) (k + 1) (fd_l (fd_ev f 1 6 0)) (fd_l (fd_ev f (-1) 6 0)) (fd_l b) (nI L.length) ot rg md wh td yr yq pt kp dg := by
  intro k
  induction k with
  | zero =>
    intro b f L wh td yr yq pt hk hb hP hwh hpt
    have e : b = 101 := by omega
    subst e
    exact br_t ((fd_l_lt (a := 100) (b := 101) (fd_s_lit (by decide)) (fd_s_lit (by decide))).mpr (by decide)) (H f L wh td yr yq pt hP hwh hpt)
  | succ k ih =>
    intro b f L wh td yr yq pt hk hb hP hwh hpt
    obtain ⟨L2, eL, hP3⟩ := id hP
    have hst : fd_St F f L := by rw [eL]; exact hP3.1
    have hLF : fd_LF f := hP3.2.1
    have hB := fd_St_B hF hst
    have hL5 := fd_St_L5 hF.2.1 hst
    have hbs : fd_s b := fd_s_lit (by omega)
    have e1 : ∀ z : Int, fd_l z + 1 = fd_l (z + 1) := fun z => fd_l_add z 1
    have hskip : ¬ fd_dv (fd_q a b c) f → ∀ x, x = fd_l b + 1 → wY_tryMiddle_19 post (fd_l a) (fd_l c) (k + 1) (fd_l (fd_ev f 1 6 0)) (fd_l (fd_ev f (-1) 6 0)) x (nI L.length) ot rg md wh td yr yq pt kp dg := fun hn => nm_r (e1 b) (ih (b + 1) f L wh td yr yq pt (by omega) (by omega) ⟨L2, eL, fd_P3_next hP3 hn⟩ hwh hpt)
    have hp1 : fd_s (a + b + c) := fd_s_lit (by omega)
    have hq1 : fd_s (a - b + c) := fd_s_lit (by omega)
    refine br_f (fun z => ?_) (nm_r (e' := fd_l (a + b + c)) (by rw [fd_l_add, fd_l_add]) (nm_r (e' := fd_l (a - b + c)) (by rw [fd_l_sub, fd_l_add]) ?_))
    · have := (fd_l_lt (a := 100) (b := b) (fd_s_lit (by decide)) hbs).mp z
      omega
    · refine br_c (fun z => hskip fun hdv => fd_LF_1 hLF hdv ((fd_l_z hp1).mp z)) (fun z => br_c (fun z' => hskip fun hdv => fd_LF_m1 hLF hdv ((fd_l_z hq1).mp z')) (fun z' => ⟨z, br_c (fun _ => ⟨z', br_c (fun _ => ?_) (fun w => hskip fun hdv => w ((fd_l_rem0 (fd_ev_sm1 hB) hq1).mpr (fd_q_down (by omega) hL5 hdv)))⟩) (fun w => hskip fun hdv => w ((fd_l_rem0 (fd_ev_s1 hB) hp1).mpr (fd_q_up (by omega) hL5 hdv)))⟩))
      refine ys_give (t := a) (m := b) (l := c) (fun td1 htd => ?_)
      dsimp only
      refine ys_takeOut (d := 2) (t := a) (m := b) (l := c) hF (by decide) (Nat.le_refl 2) (fd_q_D2 b c (by omega)) (fd_q_B (by omega) (by omega) (by omega)) htd (fun f L => ∃ L2, L = L1 ++ L2 ∧ fd_P3 F f L1 L2 a c b) (fun f L h => by obtain ⟨L2, e, h⟩ := h; rw [e]; exact h.1) (fun f f' L h hf' e => by obtain ⟨L2, e2, h⟩ := h; exact ⟨L2 ++ [fd_q a b c], by rw [e2, List.append_assoc], fd_P3_take hp h ha1 hf' e⟩) hP hwh hpt (fun f L wh yr yq pt hP hn hwh hpt => ?_)
      dsimp only
      refine ys_valueAt (x := 1) (fd_k_lit (by decide)) hwh (ys_valueAt (x := -1) (fd_k_lit (by decide)) hwh (nm_r (e1 b) (ih (b + 1) f L wh td1 yr yq pt (by omega) (by omega) ?_ hwh hpt)))
      obtain ⟨L2, e2, h⟩ := hP
      exact ⟨L2, e2, fd_P3_next h hn⟩
theorem ys_tryMiddle {F f : Nat → Int} {L1 L : List (Nat → Int)} {a c : Int} {wh td yr yq pt : Nat → Int64} (hF : fd_H F) (hp : fd_pr F) (ha1 : 1 ≤ a) (ha2 : a ≤ 20) (hc1 : -20 ≤ c) (hc2 : c ≤ 20) (hP : ∃ L2, L = L1 ++ L2 ∧ fd_P3 F f L1 L2 a c (-100)) (hwh : fd_R wh f) (hpt : fd_AL pt L)
    (H : ∀ f L wh td yr yq pt, (∃ L2, L = L1 ++ L2 ∧ fd_P3 F f L1 L2 a (c + 1) (-100)) → fd_R wh f → fd_AL pt L → post (nI L.length, ot, rg, md, wh, td, yr, yq, pt, kp, dg)) : wpY_tryMiddle post (nI L.length, ot, rg, md, wh, td, yr, yq, pt, kp, dg) (fd_l a) (fd_l c) := by
  unfold wpY_tryMiddle
  dsimp only
  refine ys_valueAt (x := 1) (fd_k_lit (by decide)) hwh (ys_valueAt (x := -1) (fd_k_lit (by decide)) hwh ⟨201 + 1, ?_⟩)
  exact ys_mid19 hF hp ha1 ha2 hc1 hc2 (fun f L wh td yr yq pt hP hwh hpt => H f L wh td yr yq pt (by obtain ⟨L2, e2, h⟩ := hP; exact ⟨L2, e2, fd_P3_row h⟩) hwh hpt) 201 (-100) f L wh td yr yq pt (Nat.le_refl _) (by decide) hP hwh hpt
def fd_PS (F : Nat → Int) (L1 : List (Nat → Int)) (ac : Nat) (f : Nat → Int) (L : List (Nat → Int)) : Prop := ∃ L2, L = L1 ++ L2 ∧ fd_P3 F f L1 L2 (1 + ((ac / 41 : Nat) : Int)) (((ac % 41 : Nat) : Int) - 20) (-100)
theorem fd_PS_next {F f : Nat → Int} {L1 L : List (Nat → Int)} {ac : Nat} (h : ∃ L2, L = L1 ++ L2 ∧ fd_P3 F f L1 L2 (1 + ((ac / 41 : Nat) : Int)) (((ac % 41 : Nat) : Int) - 20 + 1) (-100)) : fd_PS F L1 (ac + 1) f L := by
  obtain ⟨L2, e2, h1⟩ := h
  refine ⟨L2, e2, ?_⟩
  by_cases e : ac % 41 = 40
  · have e1 : (ac + 1) / 41 = ac / 41 + 1 := by omega
    have e2 : (ac + 1) % 41 = 0 := by omega
    rw [e1, e2]
    rw [e] at h1
    have h2 := fd_P3_top (t := 1 + ((ac / 41 : Nat) : Int)) h1
    have e3 : 1 + ((ac / 41 : Nat) : Int) + 1 = 1 + ((ac / 41 + 1 : Nat) : Int) := by omega
    rw [e3] at h2
    exact h2
  · have e1 : (ac + 1) / 41 = ac / 41 := by omega
    have e2 : (ac + 1) % 41 = ac % 41 + 1 := by omega
    rw [e1, e2]
    have e3 : ((ac % 41 : Nat) : Int) - 20 + 1 = ((ac % 41 + 1 : Nat) : Int) - 20 := by omega
    rw [e3] at h1
    exact h1
theorem ys_sq2 {F : Nat → Int} {L1 : List (Nat → Int)} (hF : fd_H F) (hp : fd_pr F)
    (H : ∀ f L wh td yr yq pt, fd_PS F L1 820 f L → fd_R wh f → fd_AL pt L → post (nI L.length, ot, rg, md, wh, td, yr, yq, pt, kp, dg)) :
    ∀ (k ac : Nat) (f : Nat → Int) (L : List (Nat → Int)) (wh td yr yq pt : Nat → Int64), ac + k = 820 → fd_PS F L1 ac f L → fd_R wh f → fd_AL pt L → wY_trySquare_2 post (k + 1) (nI ac) (nI L.length) ot rg md wh td yr yq pt kp dg := by
  intro k
  induction k with
  | zero =>
    intro ac f L wh td yr yq pt hac hP hwh hpt
    have e : ac = 820 := by omega
    subst e
    exact br_t (nI_le (a := 820) (b := 820) (Nat.le_refl _) (by decide)) (H f L wh td yr yq pt hP hwh hpt)
  | succ k ih =>
    intro ac f L wh td yr yq pt hac hP hwh hpt
    obtain ⟨L2, eL, hP3⟩ := id hP
    have hst : fd_St F f L := by rw [eL]; exact hP3.1
    have hLF : fd_LF f := hP3.2.1
    have hB := fd_St_B hF hst
    have hL5 := fd_St_L5 hF.2.1 hst
    have hskip : (∀ d, fd_D f d → 4 ≤ d → ∀ m', ¬ fd_dv (fd_q (1 + ((ac / 41 : Nat) : Int)) m' (((ac % 41 : Nat) : Int) - 20)) f) → ∀ x, x = nI ac + 1 → wY_trySquare_2 post (k + 1) x (nI L.length) ot rg md wh td yr yq pt kp dg := fun hn => nm_r (nI_1 ac) (ih (ac + 1) f L wh td yr yq pt (by omega) (fd_PS_next ⟨L2, eL, fd_P3_skip hn hP3⟩) hwh hpt)
    refine br_f (nI_ge (b := 820) (by omega) (by decide)) ⟨by decide, nm_r (fd_ac1 (by omega)) ⟨by decide, nm_r (fd_ac2 (by omega)) ?_⟩⟩
    have ha1 : (1 : Int) ≤ 1 + ((ac / 41 : Nat) : Int) := by omega
    have ha2 : 1 + ((ac / 41 : Nat) : Int) ≤ 20 := by omega
    have hc1 : (-20 : Int) ≤ ((ac % 41 : Nat) : Int) - 20 := by omega
    have hc2 : ((ac % 41 : Nat) : Int) - 20 ≤ 20 := by omega
    have hnx : ∀ f L, (∃ L2, L = L1 ++ L2 ∧ fd_P3 F f L1 L2 (1 + ((ac / 41 : Nat) : Int)) (((ac % 41 : Nat) : Int) - 20 + 1) (-100)) → fd_PS F L1 (ac + 1) f L := fun f L h => fd_PS_next h
    have hP' : ∃ L2, L = L1 ++ L2 ∧ fd_P3 F f L1 L2 (1 + ((ac / 41 : Nat) : Int)) (((ac % 41 : Nat) : Int) - 20) (-100) := hP
    clear hP3
    generalize hae : 1 + ((ac / 41 : Nat) : Int) = a at *
    generalize hce : ((ac % 41 : Nat) : Int) - 20 = c at *
    have has : fd_s a := fd_s_lit (by omega)
    have hcs : fd_s c := fd_s_lit (by omega)
    have haz : ¬ fd_l a = 0 := fun z => by have := (fd_l_z has).mp z; omega
    have hfs : ∀ i, fd_s (f i) := fun i => fd_s_of (hB i) (by decide)
    refine ys_deg hwh hB (by decide) hL5 (fun z => absurd z (fd_St_nz hst)) (fun d hd hD => ?_)
    by_cases hd4 : d < 4
    · exact br_t (nI_lt (b := 4) hd4 (by decide)) (hskip fun d' hD' h4 => by have := fd_D_u hD hD'; omega)
    · refine br_f (nI_nlt (b := 4) (by omega) (by omega)) ?_
      by_cases hc0 : c = 0
      · exact br_t (by rw [hc0]; exact fd_l_0) (hskip fun d' _ _ m' => by rw [hc0]; exact fd_LF_0 hLF)
      · have hcz : ¬ fd_l c = 0 := fun z => hc0 ((fd_l_z hcs).mp z)
        refine br_f hcz ⟨vp_in_nI hd (by decide), haz, ?_⟩
        rw [nI_clamp (by omega), hwh d hd, hwh 0 (by decide)]
        refine br_c (fun z => ⟨hcz, br_c (fun _ => ?_) (fun z0 => hskip fun d' _ _ m' hdv => z0 ((fd_l_rem0 (hfs 0) hcs).mpr (fd_q_low hdv)))⟩) (fun z => hskip fun d' _ _ m' hdv => z ((fd_l_rem0 (hfs d) has).mpr (fd_q_lead (by omega) hD hdv)))
        refine ys_tryMiddle hF hp ha1 ha2 hc1 hc2 hP' hwh hpt (fun f L wh td yr yq pt hP hwh hpt => ?_)
        dsimp only
        exact nm_r (nI_1 ac) (ih (ac + 1) f L wh td yr yq pt (by omega) (hnx f L hP) hwh hpt)
theorem ys_trySquare {F f : Nat → Int} {L1 : List (Nat → Int)} {wh td yr yq pt : Nat → Int64} (hF : fd_H F) (hp : fd_pr F) (hst : fd_St F f L1) (hl : fd_LF f) (hwh : fd_R wh f) (hpt : fd_AL pt L1)
    (H : ∀ f L L2 wh td yr yq pt, L = L1 ++ L2 → fd_P3 F f L1 L2 21 (-20) (-100) → fd_R wh f → fd_AL pt L → post (nI L.length, ot, rg, md, wh, td, yr, yq, pt, kp, dg)) : wpY_trySquare post (nI L1.length, ot, rg, md, wh, td, yr, yq, pt, kp, dg) :=
  ⟨820 + 1, ys_sq2 hF hp (fun f L wh td yr yq pt hP hwh hpt => by obtain ⟨L2, e2, h⟩ := hP; exact H f L L2 wh td yr yq pt e2 h hwh hpt) 820 0 f L1 wh td yr yq pt (by omega) ⟨[], by rw [List.append_nil], fd_P3_0 hst hl⟩ hwh hpt⟩
theorem ys_sqZ {cn : Int32} {wh td yr yq pt : Nat → Int64} (hwh : fd_R wh fd_z) (H : post (cn, ot, rg, md, wh, td, yr, yq, pt, kp, dg)) : wpY_trySquare post (cn, ot, rg, md, wh, td, yr, yq, pt, kp, dg) := by
  refine fd_upl (fun n x => wY_trySquare_2 post n x cn ot rg md wh td yr yq pt kp dg) (fun _ => True) 820 (fun h n => br_t (nI_le (a := 820) (b := 820) (Nat.le_refl _) (by decide)) H) (fun n i hi h hW => ?_)
  refine br_f (nI_ge (b := 820) hi (by decide)) ⟨by decide, nm_e ⟨by decide, nm_e (ys_deg (f := fd_z) (M := 0) hwh (fun i => Nat.le_refl 0) (by decide) (fun _ _ => rfl) (fun _ => br_t (by decide) (nm_r (nI_1 i) (hW trivial))) (fun d hd hD => absurd rfl hD.1))⟩⟩
end
